def tb_X12_helps : List (Nat × Nat × Nat × Instr) := [(0, 1, 1, .aload_n 0), (1, 3, 4, .invokevirtual 336), (4, 3, 7, .ifCond .ne 6), (7, 2, 9, .bipush (-2)), (9, 1, 10, .ireturn), (10, 1, 11, .aload_n 0), (11, 3, 14, .invokevirtual 412), (14, 1, 15, .istore_n 1), (15, 1, 16, .iconst (-1)), (16, 1, 17, .istore_n 2), (17, 1, 18, .iconst 0), (18, 1, 19, .istore_n 3), (19, 1, 20, .iload_n 3), (20, 1, 21, .aload_n 0), (21, 3, 24, .getfield 9), (24, 1, 25, .iconst 3), (25, 1, 26, .iaload), (26, 3, 29, .if_icmp .ge 119), (29, 1, 30, .aload_n 0), (30, 1, 31, .iload_n 3), (31, 1, 32, .iconst 2), (32, 3, 35, .invokevirtual 98), (35, 1, 36, .iconst (-1)), (36, 3, 39, .if_icmp .eq 6), (39, 3, 42, .goto 100), (42, 1, 43, .iconst 0), (43, 2, 45, .istore 4), (45, 2, 47, .iload 4), (47, 1, 48, .iconst 4), (48, 1, 49, .aload_n 0), (49, 3, 52, .getfield 9), (52, 1, 53, .iconst 4), (53, 1, 54, .iaload), (54, 1, 55, .imul), (55, 3, 58, .if_icmp .ge 84), (58, 1, 59, .aload_n 0), (59, 2, 61, .iload 4), (61, 1, 62, .iconst 4), (62, 1, 63, .idiv), (63, 2, 65, .iload 4), (65, 1, 66, .iconst 4), (66, 1, 67, .irem), (67, 3, 70, .invokevirtual 277), (70, 1, 71, .iconst (-1)), (71, 3, 74, .if_icmp .eq 6), (74, 3, 77, .goto 59), (77, 1, 78, .aload_n 0), (78, 1, 79, .iload_n 3), (79, 2, 81, .iload 4), (81, 1, 82, .iconst 4), (82, 1, 83, .idiv), (83, 2, 85, .iload 4), (85, 1, 86, .iconst 4), (86, 1, 87, .irem), (87, 3, 90, .invokevirtual 348), (90, 1, 91, .aload_n 0), (91, 3, 94, .invokevirtual 412), (94, 2, 96, .istore 5), (96, 1, 97, .aload_n 0), (97, 1, 98, .iload_n 3), (98, 1, 99, .iconst (-1)), (99, 1, 100, .iconst (-1)), (100, 3, 103, .invokevirtual 348), (103, 2, 105, .iload 5), (105, 1, 106, .iload_n 1), (106, 3, 109, .if_icmp .gt 6), (109, 3, 112, .goto 24), (112, 2, 114, .iload 5), (114, 1, 115, .istore_n 1), (115, 2, 117, .bipush 100), (117, 1, 118, .iload_n 3), (118, 1, 119, .imul), (119, 2, 121, .bipush 10), (121, 2, 123, .iload 4), (123, 1, 124, .iconst 4), (124, 1, 125, .idiv), (125, 1, 126, .imul), (126, 1, 127, .iadd), (127, 2, 129, .iload 4), (129, 1, 130, .iconst 4), (130, 1, 131, .irem), (131, 1, 132, .iadd), (132, 1, 133, .istore_n 2), (133, 3, 136, .iinc 4 1), (136, 3, 139, .goto (-91)), (139, 3, 142, .iinc 3 1), (142, 3, 145, .goto (-123)), (145, 1, 146, .iload_n 2), (146, 1, 147, .ireturn)]
set_option maxRecDepth 100000 in
theorem tk_X12_helps (k : Nat) {pc n pc2 : Nat} {i : Instr} (hk : tb_X12_helps[k]? = some (pc, n, pc2, i)) : on_dq cX12_helps pc n pc2 i := on_ta (by decide +kernel) k hk
theorem ms_X12_helps : on_Mv yX12_helps cX12_helps 6 (some .int) 0 := ⟨kw_8_235, kw_8_233, kw_8_234, kw_1_13, by decide, by decide, by decide +kernel⟩
def pf_X12_helps_45 (k19 : Int → Int → Int → on_S → Option on_O) : Nat → Int → Int → Int → Int → on_S → Option on_O
  | 0, _, _, _, _, _ => none
  | nf + 1, l1, l2, l3, l4, σ =>
    on_Rd σ 78 687 4 fun v8 =>
    on_Lt l4 (4 * v8) (
      on_Dv l4 4 fun v9 =>
      on_Rm l4 4 fun v10 =>
      on_Cl (pf_X12_manAt v9 v10 σ) fun v11 σ12 =>
      on_Eq v11 (-1) (
        on_Dv l4 4 fun v13 =>
        on_Rm l4 4 fun v14 =>
        on_Cl (pf_X12_putAt l3 v13 v14 σ12) fun _ σ16 =>
        on_Cl (pf_X12_allCarry σ16) fun v17 σ18 =>
        on_Cl (pf_X12_putAt l3 (-1) (-1) σ18) fun _ σ20 =>
        on_Le v17 l1 (
          pf_X12_helps_45 k19 nf l1 l2 l3 (l4 + 1) σ20) (
          on_Dv l4 4 fun v21 =>
          on_Rm l4 4 fun v22 =>
          pf_X12_helps_45 k19 nf v17 (((100 * l3) + (10 * v21)) + v22) l3 (l4 + 1) σ20)) (
        pf_X12_helps_45 k19 nf l1 l2 l3 (l4 + 1) σ12)) (
      k19 l1 l2 (l3 + 1) σ)
def pf_X12_helps_19 : Nat → Int → Int → Int → on_S → Option on_O
  | 0, _, _, _, _ => none
  | nf + 1, l1, l2, l3, σ =>
    on_Rd σ 78 687 3 fun v5 =>
    on_Lt l3 v5 (
      on_Cl (pf_X12_ofMan l3 2 σ) fun v6 σ7 =>
      on_Eq v6 (-1) (
        pf_X12_helps_45 (pf_X12_helps_19 nf) on_N l1 l2 l3 0 σ7) (
        pf_X12_helps_19 nf l1 l2 (l3 + 1) σ7)) (
      some (l2, σ))
def pf_X12_helps (σ : on_S) : Option on_O :=
  on_Cl (pf_X12_isStreet σ) fun v1 σ2 =>
  on_Eq v1 0 (
    some ((-2), σ2)) (
    on_Cl (pf_X12_allCarry σ2) fun v3 σ4 =>
    pf_X12_helps_19 on_N v3 (-1) 0 σ4)
set_option maxRecDepth 100000 in
set_option maxHeartbeats 4000000 in
theorem gl_X12_helps_45 {E : on_E} {z n : Nat} (X : on_X) (k19 : Int → Int → Int → on_S → Option on_O) (hN : 100 ≤ n) (hk19 : ∀ (l1 : Int) (l2 : Int) (l3 : Int) (σ : on_S), on_G X E cX12_helps RX12 (some .int) 7 164 6 z n σ (k19 l1 l2 l3 σ) 19 [some (.ref (z + 77)), some (.int (on_i l1)), some (.int (on_i l2)), some (.int (on_i l3)), none, none] []) : ∀ (nf : Nat) (l1 : Int) (l2 : Int) (l3 : Int) (l4 : Int) (σ : on_S), on_G X E cX12_helps RX12 (some .int) 7 164 6 z n σ (pf_X12_helps_45 k19 nf l1 l2 l3 l4 σ) 45 [some (.ref (z + 77)), some (.int (on_i l1)), some (.int (on_i l2)), some (.int (on_i l3)), some (.int (on_i l4)), none] [] := by
  intro nf
  induction nf with
  | zero => intro l1 l2 l3 l4 σ; exact on_none
  | succ nf ih =>
    intro l1 l2 l3 l4 σ
    rw [pf_X12_helps_45]
    refine on_il4 (tk_X12_helps 27 rfl) ?_
    refine on_iconst (tk_X12_helps 28 rfl) ?_
    refine on_al0 (tk_X12_helps 29 rfl) ?_
    refine fg_12_1 hN kw_6_141 (tk_X12_helps 30 rfl) ?_
    refine on_iconst (tk_X12_helps 31 rfl) ?_
    refine on_iald (ltc_78 hN) sh_78 (tk_X12_helps 32 rfl) fun v8 => ?_
    refine on_imul (tk_X12_helps 33 rfl) ?_
    refine on_icmp_ge (tk_X12_helps 34 rfl) (tgt := 139) (by decide) ?_ ?_
    · refine on_al0 (tk_X12_helps 35 rfl) ?_
      refine on_il4 (tk_X12_helps 36 rfl) ?_
      refine on_iconst (tk_X12_helps 37 rfl) ?_
      refine on_idiv (tk_X12_helps 38 rfl) fun v9 => ?_
      refine on_il4 (tk_X12_helps 39 rfl) ?_
      refine on_iconst (tk_X12_helps 40 rfl) ?_
      refine on_irem (tk_X12_helps 41 rfl) fun v10 => ?_
      refine on_cV2i 12 ms_X12_manAt kw_7_213 rfl rfl (ltc_77 hN) sh_77 (ct_X12_manAt hN) rfl (tk_X12_helps 42 rfl) fun v11 σ12 => ?_
      refine on_iconst (tk_X12_helps 43 rfl) ?_
      refine on_icmp_eq (tk_X12_helps 44 rfl) (tgt := 77) (by decide) ?_ ?_
      · refine on_goto (tk_X12_helps 45 rfl) (tgt := 133) (by decide) ?_
        refine on_inc4 rfl (tk_X12_helps 83 rfl) ?_
        refine on_goto (tk_X12_helps 84 rfl) (tgt := 45) (by decide) ?_
        exact ih _ _ _ _ _
      · refine on_al0 (tk_X12_helps 46 rfl) ?_
        refine on_il3 (tk_X12_helps 47 rfl) ?_
        refine on_il4 (tk_X12_helps 48 rfl) ?_
        refine on_iconst (tk_X12_helps 49 rfl) ?_
        refine on_idiv (tk_X12_helps 50 rfl) fun v13 => ?_
        refine on_il4 (tk_X12_helps 51 rfl) ?_
        refine on_iconst (tk_X12_helps 52 rfl) ?_
        refine on_irem (tk_X12_helps 53 rfl) fun v14 => ?_
        refine on_cV3v 12 ms_X12_putAt kw_8_101 rfl rfl (ltc_77 hN) sh_77 (ct_X12_putAt hN) rfl (tk_X12_helps 54 rfl) fun v15 σ16 => ?_
        refine on_al0 (tk_X12_helps 55 rfl) ?_
        refine on_cV0i 12 ms_X12_allCarry kw_8_224 rfl rfl (ltc_77 hN) sh_77 (ct_X12_allCarry hN) rfl (tk_X12_helps 56 rfl) fun v17 σ18 => ?_
        refine on_is5 rfl (tk_X12_helps 57 rfl) ?_
        refine on_al0 (tk_X12_helps 58 rfl) ?_
        refine on_il3 (tk_X12_helps 59 rfl) ?_
        refine on_iconst (tk_X12_helps 60 rfl) ?_
        refine on_iconst (tk_X12_helps 61 rfl) ?_
        refine on_cV3v 12 ms_X12_putAt kw_8_101 rfl rfl (ltc_77 hN) sh_77 (ct_X12_putAt hN) rfl (tk_X12_helps 62 rfl) fun v19 σ20 => ?_
        refine on_il5 (tk_X12_helps 63 rfl) ?_
        refine on_il1 (tk_X12_helps 64 rfl) ?_
        refine on_icmp_gt (tk_X12_helps 65 rfl) (tgt := 112) (by decide) ?_ ?_
        · refine on_goto (tk_X12_helps 66 rfl) (tgt := 133) (by decide) ?_
          refine on_inc4 rfl (tk_X12_helps 83 rfl) ?_
          refine on_goto (tk_X12_helps 84 rfl) (tgt := 45) (by decide) ?_
          refine on_dr5 ?_
          exact ih _ _ _ _ _
        · refine on_il5 (tk_X12_helps 67 rfl) ?_
          refine on_is1 rfl (tk_X12_helps 68 rfl) ?_
          refine on_bipush (tk_X12_helps 69 rfl) bp_100 ?_
          refine on_il3 (tk_X12_helps 70 rfl) ?_
          refine on_imul (tk_X12_helps 71 rfl) ?_
          refine on_bipush (tk_X12_helps 72 rfl) bp_10 ?_
          refine on_il4 (tk_X12_helps 73 rfl) ?_
          refine on_iconst (tk_X12_helps 74 rfl) ?_
          refine on_idiv (tk_X12_helps 75 rfl) fun v21 => ?_
          refine on_imul (tk_X12_helps 76 rfl) ?_
          refine on_iadd (tk_X12_helps 77 rfl) ?_
          refine on_il4 (tk_X12_helps 78 rfl) ?_
          refine on_iconst (tk_X12_helps 79 rfl) ?_
          refine on_irem (tk_X12_helps 80 rfl) fun v22 => ?_
          refine on_iadd (tk_X12_helps 81 rfl) ?_
          refine on_is2 rfl (tk_X12_helps 82 rfl) ?_
          refine on_inc4 rfl (tk_X12_helps 83 rfl) ?_
          refine on_goto (tk_X12_helps 84 rfl) (tgt := 45) (by decide) ?_
          refine on_dr5 ?_
          exact ih _ _ _ _ _
    · refine on_inc3 rfl (tk_X12_helps 85 rfl) ?_
      refine on_goto (tk_X12_helps 86 rfl) (tgt := 19) (by decide) ?_
      refine on_dr4 ?_
      exact hk19 _ _ _ _
set_option maxRecDepth 100000 in
set_option maxHeartbeats 4000000 in
theorem gl_X12_helps_19 {E : on_E} {z n : Nat} (X : on_X) (hN : 100 ≤ n) : ∀ (nf : Nat) (l1 : Int) (l2 : Int) (l3 : Int) (σ : on_S), on_G X E cX12_helps RX12 (some .int) 7 164 6 z n σ (pf_X12_helps_19 nf l1 l2 l3 σ) 19 [some (.ref (z + 77)), some (.int (on_i l1)), some (.int (on_i l2)), some (.int (on_i l3)), none, none] [] := by
  intro nf
  induction nf with
  | zero => intro l1 l2 l3 σ; exact on_none
  | succ nf ih =>
    intro l1 l2 l3 σ
    rw [pf_X12_helps_19]
    refine on_il3 (tk_X12_helps 12 rfl) ?_
    refine on_al0 (tk_X12_helps 13 rfl) ?_
    refine fg_12_1 hN kw_6_141 (tk_X12_helps 14 rfl) ?_
    refine on_iconst (tk_X12_helps 15 rfl) ?_
    refine on_iald (ltc_78 hN) sh_78 (tk_X12_helps 16 rfl) fun v5 => ?_
    refine on_icmp_ge (tk_X12_helps 17 rfl) (tgt := 145) (by decide) ?_ ?_
    · refine on_al0 (tk_X12_helps 18 rfl) ?_
      refine on_il3 (tk_X12_helps 19 rfl) ?_
      refine on_iconst (tk_X12_helps 20 rfl) ?_
      refine on_cV2i 12 ms_X12_ofMan kw_7_175 rfl rfl (ltc_77 hN) sh_77 (ct_X12_ofMan hN) rfl (tk_X12_helps 21 rfl) fun v6 σ7 => ?_
      refine on_iconst (tk_X12_helps 22 rfl) ?_
      refine on_icmp_eq (tk_X12_helps 23 rfl) (tgt := 42) (by decide) ?_ ?_
      · refine on_goto (tk_X12_helps 24 rfl) (tgt := 139) (by decide) ?_
        refine on_inc3 rfl (tk_X12_helps 85 rfl) ?_
        refine on_goto (tk_X12_helps 86 rfl) (tgt := 19) (by decide) ?_
        exact ih _ _ _ _
      · refine on_iconst (tk_X12_helps 25 rfl) ?_
        refine on_is4 rfl (tk_X12_helps 26 rfl) ?_
        exact gl_X12_helps_45 X _ hN ih on_N _ _ _ _ _
    · refine on_il2 (tk_X12_helps 87 rfl) ?_
      exact on_iret (tk_X12_helps 88 rfl)
set_option maxRecDepth 100000 in
set_option maxHeartbeats 4000000 in
theorem ct_X12_helps {E : on_E} {z n : Nat} (hN : 100 ≤ n) {σ : on_S} : on_Sp E yX12_helps cX12_helps 6 (some .int) 7 164 z n [.ref (z + 77)] σ (pf_X12_helps  σ) := by
  refine on_met [some (.ref (z + 77)), none, none, none, none, none] (by decide) rfl rfl (fun X => ?_)
  rw [pf_X12_helps]
  refine on_al0 (tk_X12_helps 0 rfl) ?_
  refine on_cV0z 12 ms_X12_isStreet kw_8_73 rfl rfl (ltc_77 hN) sh_77 (ct_X12_isStreet hN) rfl (tk_X12_helps 1 rfl) fun v1 σ2 => ?_
  refine on_if_ne (tk_X12_helps 2 rfl) (tgt := 10) (by decide) ?_ ?_
  · refine on_bipush (tk_X12_helps 3 rfl) bp_m2 ?_
    exact on_iret (tk_X12_helps 4 rfl)
  · refine on_al0 (tk_X12_helps 5 rfl) ?_
    refine on_cV0i 12 ms_X12_allCarry kw_8_224 rfl rfl (ltc_77 hN) sh_77 (ct_X12_allCarry hN) rfl (tk_X12_helps 6 rfl) fun v3 σ4 => ?_
    refine on_is1 rfl (tk_X12_helps 7 rfl) ?_
    refine on_iconst (tk_X12_helps 8 rfl) ?_
    refine on_is2 rfl (tk_X12_helps 9 rfl) ?_
    refine on_iconst (tk_X12_helps 10 rfl) ?_
    refine on_is3 rfl (tk_X12_helps 11 rfl) ?_
    exact gl_X12_helps_19 X  hN on_N _ _ _ _
def tb_X12_roadOf : List (Nat × Nat × Nat × Instr) := [(0, 1, 1, .aload_n 0), (1, 3, 4, .getfield 9), (4, 3, 7, .sipush 191), (7, 1, 8, .iconst 4), (8, 1, 9, .iload_n 1), (9, 1, 10, .imul), (10, 1, 11, .iadd), (11, 1, 12, .iload_n 2), (12, 1, 13, .iadd), (13, 1, 14, .iaload), (14, 1, 15, .ireturn)]
set_option maxRecDepth 100000 in
theorem tk_X12_roadOf (k : Nat) {pc n pc2 : Nat} {i : Instr} (hk : tb_X12_roadOf[k]? = some (pc, n, pc2, i)) : on_dq cX12_roadOf pc n pc2 i := on_ta (by decide +kernel) k hk
theorem ms_X12_roadOf : on_Mv yX12_roadOf cX12_roadOf 3 (some .int) 2 := ⟨kw_9_8, kw_9_7, (on_mp (q := (yX12_roadOf, 37)) (by decide +kernel)), kw_1_13, by decide, by decide, by decide +kernel⟩
def pf_X12_roadOf (p0 : Int) (p1 : Int) (σ : on_S) : Option on_O :=
  on_Rd σ 78 687 ((191 + (4 * p0)) + p1) fun v1 =>
  some (v1, σ)
set_option maxRecDepth 100000 in
set_option maxHeartbeats 4000000 in
theorem ct_X12_roadOf {E : on_E} {z n : Nat} {p0 : Int} {p1 : Int} (hN : 100 ≤ n) {σ : on_S} : on_Sp E yX12_roadOf cX12_roadOf 3 (some .int) 0 0 z n [.ref (z + 77), .int (on_i p0), .int (on_i p1)] σ (pf_X12_roadOf p0 p1 σ) := by
  refine on_met [some (.ref (z + 77)), some (.int (on_i p0)), some (.int (on_i p1))] (by decide) rfl rfl (fun X => ?_)
  rw [pf_X12_roadOf]
  refine on_al0 (tk_X12_roadOf 0 rfl) ?_
  refine fg_12_1 hN kw_6_141 (tk_X12_roadOf 1 rfl) ?_
  refine on_sipush (tk_X12_roadOf 2 rfl) sp_191 ?_
  refine on_iconst (tk_X12_roadOf 3 rfl) ?_
  refine on_il1 (tk_X12_roadOf 4 rfl) ?_
  refine on_imul (tk_X12_roadOf 5 rfl) ?_
  refine on_iadd (tk_X12_roadOf 6 rfl) ?_
  refine on_il2 (tk_X12_roadOf 7 rfl) ?_
  refine on_iadd (tk_X12_roadOf 8 rfl) ?_
  refine on_iald (ltc_78 hN) sh_78 (tk_X12_roadOf 9 rfl) fun v1 => ?_
  exact on_iret (tk_X12_roadOf 10 rfl)
def tb_X12_spreads : List (Nat × Nat × Nat × Instr) := [(0, 1, 1, .iconst 0), (1, 1, 2, .istore_n 2), (2, 1, 3, .iload_n 2), (3, 1, 4, .iconst 4), (4, 3, 7, .if_icmp .ge 27), (7, 1, 8, .aload_n 0), (8, 3, 11, .getfield 61), (11, 1, 12, .iload_n 2), (12, 1, 13, .iload_n 2), (13, 1, 14, .iload_n 1), (14, 3, 17, .if_icmp .ne 7), (17, 1, 18, .iconst 0), (18, 3, 21, .goto 6), (21, 3, 24, .ldc_w 418), (24, 1, 25, .iastore), (25, 3, 28, .iinc 2 1), (28, 3, 31, .goto (-26)), (31, 1, 32, .iconst 0), (32, 1, 33, .istore_n 2), (33, 1, 34, .iload_n 2), (34, 1, 35, .iconst 4), (35, 3, 38, .if_icmp .ge 87), (38, 1, 39, .iconst 0), (39, 1, 40, .istore_n 3), (40, 1, 41, .iload_n 3), (41, 1, 42, .aload_n 0), (42, 3, 45, .getfield 9), (45, 1, 46, .iconst 0), (46, 1, 47, .iaload), (47, 3, 50, .if_icmp .ge 69), (50, 1, 51, .iconst 0), (51, 2, 53, .istore 4), (53, 2, 55, .iload 4), (55, 1, 56, .aload_n 0), (56, 3, 59, .getfield 9), (59, 1, 60, .iconst 0), (60, 1, 61, .iaload), (61, 3, 64, .if_icmp .ge 49), (64, 1, 65, .aload_n 0), (65, 1, 66, .iload_n 3), (66, 2, 68, .iload 4), (68, 3, 71, .invokevirtual 419), (71, 3, 74, .ifCond .le 33), (74, 1, 75, .aload_n 0), (75, 3, 78, .getfield 61), (78, 1, 79, .iload_n 3), (79, 1, 80, .aload_n 0), (80, 3, 83, .getfield 61), (83, 1, 84, .iload_n 3), (84, 1, 85, .iaload), (85, 1, 86, .aload_n 0), (86, 3, 89, .getfield 61), (89, 2, 91, .iload 4), (91, 1, 92, .iaload), (92, 1, 93, .aload_n 0), (93, 1, 94, .iload_n 3), (94, 2, 96, .iload 4), (96, 3, 99, .invokevirtual 419), (99, 1, 100, .iadd), (100, 3, 103, .invokestatic 141), (103, 1, 104, .iastore), (104, 3, 107, .iinc 4 1), (107, 3, 110, .goto (-54)), (110, 3, 113, .iinc 3 1), (113, 3, 116, .goto (-73)), (116, 3, 119, .iinc 2 1), (119, 3, 122, .goto (-86)), (122, 1, 123, .return_)]
set_option maxRecDepth 100000 in
theorem tk_X12_spreads (k : Nat) {pc n pc2 : Nat} {i : Instr} (hk : tb_X12_spreads[k]? = some (pc, n, pc2, i)) : on_dq cX12_spreads pc n pc2 i := on_ta (by decide +kernel) k hk
theorem ms_X12_spreads : on_Mv yX12_spreads cX12_spreads 5 none 1 := ⟨kw_9_3, kw_9_2, (on_mp (q := (yX12_spreads, 37)) (by decide +kernel)), kw_1_13, by decide, by decide, by decide +kernel⟩
def pf_X12_spreads_24 (k2 : Int → Int → on_S → Option on_O) (l1 : Int) (l2 : Int) (s1 : Int) (s2 : Int) (σ : on_S) : Option on_O :=
  on_Wr σ 93 4 s1 s2 fun σ1 =>
  k2 l1 (l2 + 1) σ1
def pf_X12_spreads_53 (k33 : Int → on_S → Option on_O) (k40 : Int → Int → on_S → Option on_O) : Nat → Int → Int → Int → on_S → Option on_O
  | 0, _, _, _, _ => none
  | nf + 1, l2, l3, l4, σ =>
    on_Rd σ 78 687 0 fun v3 =>
    on_Lt l4 v3 (
      on_Cl (pf_X12_roadOf l3 l4 σ) fun v4 σ5 =>
      on_Le v4 0 (
        pf_X12_spreads_53 k33 k40 nf l2 l3 (l4 + 1) σ5) (
        on_Rd σ5 93 4 l3 fun v6 =>
        on_Rd σ5 93 4 l4 fun v7 =>
        on_Cl (pf_X12_roadOf l3 l4 σ5) fun v8 σ9 =>
        on_Mn v6 (v7 + v8) fun v10 =>
        on_Wr σ9 93 4 l3 v10 fun σ11 =>
        pf_X12_spreads_53 k33 k40 nf l2 l3 (l4 + 1) σ11)) (
      k40 l2 (l3 + 1) σ)
def pf_X12_spreads_40 (k33 : Int → on_S → Option on_O) : Nat → Int → Int → on_S → Option on_O
  | 0, _, _, _ => none
  | nf + 1, l2, l3, σ =>
    on_Rd σ 78 687 0 fun v2 =>
    on_Lt l3 v2 (
      pf_X12_spreads_53 k33 (pf_X12_spreads_40 k33 nf) on_N l2 l3 0 σ) (
      k33 (l2 + 1) σ)
def pf_X12_spreads_33 : Nat → Int → on_S → Option on_O
  | 0, _, _ => none
  | nf + 1, l2, σ =>
    on_Lt l2 4 (
      pf_X12_spreads_40 (pf_X12_spreads_33 nf) on_N l2 0 σ) (
      some (0, σ))
def pf_X12_spreads_2 : Nat → Int → Int → on_S → Option on_O
  | 0, _, _, _ => none
  | nf + 1, l1, l2, σ =>
    on_Lt l2 4 (
      on_Eq l2 l1 (
        pf_X12_spreads_24 (pf_X12_spreads_2 nf) l1 l2 l2 0 σ) (
        pf_X12_spreads_24 (pf_X12_spreads_2 nf) l1 l2 l2 1000000 σ)) (
      pf_X12_spreads_33 on_N 0 σ)
def pf_X12_spreads (p0 : Int) (σ : on_S) : Option on_O :=
  pf_X12_spreads_2 on_N p0 0 σ
set_option maxRecDepth 100000 in
set_option maxHeartbeats 4000000 in
theorem gb_X12_spreads_24 {E : on_E} {z n : Nat} (X : on_X) (k2 : Int → Int → on_S → Option on_O) (hN : 100 ≤ n) (hk2 : ∀ (l1 : Int) (l2 : Int) (σ : on_S), on_G X E cX12_spreads RX12 none 1 22 5 z n σ (k2 l1 l2 σ) 2 [some (.ref (z + 77)), some (.int (on_i l1)), some (.int (on_i l2)), none, none] []) (l1 : Int) (l2 : Int) (s1 : Int) (s2 : Int) (σ : on_S) : on_G X E cX12_spreads RX12 none 1 22 5 z n σ (pf_X12_spreads_24 k2 l1 l2 s1 s2 σ) 24 [some (.ref (z + 77)), some (.int (on_i l1)), some (.int (on_i l2)), none, none] [.int (on_i s2), .int (on_i s1), .ref (z + 93)] := by
  rw [pf_X12_spreads_24]
  refine on_iast (ltc_93 hN) sh_93 (tk_X12_spreads 14 rfl) fun σ1 => ?_
  refine on_inc2 rfl (tk_X12_spreads 15 rfl) ?_
  refine on_goto (tk_X12_spreads 16 rfl) (tgt := 2) (by decide) ?_
  exact hk2 _ _ _
set_option maxRecDepth 100000 in
set_option maxHeartbeats 4000000 in
theorem gl_X12_spreads_53 {E : on_E} {z n : Nat} (X : on_X) (k33 : Int → on_S → Option on_O) (k40 : Int → Int → on_S → Option on_O) (hN : 100 ≤ n) (hk33 : ∀ (l2 : Int) (σ : on_S), on_G X E cX12_spreads RX12 none 1 22 5 z n σ (k33 l2 σ) 33 [some (.ref (z + 77)), none, some (.int (on_i l2)), none, none] []) (hk40 : ∀ (l2 : Int) (l3 : Int) (σ : on_S), on_G X E cX12_spreads RX12 none 1 22 5 z n σ (k40 l2 l3 σ) 40 [some (.ref (z + 77)), none, some (.int (on_i l2)), some (.int (on_i l3)), none] []) : ∀ (nf : Nat) (l2 : Int) (l3 : Int) (l4 : Int) (σ : on_S), on_G X E cX12_spreads RX12 none 1 22 5 z n σ (pf_X12_spreads_53 k33 k40 nf l2 l3 l4 σ) 53 [some (.ref (z + 77)), none, some (.int (on_i l2)), some (.int (on_i l3)), some (.int (on_i l4))] [] := by
  intro nf
  induction nf with
  | zero => intro l2 l3 l4 σ; exact on_none
  | succ nf ih =>
    intro l2 l3 l4 σ
    rw [pf_X12_spreads_53]
    refine on_il4 (tk_X12_spreads 32 rfl) ?_
    refine on_al0 (tk_X12_spreads 33 rfl) ?_
    refine fg_12_1 hN kw_6_141 (tk_X12_spreads 34 rfl) ?_
    refine on_iconst (tk_X12_spreads 35 rfl) ?_
    refine on_iald (ltc_78 hN) sh_78 (tk_X12_spreads 36 rfl) fun v3 => ?_
    refine on_icmp_ge (tk_X12_spreads 37 rfl) (tgt := 110) (by decide) ?_ ?_
    · refine on_al0 (tk_X12_spreads 38 rfl) ?_
      refine on_il3 (tk_X12_spreads 39 rfl) ?_
      refine on_il4 (tk_X12_spreads 40 rfl) ?_
      refine on_cV2i 12 ms_X12_roadOf kw_9_5 rfl rfl (ltc_77 hN) sh_77 (ct_X12_roadOf hN) rfl (tk_X12_spreads 41 rfl) fun v4 σ5 => ?_
      refine on_if_le (tk_X12_spreads 42 rfl) (tgt := 104) (by decide) ?_ ?_
      · refine on_al0 (tk_X12_spreads 43 rfl) ?_
        refine fg_12_28 hN kw_6_168 (tk_X12_spreads 44 rfl) ?_
        refine on_il3 (tk_X12_spreads 45 rfl) ?_
        refine on_al0 (tk_X12_spreads 46 rfl) ?_
        refine fg_12_28 hN kw_6_168 (tk_X12_spreads 47 rfl) ?_
        refine on_il3 (tk_X12_spreads 48 rfl) ?_
        refine on_iald (ltc_93 hN) sh_93 (tk_X12_spreads 49 rfl) fun v6 => ?_
        refine on_al0 (tk_X12_spreads 50 rfl) ?_
        refine fg_12_28 hN kw_6_168 (tk_X12_spreads 51 rfl) ?_
        refine on_il4 (tk_X12_spreads 52 rfl) ?_
        refine on_iald (ltc_93 hN) sh_93 (tk_X12_spreads 53 rfl) fun v7 => ?_
        refine on_al0 (tk_X12_spreads 54 rfl) ?_
        refine on_il3 (tk_X12_spreads 55 rfl) ?_
        refine on_il4 (tk_X12_spreads 56 rfl) ?_
        refine on_cV2i 12 ms_X12_roadOf kw_9_5 rfl rfl (ltc_77 hN) sh_77 (ct_X12_roadOf hN) rfl (tk_X12_spreads 57 rfl) fun v8 σ9 => ?_
        refine on_iadd (tk_X12_spreads 58 rfl) ?_
        refine on_min kw_7_54 kwM_min_s kwM_i kwM_min_c rfl (tk_X12_spreads 59 rfl) fun v10 => ?_
        refine on_iast (ltc_93 hN) sh_93 (tk_X12_spreads 60 rfl) fun σ11 => ?_
        refine on_inc4 rfl (tk_X12_spreads 61 rfl) ?_
        refine on_goto (tk_X12_spreads 62 rfl) (tgt := 53) (by decide) ?_
        exact ih _ _ _ _
      · refine on_inc4 rfl (tk_X12_spreads 61 rfl) ?_
        refine on_goto (tk_X12_spreads 62 rfl) (tgt := 53) (by decide) ?_
        exact ih _ _ _ _
    · refine on_inc3 rfl (tk_X12_spreads 63 rfl) ?_
      refine on_goto (tk_X12_spreads 64 rfl) (tgt := 40) (by decide) ?_
      refine on_dr4 ?_
      exact hk40 _ _ _
set_option maxRecDepth 100000 in
set_option maxHeartbeats 4000000 in
theorem gl_X12_spreads_40 {E : on_E} {z n : Nat} (X : on_X) (k33 : Int → on_S → Option on_O) (hN : 100 ≤ n) (hk33 : ∀ (l2 : Int) (σ : on_S), on_G X E cX12_spreads RX12 none 1 22 5 z n σ (k33 l2 σ) 33 [some (.ref (z + 77)), none, some (.int (on_i l2)), none, none] []) : ∀ (nf : Nat) (l2 : Int) (l3 : Int) (σ : on_S), on_G X E cX12_spreads RX12 none 1 22 5 z n σ (pf_X12_spreads_40 k33 nf l2 l3 σ) 40 [some (.ref (z + 77)), none, some (.int (on_i l2)), some (.int (on_i l3)), none] [] := by
  intro nf
  induction nf with
  | zero => intro l2 l3 σ; exact on_none
  | succ nf ih =>
    intro l2 l3 σ
    rw [pf_X12_spreads_40]
    refine on_il3 (tk_X12_spreads 24 rfl) ?_
    refine on_al0 (tk_X12_spreads 25 rfl) ?_
    refine fg_12_1 hN kw_6_141 (tk_X12_spreads 26 rfl) ?_
    refine on_iconst (tk_X12_spreads 27 rfl) ?_
    refine on_iald (ltc_78 hN) sh_78 (tk_X12_spreads 28 rfl) fun v2 => ?_
    refine on_icmp_ge (tk_X12_spreads 29 rfl) (tgt := 116) (by decide) ?_ ?_
    · refine on_iconst (tk_X12_spreads 30 rfl) ?_
      refine on_is4 rfl (tk_X12_spreads 31 rfl) ?_
      exact gl_X12_spreads_53 X _ _ hN hk33 ih on_N _ _ _ _
    · refine on_inc2 rfl (tk_X12_spreads 65 rfl) ?_
      refine on_goto (tk_X12_spreads 66 rfl) (tgt := 33) (by decide) ?_
      refine on_dr3 ?_
      exact hk33 _ _
set_option maxRecDepth 100000 in
set_option maxHeartbeats 4000000 in
theorem gl_X12_spreads_33 {E : on_E} {z n : Nat} (X : on_X) (hN : 100 ≤ n) : ∀ (nf : Nat) (l2 : Int) (σ : on_S), on_G X E cX12_spreads RX12 none 1 22 5 z n σ (pf_X12_spreads_33 nf l2 σ) 33 [some (.ref (z + 77)), none, some (.int (on_i l2)), none, none] [] := by
  intro nf
  induction nf with
  | zero => intro l2 σ; exact on_none
  | succ nf ih =>
    intro l2 σ
    rw [pf_X12_spreads_33]
    refine on_il2 (tk_X12_spreads 19 rfl) ?_
    refine on_iconst (tk_X12_spreads 20 rfl) ?_
    refine on_icmp_ge (tk_X12_spreads 21 rfl) (tgt := 122) (by decide) ?_ ?_
    · refine on_iconst (tk_X12_spreads 22 rfl) ?_
      refine on_is3 rfl (tk_X12_spreads 23 rfl) ?_
      exact gl_X12_spreads_40 X _ hN ih on_N _ _ _
    · exact on_vret (tk_X12_spreads 67 rfl)
set_option maxRecDepth 100000 in
set_option maxHeartbeats 4000000 in
theorem gl_X12_spreads_2 {E : on_E} {z n : Nat} (X : on_X) (hN : 100 ≤ n) : ∀ (nf : Nat) (l1 : Int) (l2 : Int) (σ : on_S), on_G X E cX12_spreads RX12 none 1 22 5 z n σ (pf_X12_spreads_2 nf l1 l2 σ) 2 [some (.ref (z + 77)), some (.int (on_i l1)), some (.int (on_i l2)), none, none] [] := by
  intro nf
  induction nf with
  | zero => intro l1 l2 σ; exact on_none
  | succ nf ih =>
    intro l1 l2 σ
    rw [pf_X12_spreads_2]
    refine on_il2 (tk_X12_spreads 2 rfl) ?_
    refine on_iconst (tk_X12_spreads 3 rfl) ?_
    refine on_icmp_ge (tk_X12_spreads 4 rfl) (tgt := 31) (by decide) ?_ ?_
    · refine on_al0 (tk_X12_spreads 5 rfl) ?_
      refine fg_12_28 hN kw_6_168 (tk_X12_spreads 6 rfl) ?_
      refine on_il2 (tk_X12_spreads 7 rfl) ?_
      refine on_il2 (tk_X12_spreads 8 rfl) ?_
      refine on_il1 (tk_X12_spreads 9 rfl) ?_
      refine on_icmp_ne (tk_X12_spreads 10 rfl) (tgt := 21) (by decide) ?_ ?_
      · refine on_iconst (tk_X12_spreads 11 rfl) ?_
        refine on_goto (tk_X12_spreads 12 rfl) (tgt := 24) (by decide) ?_
        exact gb_X12_spreads_24 X _ hN ih _ _ _ _ _
      · refine on_ldcw (a := 1000000) kw_9_4 (by decide +kernel) (tk_X12_spreads 13 rfl) ?_
        exact gb_X12_spreads_24 X _ hN ih _ _ _ _ _
    · refine on_iconst (tk_X12_spreads 17 rfl) ?_
      refine on_is2 rfl (tk_X12_spreads 18 rfl) ?_
      refine on_dr1 ?_
      exact gl_X12_spreads_33 X  hN on_N _ _
set_option maxRecDepth 100000 in
set_option maxHeartbeats 4000000 in
theorem ct_X12_spreads {E : on_E} {z n : Nat} {p0 : Int} (hN : 100 ≤ n) {σ : on_S} : on_Sp E yX12_spreads cX12_spreads 5 none 1 22 z n [.ref (z + 77), .int (on_i p0)] σ (pf_X12_spreads p0 σ) := by
  refine on_met [some (.ref (z + 77)), some (.int (on_i p0)), none, none, none] (by decide) rfl rfl (fun X => ?_)
  rw [pf_X12_spreads]
  refine on_iconst (tk_X12_spreads 0 rfl) ?_
  refine on_is2 rfl (tk_X12_spreads 1 rfl) ?_
  exact gl_X12_spreads_2 X  hN on_N _ _ _
def tb_X12_alarm : List (Nat × Nat × Nat × Instr) := [(0, 1, 1, .aload_n 0), (1, 1, 2, .iload_n 1), (2, 3, 5, .invokevirtual 316), (5, 3, 8, .ifCond .eq 11), (8, 1, 9, .aload_n 0), (9, 1, 10, .iload_n 2), (10, 3, 13, .invokevirtual 316), (13, 3, 16, .ifCond .ne 6), (16, 2, 18, .bipush (-2)), (18, 1, 19, .ireturn), (19, 1, 20, .aload_n 0), (20, 1, 21, .iload_n 2), (21, 3, 24, .invokevirtual 422), (24, 1, 25, .aload_n 0), (25, 3, 28, .getfield 61), (28, 1, 29, .iload_n 1), (29, 1, 30, .iaload), (30, 3, 33, .ldc_w 418), (33, 3, 36, .if_icmp .lt 7), (36, 1, 37, .iconst (-1)), (37, 3, 40, .goto 9), (40, 1, 41, .aload_n 0), (41, 3, 44, .getfield 61), (44, 1, 45, .iload_n 1), (45, 1, 46, .iaload), (46, 1, 47, .ireturn)]
set_option maxRecDepth 100000 in
theorem tk_X12_alarm (k : Nat) {pc n pc2 : Nat} {i : Instr} (hk : tb_X12_alarm[k]? = some (pc, n, pc2, i)) : on_dq cX12_alarm pc n pc2 i := on_ta (by decide +kernel) k hk
theorem ms_X12_alarm : on_Mv yX12_alarm cX12_alarm 3 (some .int) 2 := ⟨kw_8_239, kw_8_237, kw_8_238, kw_1_13, by decide, by decide, by decide +kernel⟩
def pf_X12_alarm (p0 : Int) (p1 : Int) (σ : on_S) : Option on_O :=
  on_Cl (pf_X12_isHouse p0 σ) fun v1 σ2 =>
  on_Eq v1 0 (
    some ((-2), σ2)) (
    on_Cl (pf_X12_isHouse p1 σ2) fun v3 σ4 =>
    on_Eq v3 0 (
      some ((-2), σ4)) (
      on_Cl (pf_X12_spreads p1 σ4) fun _ σ6 =>
      on_Rd σ6 93 4 p0 fun v7 =>
      on_Lt v7 1000000 (
        on_Rd σ6 93 4 p0 fun v8 =>
        some (v8, σ6)) (
        some ((-1), σ6))))
set_option maxRecDepth 100000 in
set_option maxHeartbeats 4000000 in
theorem ct_X12_alarm {E : on_E} {z n : Nat} {p0 : Int} {p1 : Int} (hN : 100 ≤ n) {σ : on_S} : on_Sp E yX12_alarm cX12_alarm 3 (some .int) 2 46 z n [.ref (z + 77), .int (on_i p0), .int (on_i p1)] σ (pf_X12_alarm p0 p1 σ) := by
  refine on_met [some (.ref (z + 77)), some (.int (on_i p0)), some (.int (on_i p1))] (by decide) rfl rfl (fun X => ?_)
  rw [pf_X12_alarm]
  refine on_al0 (tk_X12_alarm 0 rfl) ?_
  refine on_il1 (tk_X12_alarm 1 rfl) ?_
  refine on_cV1z 12 ms_X12_isHouse kw_8_32 rfl rfl (ltc_77 hN) sh_77 (ct_X12_isHouse hN) rfl (tk_X12_alarm 2 rfl) fun v1 σ2 => ?_
  refine on_if_eq (tk_X12_alarm 3 rfl) (tgt := 16) (by decide) ?_ ?_
  · refine on_al0 (tk_X12_alarm 4 rfl) ?_
    refine on_il2 (tk_X12_alarm 5 rfl) ?_
    refine on_cV1z 12 ms_X12_isHouse kw_8_32 rfl rfl (ltc_77 hN) sh_77 (ct_X12_isHouse hN) rfl (tk_X12_alarm 6 rfl) fun v3 σ4 => ?_
    refine on_if_ne (tk_X12_alarm 7 rfl) (tgt := 19) (by decide) ?_ ?_
    · refine on_bipush (tk_X12_alarm 8 rfl) bp_m2 ?_
      exact on_iret (tk_X12_alarm 9 rfl)
    · refine on_al0 (tk_X12_alarm 10 rfl) ?_
      refine on_il2 (tk_X12_alarm 11 rfl) ?_
      refine on_cV1v 12 ms_X12_spreads kw_9_0 rfl rfl (ltc_77 hN) sh_77 (ct_X12_spreads hN) rfl (tk_X12_alarm 12 rfl) fun v5 σ6 => ?_
      refine on_al0 (tk_X12_alarm 13 rfl) ?_
      refine fg_12_28 hN kw_6_168 (tk_X12_alarm 14 rfl) ?_
      refine on_il1 (tk_X12_alarm 15 rfl) ?_
      refine on_iald (ltc_93 hN) sh_93 (tk_X12_alarm 16 rfl) fun v7 => ?_
      refine on_ldcw (a := 1000000) kw_9_4 (by decide +kernel) (tk_X12_alarm 17 rfl) ?_
      refine on_icmp_lt (tk_X12_alarm 18 rfl) (tgt := 40) (by decide) ?_ ?_
      · refine on_iconst (tk_X12_alarm 19 rfl) ?_
        refine on_goto (tk_X12_alarm 20 rfl) (tgt := 46) (by decide) ?_
        exact on_iret (tk_X12_alarm 25 rfl)
      · refine on_al0 (tk_X12_alarm 21 rfl) ?_
        refine fg_12_28 hN kw_6_168 (tk_X12_alarm 22 rfl) ?_
        refine on_il1 (tk_X12_alarm 23 rfl) ?_
        refine on_iald (ltc_93 hN) sh_93 (tk_X12_alarm 24 rfl) fun v8 => ?_
        exact on_iret (tk_X12_alarm 25 rfl)
  · refine on_bipush (tk_X12_alarm 8 rfl) bp_m2 ?_
    exact on_iret (tk_X12_alarm 9 rfl)
def tb_X12_route : List (Nat × Nat × Nat × Instr) := [(0, 1, 1, .aload_n 0), (1, 1, 2, .iload_n 1), (2, 3, 5, .invokevirtual 316), (5, 3, 8, .ifCond .eq 11), (8, 1, 9, .aload_n 0), (9, 1, 10, .iload_n 2), (10, 3, 13, .invokevirtual 316), (13, 3, 16, .ifCond .ne 6), (16, 2, 18, .bipush (-2)), (18, 1, 19, .ireturn), (19, 1, 20, .aload_n 0), (20, 1, 21, .iload_n 2), (21, 3, 24, .invokevirtual 422), (24, 1, 25, .aload_n 0), (25, 3, 28, .getfield 61), (28, 1, 29, .iload_n 1), (29, 1, 30, .iaload), (30, 3, 33, .ldc_w 418), (33, 3, 36, .if_icmp .ge 7), (36, 1, 37, .iload_n 3), (37, 3, 40, .ifCond .ge 5), (40, 1, 41, .iconst (-1)), (41, 1, 42, .ireturn), (42, 1, 43, .iload_n 1), (43, 2, 45, .istore 4), (45, 1, 46, .iconst 0), (46, 2, 48, .istore 5), (48, 2, 50, .iload 5), (50, 1, 51, .iload_n 3), (51, 3, 54, .if_icmp .ge 74), (54, 2, 56, .iload 4), (56, 1, 57, .iload_n 2), (57, 3, 60, .if_icmp .ne 5), (60, 1, 61, .iconst (-1)), (61, 1, 62, .ireturn), (62, 1, 63, .iconst 0), (63, 2, 65, .istore 6), (65, 2, 67, .iload 6), (67, 2, 69, .iload 4), (69, 3, 72, .if_icmp .eq 40), (72, 1, 73, .aload_n 0), (73, 2, 75, .iload 4), (75, 2, 77, .iload 6), (77, 3, 80, .invokevirtual 419), (80, 3, 83, .ifCond .eq 29), (83, 1, 84, .aload_n 0), (84, 3, 87, .getfield 61), (87, 2, 89, .iload 6), (89, 1, 90, .iaload), (90, 1, 91, .aload_n 0), (91, 2, 93, .iload 4), (93, 2, 95, .iload 6), (95, 3, 98, .invokevirtual 419), (98, 1, 99, .iadd), (99, 1, 100, .aload_n 0), (100, 3, 103, .getfield 61), (103, 2, 105, .iload 4), (105, 1, 106, .iaload), (106, 3, 109, .if_icmp .eq 9), (109, 3, 112, .iinc 6 1), (112, 3, 115, .goto (-47)), (115, 2, 117, .iload 6), (117, 2, 119, .istore 4), (119, 3, 122, .iinc 5 1), (122, 3, 125, .goto (-74)), (125, 2, 127, .iload 4), (127, 1, 128, .ireturn)]
set_option maxRecDepth 100000 in
theorem tk_X12_route (k : Nat) {pc n pc2 : Nat} {i : Instr} (hk : tb_X12_route[k]? = some (pc, n, pc2, i)) : on_dq cX12_route pc n pc2 i := on_ta (by decide +kernel) k hk
theorem ms_X12_route : on_Mv yX12_route cX12_route 7 (some .int) 3 := ⟨kw_9_12, kw_9_10, kw_9_11, kw_1_13, by decide, by decide, by decide +kernel⟩
def pf_X12_route_65 (k48 : Int → Int → Int → Int → on_S → Option on_O) : Nat → Int → Int → Int → Int → Int → on_S → Option on_O
  | 0, _, _, _, _, _, _ => none
  | nf + 1, l2, l3, l4, l5, l6, σ =>
    on_Eq l6 l4 (
      pf_X12_route_65 k48 nf l2 l3 l4 l5 (l6 + 1) σ) (
      on_Cl (pf_X12_roadOf l4 l6 σ) fun v8 σ9 =>
      on_Eq v8 0 (
        pf_X12_route_65 k48 nf l2 l3 l4 l5 (l6 + 1) σ9) (
        on_Rd σ9 93 4 l6 fun v10 =>
        on_Cl (pf_X12_roadOf l4 l6 σ9) fun v11 σ12 =>
        on_Rd σ12 93 4 l4 fun v13 =>
        on_Eq (v10 + v11) v13 (
          k48 l2 l3 l6 (l5 + 1) σ12) (
          pf_X12_route_65 k48 nf l2 l3 l4 l5 (l6 + 1) σ12)))
def pf_X12_route_48 : Nat → Int → Int → Int → Int → on_S → Option on_O
  | 0, _, _, _, _, _ => none
  | nf + 1, l2, l3, l4, l5, σ =>
    on_Lt l5 l3 (
      on_Eq l4 l2 (
        some ((-1), σ)) (
        pf_X12_route_65 (pf_X12_route_48 nf) on_N l2 l3 l4 l5 0 σ)) (
      some (l4, σ))
def pf_X12_route (p0 : Int) (p1 : Int) (p2 : Int) (σ : on_S) : Option on_O :=
  on_Cl (pf_X12_isHouse p0 σ) fun v1 σ2 =>
  on_Eq v1 0 (
    some ((-2), σ2)) (
    on_Cl (pf_X12_isHouse p1 σ2) fun v3 σ4 =>
    on_Eq v3 0 (
      some ((-2), σ4)) (
      on_Cl (pf_X12_spreads p1 σ4) fun _ σ6 =>
      on_Rd σ6 93 4 p0 fun v7 =>
      on_Lt v7 1000000 (
        on_Lt p2 0 (
          some ((-1), σ6)) (
          pf_X12_route_48 on_N p1 p2 p0 0 σ6)) (
        some ((-1), σ6))))
set_option maxRecDepth 100000 in
set_option maxHeartbeats 4000000 in
theorem gl_X12_route_65 {E : on_E} {z n : Nat} (X : on_X) (k48 : Int → Int → Int → Int → on_S → Option on_O) (hN : 100 ≤ n) (hk48 : ∀ (l2 : Int) (l3 : Int) (l4 : Int) (l5 : Int) (σ : on_S), on_G X E cX12_route RX12 (some .int) 2 46 7 z n σ (k48 l2 l3 l4 l5 σ) 48 [some (.ref (z + 77)), none, some (.int (on_i l2)), some (.int (on_i l3)), some (.int (on_i l4)), some (.int (on_i l5)), none] []) : ∀ (nf : Nat) (l2 : Int) (l3 : Int) (l4 : Int) (l5 : Int) (l6 : Int) (σ : on_S), on_G X E cX12_route RX12 (some .int) 2 46 7 z n σ (pf_X12_route_65 k48 nf l2 l3 l4 l5 l6 σ) 65 [some (.ref (z + 77)), none, some (.int (on_i l2)), some (.int (on_i l3)), some (.int (on_i l4)), some (.int (on_i l5)), some (.int (on_i l6))] [] := by
  intro nf
  induction nf with
  | zero => intro l2 l3 l4 l5 l6 σ; exact on_none
  | succ nf ih =>
    intro l2 l3 l4 l5 l6 σ
    rw [pf_X12_route_65]
    refine on_il6 (tk_X12_route 37 rfl) ?_
    refine on_il4 (tk_X12_route 38 rfl) ?_
    refine on_icmp_eq (tk_X12_route 39 rfl) (tgt := 109) (by decide) ?_ ?_
    · refine on_al0 (tk_X12_route 40 rfl) ?_
      refine on_il4 (tk_X12_route 41 rfl) ?_
      refine on_il6 (tk_X12_route 42 rfl) ?_
      refine on_cV2i 12 ms_X12_roadOf kw_9_5 rfl rfl (ltc_77 hN) sh_77 (ct_X12_roadOf hN) rfl (tk_X12_route 43 rfl) fun v8 σ9 => ?_
      refine on_if_eq (tk_X12_route 44 rfl) (tgt := 109) (by decide) ?_ ?_
      · refine on_al0 (tk_X12_route 45 rfl) ?_
        refine fg_12_28 hN kw_6_168 (tk_X12_route 46 rfl) ?_
        refine on_il6 (tk_X12_route 47 rfl) ?_
        refine on_iald (ltc_93 hN) sh_93 (tk_X12_route 48 rfl) fun v10 => ?_
        refine on_al0 (tk_X12_route 49 rfl) ?_
        refine on_il4 (tk_X12_route 50 rfl) ?_
        refine on_il6 (tk_X12_route 51 rfl) ?_
        refine on_cV2i 12 ms_X12_roadOf kw_9_5 rfl rfl (ltc_77 hN) sh_77 (ct_X12_roadOf hN) rfl (tk_X12_route 52 rfl) fun v11 σ12 => ?_
        refine on_iadd (tk_X12_route 53 rfl) ?_
        refine on_al0 (tk_X12_route 54 rfl) ?_
        refine fg_12_28 hN kw_6_168 (tk_X12_route 55 rfl) ?_
        refine on_il4 (tk_X12_route 56 rfl) ?_
        refine on_iald (ltc_93 hN) sh_93 (tk_X12_route 57 rfl) fun v13 => ?_
        refine on_icmp_eq (tk_X12_route 58 rfl) (tgt := 115) (by decide) ?_ ?_
        · refine on_inc6 rfl (tk_X12_route 59 rfl) ?_
          refine on_goto (tk_X12_route 60 rfl) (tgt := 65) (by decide) ?_
          exact ih _ _ _ _ _ _
        · refine on_il6 (tk_X12_route 61 rfl) ?_
          refine on_is4 rfl (tk_X12_route 62 rfl) ?_
          refine on_inc5 rfl (tk_X12_route 63 rfl) ?_
          refine on_goto (tk_X12_route 64 rfl) (tgt := 48) (by decide) ?_
          refine on_dr6 ?_
          exact hk48 _ _ _ _ _
      · refine on_inc6 rfl (tk_X12_route 59 rfl) ?_
        refine on_goto (tk_X12_route 60 rfl) (tgt := 65) (by decide) ?_
        exact ih _ _ _ _ _ _
    · refine on_inc6 rfl (tk_X12_route 59 rfl) ?_
      refine on_goto (tk_X12_route 60 rfl) (tgt := 65) (by decide) ?_
      exact ih _ _ _ _ _ _
set_option maxRecDepth 100000 in
set_option maxHeartbeats 4000000 in
theorem gl_X12_route_48 {E : on_E} {z n : Nat} (X : on_X) (hN : 100 ≤ n) : ∀ (nf : Nat) (l2 : Int) (l3 : Int) (l4 : Int) (l5 : Int) (σ : on_S), on_G X E cX12_route RX12 (some .int) 2 46 7 z n σ (pf_X12_route_48 nf l2 l3 l4 l5 σ) 48 [some (.ref (z + 77)), none, some (.int (on_i l2)), some (.int (on_i l3)), some (.int (on_i l4)), some (.int (on_i l5)), none] [] := by
  intro nf
  induction nf with
  | zero => intro l2 l3 l4 l5 σ; exact on_none
  | succ nf ih =>
    intro l2 l3 l4 l5 σ
    rw [pf_X12_route_48]
    refine on_il5 (tk_X12_route 27 rfl) ?_
    refine on_il3 (tk_X12_route 28 rfl) ?_
    refine on_icmp_ge (tk_X12_route 29 rfl) (tgt := 125) (by decide) ?_ ?_
    · refine on_il4 (tk_X12_route 30 rfl) ?_
      refine on_il2 (tk_X12_route 31 rfl) ?_
      refine on_icmp_ne (tk_X12_route 32 rfl) (tgt := 62) (by decide) ?_ ?_
      · refine on_iconst (tk_X12_route 33 rfl) ?_
        exact on_iret (tk_X12_route 34 rfl)
      · refine on_iconst (tk_X12_route 35 rfl) ?_
        refine on_is6 rfl (tk_X12_route 36 rfl) ?_
        exact gl_X12_route_65 X _ hN ih on_N _ _ _ _ _ _
    · refine on_il4 (tk_X12_route 65 rfl) ?_
      exact on_iret (tk_X12_route 66 rfl)
set_option maxRecDepth 100000 in
set_option maxHeartbeats 4000000 in
theorem ct_X12_route {E : on_E} {z n : Nat} {p0 : Int} {p1 : Int} {p2 : Int} (hN : 100 ≤ n) {σ : on_S} : on_Sp E yX12_route cX12_route 7 (some .int) 2 46 z n [.ref (z + 77), .int (on_i p0), .int (on_i p1), .int (on_i p2)] σ (pf_X12_route p0 p1 p2 σ) := by
  refine on_met [some (.ref (z + 77)), some (.int (on_i p0)), some (.int (on_i p1)), some (.int (on_i p2)), none, none, none] (by decide) rfl rfl (fun X => ?_)
  rw [pf_X12_route]
  refine on_al0 (tk_X12_route 0 rfl) ?_
  refine on_il1 (tk_X12_route 1 rfl) ?_
  refine on_cV1z 12 ms_X12_isHouse kw_8_32 rfl rfl (ltc_77 hN) sh_77 (ct_X12_isHouse hN) rfl (tk_X12_route 2 rfl) fun v1 σ2 => ?_
  refine on_if_eq (tk_X12_route 3 rfl) (tgt := 16) (by decide) ?_ ?_
  · refine on_al0 (tk_X12_route 4 rfl) ?_
    refine on_il2 (tk_X12_route 5 rfl) ?_
    refine on_cV1z 12 ms_X12_isHouse kw_8_32 rfl rfl (ltc_77 hN) sh_77 (ct_X12_isHouse hN) rfl (tk_X12_route 6 rfl) fun v3 σ4 => ?_
    refine on_if_ne (tk_X12_route 7 rfl) (tgt := 19) (by decide) ?_ ?_
    · refine on_bipush (tk_X12_route 8 rfl) bp_m2 ?_
      exact on_iret (tk_X12_route 9 rfl)
    · refine on_al0 (tk_X12_route 10 rfl) ?_
      refine on_il2 (tk_X12_route 11 rfl) ?_
      refine on_cV1v 12 ms_X12_spreads kw_9_0 rfl rfl (ltc_77 hN) sh_77 (ct_X12_spreads hN) rfl (tk_X12_route 12 rfl) fun v5 σ6 => ?_
      refine on_al0 (tk_X12_route 13 rfl) ?_
      refine fg_12_28 hN kw_6_168 (tk_X12_route 14 rfl) ?_
      refine on_il1 (tk_X12_route 15 rfl) ?_
      refine on_iald (ltc_93 hN) sh_93 (tk_X12_route 16 rfl) fun v7 => ?_
      refine on_ldcw (a := 1000000) kw_9_4 (by decide +kernel) (tk_X12_route 17 rfl) ?_
      refine on_icmp_ge (tk_X12_route 18 rfl) (tgt := 40) (by decide) ?_ ?_
      · refine on_il3 (tk_X12_route 19 rfl) ?_
        refine on_if_ge (tk_X12_route 20 rfl) (tgt := 42) (by decide) ?_ ?_
        · refine on_iconst (tk_X12_route 21 rfl) ?_
          exact on_iret (tk_X12_route 22 rfl)
        · refine on_il1 (tk_X12_route 23 rfl) ?_
          refine on_is4 rfl (tk_X12_route 24 rfl) ?_
          refine on_iconst (tk_X12_route 25 rfl) ?_
          refine on_is5 rfl (tk_X12_route 26 rfl) ?_
          refine on_dr1 ?_
          exact gl_X12_route_48 X  hN on_N _ _ _ _ _
      · refine on_iconst (tk_X12_route 21 rfl) ?_
        exact on_iret (tk_X12_route 22 rfl)
  · refine on_bipush (tk_X12_route 8 rfl) bp_m2 ?_
    exact on_iret (tk_X12_route 9 rfl)
def tb_X12_lastFrom : List (Nat × Nat × Nat × Instr) := [(0, 1, 1, .aload_n 0), (1, 1, 2, .iload_n 1), (2, 3, 5, .invokevirtual 422), (5, 1, 6, .iconst 0), (6, 1, 7, .istore_n 2), (7, 1, 8, .iconst 0), (8, 1, 9, .istore_n 3), (9, 1, 10, .iload_n 3), (10, 1, 11, .aload_n 0), (11, 3, 14, .getfield 9), (14, 1, 15, .iconst 0), (15, 1, 16, .iaload), (16, 3, 19, .if_icmp .ge 20), (19, 1, 20, .iload_n 2), (20, 1, 21, .aload_n 0), (21, 3, 24, .getfield 61), (24, 1, 25, .iload_n 3), (25, 1, 26, .iaload), (26, 3, 29, .invokestatic 266), (29, 1, 30, .istore_n 2), (30, 3, 33, .iinc 3 1), (33, 3, 36, .goto (-24)), (36, 1, 37, .iload_n 2), (37, 3, 40, .ldc_w 418), (40, 3, 43, .if_icmp .lt 7), (43, 1, 44, .iconst (-1)), (44, 3, 47, .goto 4), (47, 1, 48, .iload_n 2), (48, 1, 49, .ireturn)]
set_option maxRecDepth 100000 in
theorem tk_X12_lastFrom (k : Nat) {pc n pc2 : Nat} {i : Instr} (hk : tb_X12_lastFrom[k]? = some (pc, n, pc2, i)) : on_dq cX12_lastFrom pc n pc2 i := on_ta (by decide +kernel) k hk
theorem ms_X12_lastFrom : on_Mv yX12_lastFrom cX12_lastFrom 4 (some .int) 1 := ⟨kw_9_20, kw_9_19, (on_mp (q := (yX12_lastFrom, 37)) (by decide +kernel)), kw_1_13, by decide, by decide, by decide +kernel⟩
def pf_X12_lastFrom_9 : Nat → Int → Int → on_S → Option on_O
  | 0, _, _, _ => none
  | nf + 1, l2, l3, σ =>
    on_Rd σ 78 687 0 fun v3 =>
    on_Lt l3 v3 (
      on_Rd σ 93 4 l3 fun v4 =>
      on_Mx l2 v4 fun v5 =>
      pf_X12_lastFrom_9 nf v5 (l3 + 1) σ) (
      on_Lt l2 1000000 (
        some (l2, σ)) (
        some ((-1), σ)))
def pf_X12_lastFrom (p0 : Int) (σ : on_S) : Option on_O :=
  on_Cl (pf_X12_spreads p0 σ) fun _ σ2 =>
  pf_X12_lastFrom_9 on_N 0 0 σ2
set_option maxRecDepth 100000 in
set_option maxHeartbeats 4000000 in
theorem gl_X12_lastFrom_9 {E : on_E} {z n : Nat} (X : on_X) (hN : 100 ≤ n) : ∀ (nf : Nat) (l2 : Int) (l3 : Int) (σ : on_S), on_G X E cX12_lastFrom RX12 (some .int) 2 46 4 z n σ (pf_X12_lastFrom_9 nf l2 l3 σ) 9 [some (.ref (z + 77)), none, some (.int (on_i l2)), some (.int (on_i l3))] [] := by
  intro nf
  induction nf with
  | zero => intro l2 l3 σ; exact on_none
  | succ nf ih =>
    intro l2 l3 σ
    rw [pf_X12_lastFrom_9]
    refine on_il3 (tk_X12_lastFrom 7 rfl) ?_
    refine on_al0 (tk_X12_lastFrom 8 rfl) ?_
    refine fg_12_1 hN kw_6_141 (tk_X12_lastFrom 9 rfl) ?_
    refine on_iconst (tk_X12_lastFrom 10 rfl) ?_
    refine on_iald (ltc_78 hN) sh_78 (tk_X12_lastFrom 11 rfl) fun v3 => ?_
    refine on_icmp_ge (tk_X12_lastFrom 12 rfl) (tgt := 36) (by decide) ?_ ?_
    · refine on_il2 (tk_X12_lastFrom 13 rfl) ?_
      refine on_al0 (tk_X12_lastFrom 14 rfl) ?_
      refine fg_12_28 hN kw_6_168 (tk_X12_lastFrom 15 rfl) ?_
      refine on_il3 (tk_X12_lastFrom 16 rfl) ?_
      refine on_iald (ltc_93 hN) sh_93 (tk_X12_lastFrom 17 rfl) fun v4 => ?_
      refine on_max kw_7_204 kwM_max_s kwM_i kwM_max_c rfl (tk_X12_lastFrom 18 rfl) fun v5 => ?_
      refine on_is2 rfl (tk_X12_lastFrom 19 rfl) ?_
      refine on_inc3 rfl (tk_X12_lastFrom 20 rfl) ?_
      refine on_goto (tk_X12_lastFrom 21 rfl) (tgt := 9) (by decide) ?_
      exact ih _ _ _
    · refine on_il2 (tk_X12_lastFrom 22 rfl) ?_
      refine on_ldcw (a := 1000000) kw_9_4 (by decide +kernel) (tk_X12_lastFrom 23 rfl) ?_
      refine on_icmp_lt (tk_X12_lastFrom 24 rfl) (tgt := 47) (by decide) ?_ ?_
      · refine on_iconst (tk_X12_lastFrom 25 rfl) ?_
        refine on_goto (tk_X12_lastFrom 26 rfl) (tgt := 48) (by decide) ?_
        exact on_iret (tk_X12_lastFrom 28 rfl)
      · refine on_il2 (tk_X12_lastFrom 27 rfl) ?_
        exact on_iret (tk_X12_lastFrom 28 rfl)
set_option maxRecDepth 100000 in
set_option maxHeartbeats 4000000 in
theorem ct_X12_lastFrom {E : on_E} {z n : Nat} {p0 : Int} (hN : 100 ≤ n) {σ : on_S} : on_Sp E yX12_lastFrom cX12_lastFrom 4 (some .int) 2 46 z n [.ref (z + 77), .int (on_i p0)] σ (pf_X12_lastFrom p0 σ) := by
  refine on_met [some (.ref (z + 77)), some (.int (on_i p0)), none, none] (by decide) rfl rfl (fun X => ?_)
  rw [pf_X12_lastFrom]
  refine on_al0 (tk_X12_lastFrom 0 rfl) ?_
  refine on_il1 (tk_X12_lastFrom 1 rfl) ?_
  refine on_cV1v 12 ms_X12_spreads kw_9_0 rfl rfl (ltc_77 hN) sh_77 (ct_X12_spreads hN) rfl (tk_X12_lastFrom 2 rfl) fun v1 σ2 => ?_
  refine on_iconst (tk_X12_lastFrom 3 rfl) ?_
  refine on_is2 rfl (tk_X12_lastFrom 4 rfl) ?_
  refine on_iconst (tk_X12_lastFrom 5 rfl) ?_
  refine on_is3 rfl (tk_X12_lastFrom 6 rfl) ?_
  refine on_dr1 ?_
  exact gl_X12_lastFrom_9 X  hN on_N _ _ _
def tb_X12_last : List (Nat × Nat × Nat × Instr) := [(0, 1, 1, .aload_n 0), (1, 1, 2, .iload_n 1), (2, 3, 5, .invokevirtual 316), (5, 3, 8, .ifCond .eq 11), (8, 1, 9, .aload_n 0), (9, 1, 10, .iload_n 1), (10, 3, 13, .invokevirtual 425), (13, 3, 16, .goto 5), (16, 2, 18, .bipush (-2)), (18, 1, 19, .ireturn)]
set_option maxRecDepth 100000 in
theorem tk_X12_last (k : Nat) {pc n pc2 : Nat} {i : Instr} (hk : tb_X12_last[k]? = some (pc, n, pc2, i)) : on_dq cX12_last pc n pc2 i := on_ta (by decide +kernel) k hk
theorem ms_X12_last : on_Mv yX12_last cX12_last 2 (some .int) 1 := ⟨kw_9_16, kw_9_14, kw_9_15, kw_1_13, by decide, by decide, by decide +kernel⟩
def pf_X12_last (p0 : Int) (σ : on_S) : Option on_O :=
  on_Cl (pf_X12_isHouse p0 σ) fun v1 σ2 =>
  on_Eq v1 0 (
    some ((-2), σ2)) (
    on_Cl (pf_X12_lastFrom p0 σ2) fun v3 σ4 =>
    some (v3, σ4))
set_option maxRecDepth 100000 in
set_option maxHeartbeats 4000000 in
theorem ct_X12_last {E : on_E} {z n : Nat} {p0 : Int} (hN : 100 ≤ n) {σ : on_S} : on_Sp E yX12_last cX12_last 2 (some .int) 3 69 z n [.ref (z + 77), .int (on_i p0)] σ (pf_X12_last p0 σ) := by
  refine on_met [some (.ref (z + 77)), some (.int (on_i p0))] (by decide) rfl rfl (fun X => ?_)
  rw [pf_X12_last]
  refine on_al0 (tk_X12_last 0 rfl) ?_
  refine on_il1 (tk_X12_last 1 rfl) ?_
  refine on_cV1z 12 ms_X12_isHouse kw_8_32 rfl rfl (ltc_77 hN) sh_77 (ct_X12_isHouse hN) rfl (tk_X12_last 2 rfl) fun v1 σ2 => ?_
  refine on_if_eq (tk_X12_last 3 rfl) (tgt := 16) (by decide) ?_ ?_
  · refine on_al0 (tk_X12_last 4 rfl) ?_
    refine on_il1 (tk_X12_last 5 rfl) ?_
    refine on_cV1i 12 ms_X12_lastFrom kw_9_17 rfl rfl (ltc_77 hN) sh_77 (ct_X12_lastFrom hN) rfl (tk_X12_last 6 rfl) fun v3 σ4 => ?_
    refine on_goto (tk_X12_last 7 rfl) (tgt := 18) (by decide) ?_
    exact on_iret (tk_X12_last 9 rfl)
  · refine on_bipush (tk_X12_last 8 rfl) bp_m2 ?_
    exact on_iret (tk_X12_last 9 rfl)
def tb_X12_middle : List (Nat × Nat × Nat × Instr) := [(0, 1, 1, .aload_n 0), (1, 3, 4, .invokevirtual 336), (4, 3, 7, .ifCond .ne 6), (7, 2, 9, .bipush (-2)), (9, 1, 10, .ireturn), (10, 1, 11, .iconst (-1)), (11, 1, 12, .istore_n 1), (12, 1, 13, .iconst 0), (13, 1, 14, .istore_n 2), (14, 1, 15, .iload_n 2), (15, 1, 16, .aload_n 0), (16, 3, 19, .getfield 9), (19, 1, 20, .iconst 0), (20, 1, 21, .iaload), (21, 3, 24, .if_icmp .ge 38), (24, 1, 25, .aload_n 0), (25, 1, 26, .iload_n 2), (26, 3, 29, .invokevirtual 425), (29, 1, 30, .iconst (-1)), (30, 3, 33, .if_icmp .eq 23), (33, 1, 34, .iload_n 1), (34, 1, 35, .iconst (-1)), (35, 3, 38, .if_icmp .eq 16), (38, 1, 39, .aload_n 0), (39, 1, 40, .iload_n 2), (40, 3, 43, .invokevirtual 425), (43, 1, 44, .aload_n 0), (44, 1, 45, .iload_n 1), (45, 3, 48, .invokevirtual 425), (48, 3, 51, .if_icmp .ge 5), (51, 1, 52, .iload_n 2), (52, 1, 53, .istore_n 1), (53, 3, 56, .iinc 2 1), (56, 3, 59, .goto (-42)), (59, 1, 60, .iload_n 1), (60, 1, 61, .ireturn)]
set_option maxRecDepth 100000 in
theorem tk_X12_middle (k : Nat) {pc n pc2 : Nat} {i : Instr} (hk : tb_X12_middle[k]? = some (pc, n, pc2, i)) : on_dq cX12_middle pc n pc2 i := on_ta (by decide +kernel) k hk
theorem ms_X12_middle : on_Mv yX12_middle cX12_middle 3 (some .int) 0 := ⟨kw_9_24, kw_9_22, kw_9_23, kw_1_13, by decide, by decide, by decide +kernel⟩
def pf_X12_middle_51 (k14 : Int → Int → on_S → Option on_O) (l2 : Int) (σ : on_S) : Option on_O :=
  k14 l2 (l2 + 1) σ
def pf_X12_middle_14 : Nat → Int → Int → on_S → Option on_O
  | 0, _, _, _ => none
  | nf + 1, l1, l2, σ =>
    on_Rd σ 78 687 0 fun v3 =>
    on_Lt l2 v3 (
      on_Cl (pf_X12_lastFrom l2 σ) fun v4 σ5 =>
      on_Eq v4 (-1) (
        pf_X12_middle_14 nf l1 (l2 + 1) σ5) (
        on_Eq l1 (-1) (
          pf_X12_middle_51 (pf_X12_middle_14 nf) l2 σ5) (
          on_Cl (pf_X12_lastFrom l2 σ5) fun v6 σ7 =>
          on_Cl (pf_X12_lastFrom l1 σ7) fun v8 σ9 =>
          on_Lt v6 v8 (
            pf_X12_middle_51 (pf_X12_middle_14 nf) l2 σ9) (
            pf_X12_middle_14 nf l1 (l2 + 1) σ9)))) (
      some (l1, σ))
def pf_X12_middle (σ : on_S) : Option on_O :=
  on_Cl (pf_X12_isStreet σ) fun v1 σ2 =>
  on_Eq v1 0 (
    some ((-2), σ2)) (
    pf_X12_middle_14 on_N (-1) 0 σ2)
set_option maxRecDepth 100000 in
set_option maxHeartbeats 4000000 in
theorem gb_X12_middle_51 {E : on_E} {z n : Nat} (X : on_X) (k14 : Int → Int → on_S → Option on_O) (hN : 100 ≤ n) (hk14 : ∀ (l1 : Int) (l2 : Int) (σ : on_S), on_G X E cX12_middle RX12 (some .int) 3 69 3 z n σ (k14 l1 l2 σ) 14 [some (.ref (z + 77)), some (.int (on_i l1)), some (.int (on_i l2))] []) (l2 : Int) (σ : on_S) : on_G X E cX12_middle RX12 (some .int) 3 69 3 z n σ (pf_X12_middle_51 k14 l2 σ) 51 [some (.ref (z + 77)), none, some (.int (on_i l2))] [] := by
  rw [pf_X12_middle_51]
  refine on_il2 (tk_X12_middle 30 rfl) ?_
  refine on_is1 rfl (tk_X12_middle 31 rfl) ?_
  refine on_inc2 rfl (tk_X12_middle 32 rfl) ?_
  refine on_goto (tk_X12_middle 33 rfl) (tgt := 14) (by decide) ?_
  exact hk14 _ _ _
set_option maxRecDepth 100000 in
set_option maxHeartbeats 4000000 in
theorem gl_X12_middle_14 {E : on_E} {z n : Nat} (X : on_X) (hN : 100 ≤ n) : ∀ (nf : Nat) (l1 : Int) (l2 : Int) (σ : on_S), on_G X E cX12_middle RX12 (some .int) 3 69 3 z n σ (pf_X12_middle_14 nf l1 l2 σ) 14 [some (.ref (z + 77)), some (.int (on_i l1)), some (.int (on_i l2))] [] := by
  intro nf
  induction nf with
  | zero => intro l1 l2 σ; exact on_none
  | succ nf ih =>
    intro l1 l2 σ
    rw [pf_X12_middle_14]
    refine on_il2 (tk_X12_middle 9 rfl) ?_
    refine on_al0 (tk_X12_middle 10 rfl) ?_
    refine fg_12_1 hN kw_6_141 (tk_X12_middle 11 rfl) ?_
    refine on_iconst (tk_X12_middle 12 rfl) ?_
    refine on_iald (ltc_78 hN) sh_78 (tk_X12_middle 13 rfl) fun v3 => ?_
    refine on_icmp_ge (tk_X12_middle 14 rfl) (tgt := 59) (by decide) ?_ ?_
    · refine on_al0 (tk_X12_middle 15 rfl) ?_
      refine on_il2 (tk_X12_middle 16 rfl) ?_
      refine on_cV1i 12 ms_X12_lastFrom kw_9_17 rfl rfl (ltc_77 hN) sh_77 (ct_X12_lastFrom hN) rfl (tk_X12_middle 17 rfl) fun v4 σ5 => ?_
      refine on_iconst (tk_X12_middle 18 rfl) ?_
      refine on_icmp_eq (tk_X12_middle 19 rfl) (tgt := 53) (by decide) ?_ ?_
      · refine on_il1 (tk_X12_middle 20 rfl) ?_
        refine on_iconst (tk_X12_middle 21 rfl) ?_
        refine on_icmp_eq (tk_X12_middle 22 rfl) (tgt := 51) (by decide) ?_ ?_
        · refine on_al0 (tk_X12_middle 23 rfl) ?_
          refine on_il2 (tk_X12_middle 24 rfl) ?_
          refine on_cV1i 12 ms_X12_lastFrom kw_9_17 rfl rfl (ltc_77 hN) sh_77 (ct_X12_lastFrom hN) rfl (tk_X12_middle 25 rfl) fun v6 σ7 => ?_
          refine on_al0 (tk_X12_middle 26 rfl) ?_
          refine on_il1 (tk_X12_middle 27 rfl) ?_
          refine on_cV1i 12 ms_X12_lastFrom kw_9_17 rfl rfl (ltc_77 hN) sh_77 (ct_X12_lastFrom hN) rfl (tk_X12_middle 28 rfl) fun v8 σ9 => ?_
          refine on_icmp_ge (tk_X12_middle 29 rfl) (tgt := 53) (by decide) ?_ ?_
          · refine on_dr1 ?_
            exact gb_X12_middle_51 X _ hN ih _ _
          · refine on_inc2 rfl (tk_X12_middle 32 rfl) ?_
            refine on_goto (tk_X12_middle 33 rfl) (tgt := 14) (by decide) ?_
            exact ih _ _ _
        · refine on_dr1 ?_
          exact gb_X12_middle_51 X _ hN ih _ _
      · refine on_inc2 rfl (tk_X12_middle 32 rfl) ?_
        refine on_goto (tk_X12_middle 33 rfl) (tgt := 14) (by decide) ?_
        exact ih _ _ _
    · refine on_il1 (tk_X12_middle 34 rfl) ?_
      exact on_iret (tk_X12_middle 35 rfl)
set_option maxRecDepth 100000 in
set_option maxHeartbeats 4000000 in
theorem ct_X12_middle {E : on_E} {z n : Nat} (hN : 100 ≤ n) {σ : on_S} : on_Sp E yX12_middle cX12_middle 3 (some .int) 3 69 z n [.ref (z + 77)] σ (pf_X12_middle  σ) := by
  refine on_met [some (.ref (z + 77)), none, none] (by decide) rfl rfl (fun X => ?_)
  rw [pf_X12_middle]
  refine on_al0 (tk_X12_middle 0 rfl) ?_
  refine on_cV0z 12 ms_X12_isStreet kw_8_73 rfl rfl (ltc_77 hN) sh_77 (ct_X12_isStreet hN) rfl (tk_X12_middle 1 rfl) fun v1 σ2 => ?_
  refine on_if_ne (tk_X12_middle 2 rfl) (tgt := 10) (by decide) ?_ ?_
  · refine on_bipush (tk_X12_middle 3 rfl) bp_m2 ?_
    exact on_iret (tk_X12_middle 4 rfl)
  · refine on_iconst (tk_X12_middle 5 rfl) ?_
    refine on_is1 rfl (tk_X12_middle 6 rfl) ?_
    refine on_iconst (tk_X12_middle 7 rfl) ?_
    refine on_is2 rfl (tk_X12_middle 8 rfl) ?_
    exact gl_X12_middle_14 X  hN on_N _ _ _
def tb_X12_wets : List (Nat × Nat × Nat × Instr) := [(0, 1, 1, .iconst 0), (1, 1, 2, .istore_n 3), (2, 1, 3, .iload_n 3), (3, 1, 4, .aload_n 0), (4, 3, 7, .getfield 9), (7, 1, 8, .iconst 4), (8, 1, 9, .iaload), (9, 3, 12, .if_icmp .ge 43), (12, 1, 13, .iload_n 2), (13, 1, 14, .iconst 1), (14, 3, 17, .if_icmp .ne 32), (17, 1, 18, .aload_n 0), (18, 1, 19, .aload_n 0), (19, 1, 20, .iload_n 3), (20, 1, 21, .iconst 0), (21, 3, 24, .invokevirtual 94), (24, 3, 27, .invokevirtual 253), (27, 1, 28, .iload_n 1), (28, 3, 31, .if_icmp .ne 18), (31, 1, 32, .aload_n 0), (32, 3, 35, .getfield 9), (35, 2, 37, .bipush 62), (37, 2, 39, .bipush 7), (39, 1, 40, .iload_n 3), (40, 1, 41, .imul), (41, 1, 42, .iadd), (42, 1, 43, .iconst 2), (43, 1, 44, .iadd), (44, 1, 45, .iconst 1), (45, 1, 46, .iastore), (46, 3, 49, .iinc 3 1), (49, 3, 52, .goto (-47)), (52, 1, 53, .return_)]
set_option maxRecDepth 100000 in
theorem tk_X12_wets (k : Nat) {pc n pc2 : Nat} {i : Instr} (hk : tb_X12_wets[k]? = some (pc, n, pc2, i)) : on_dq cX12_wets pc n pc2 i := on_ta (by decide +kernel) k hk
theorem ms_X12_wets : on_Mv yX12_wets cX12_wets 4 none 2 := ⟨kw_9_36, kw_9_35, (on_mp (q := (yX12_wets, 37)) (by decide +kernel)), kw_1_13, by decide, by decide, by decide +kernel⟩
def pf_X12_wets_2 : Nat → Int → Int → Int → on_S → Option on_O
  | 0, _, _, _, _ => none
  | nf + 1, l1, l2, l3, σ =>
    on_Rd σ 78 687 4 fun v1 =>
    on_Lt l3 v1 (
      on_Eq l2 1 (
        on_Cl (pf_X12_ofNet l3 0 σ) fun v2 σ3 =>
        on_Cl (pf_X12_houseOf v2 σ3) fun v4 σ5 =>
        on_Eq v4 l1 (
          on_Wr σ5 78 687 ((62 + (7 * l3)) + 2) 1 fun σ6 =>
          pf_X12_wets_2 nf l1 l2 (l3 + 1) σ6) (
          pf_X12_wets_2 nf l1 l2 (l3 + 1) σ5)) (
        pf_X12_wets_2 nf l1 l2 (l3 + 1) σ)) (
      some (0, σ))
def pf_X12_wets (p0 : Int) (p1 : Int) (σ : on_S) : Option on_O :=
  pf_X12_wets_2 on_N p0 p1 0 σ
set_option maxRecDepth 100000 in
set_option maxHeartbeats 4000000 in
theorem gl_X12_wets_2 {E : on_E} {z n : Nat} (X : on_X) (hN : 100 ≤ n) : ∀ (nf : Nat) (l1 : Int) (l2 : Int) (l3 : Int) (σ : on_S), on_G X E cX12_wets RX12 none 1 22 4 z n σ (pf_X12_wets_2 nf l1 l2 l3 σ) 2 [some (.ref (z + 77)), some (.int (on_i l1)), some (.int (on_i l2)), some (.int (on_i l3))] [] := by
  intro nf
  induction nf with
  | zero => intro l1 l2 l3 σ; exact on_none
  | succ nf ih =>
    intro l1 l2 l3 σ
    rw [pf_X12_wets_2]
    refine on_il3 (tk_X12_wets 2 rfl) ?_
    refine on_al0 (tk_X12_wets 3 rfl) ?_
    refine fg_12_1 hN kw_6_141 (tk_X12_wets 4 rfl) ?_
    refine on_iconst (tk_X12_wets 5 rfl) ?_
    refine on_iald (ltc_78 hN) sh_78 (tk_X12_wets 6 rfl) fun v1 => ?_
    refine on_icmp_ge (tk_X12_wets 7 rfl) (tgt := 52) (by decide) ?_ ?_
    · refine on_il2 (tk_X12_wets 8 rfl) ?_
      refine on_iconst (tk_X12_wets 9 rfl) ?_
      refine on_icmp_ne (tk_X12_wets 10 rfl) (tgt := 46) (by decide) ?_ ?_
      · refine on_al0 (tk_X12_wets 11 rfl) ?_
        refine on_al0 (tk_X12_wets 12 rfl) ?_
        refine on_il3 (tk_X12_wets 13 rfl) ?_
        refine on_iconst (tk_X12_wets 14 rfl) ?_
        refine on_cV2i 12 ms_X12_ofNet kw_7_162 rfl rfl (ltc_77 hN) sh_77 (ct_X12_ofNet hN) rfl (tk_X12_wets 15 rfl) fun v2 σ3 => ?_
        refine on_cV1i 12 ms_X12_houseOf kw_7_150 rfl rfl (ltc_77 hN) sh_77 (ct_X12_houseOf hN) rfl (tk_X12_wets 16 rfl) fun v4 σ5 => ?_
        refine on_il1 (tk_X12_wets 17 rfl) ?_
        refine on_icmp_ne (tk_X12_wets 18 rfl) (tgt := 46) (by decide) ?_ ?_
        · refine on_al0 (tk_X12_wets 19 rfl) ?_
          refine fg_12_1 hN kw_6_141 (tk_X12_wets 20 rfl) ?_
          refine on_bipush (tk_X12_wets 21 rfl) bp_62 ?_
          refine on_bipush (tk_X12_wets 22 rfl) bp_7 ?_
          refine on_il3 (tk_X12_wets 23 rfl) ?_
          refine on_imul (tk_X12_wets 24 rfl) ?_
          refine on_iadd (tk_X12_wets 25 rfl) ?_
          refine on_iconst (tk_X12_wets 26 rfl) ?_
          refine on_iadd (tk_X12_wets 27 rfl) ?_
          refine on_iconst (tk_X12_wets 28 rfl) ?_
          refine on_iast (ltc_78 hN) sh_78 (tk_X12_wets 29 rfl) fun σ6 => ?_
          refine on_inc3 rfl (tk_X12_wets 30 rfl) ?_
          refine on_goto (tk_X12_wets 31 rfl) (tgt := 2) (by decide) ?_
          exact ih _ _ _ _
        · refine on_inc3 rfl (tk_X12_wets 30 rfl) ?_
          refine on_goto (tk_X12_wets 31 rfl) (tgt := 2) (by decide) ?_
          exact ih _ _ _ _
      · refine on_inc3 rfl (tk_X12_wets 30 rfl) ?_
        refine on_goto (tk_X12_wets 31 rfl) (tgt := 2) (by decide) ?_
        exact ih _ _ _ _
    · exact on_vret (tk_X12_wets 32 rfl)
set_option maxRecDepth 100000 in
set_option maxHeartbeats 4000000 in
theorem ct_X12_wets {E : on_E} {z n : Nat} {p0 : Int} {p1 : Int} (hN : 100 ≤ n) {σ : on_S} : on_Sp E yX12_wets cX12_wets 4 none 1 22 z n [.ref (z + 77), .int (on_i p0), .int (on_i p1)] σ (pf_X12_wets p0 p1 σ) := by
  refine on_met [some (.ref (z + 77)), some (.int (on_i p0)), some (.int (on_i p1)), none] (by decide) rfl rfl (fun X => ?_)
  rw [pf_X12_wets]
  refine on_iconst (tk_X12_wets 0 rfl) ?_
  refine on_is3 rfl (tk_X12_wets 1 rfl) ?_
  exact gl_X12_wets_2 X  hN on_N _ _ _ _
def tb_X12_gainOf : List (Nat × Nat × Nat × Instr) := [(0, 1, 1, .iconst 3), (1, 1, 2, .iload_n 2), (2, 1, 3, .imul), (3, 1, 4, .istore_n 3), (4, 1, 5, .iconst 0), (5, 2, 7, .istore 4), (7, 2, 9, .iload 4), (9, 1, 10, .aload_n 0), (10, 3, 13, .getfield 9), (13, 1, 14, .iconst 5), (14, 1, 15, .iaload), (15, 3, 18, .if_icmp .ge 40), (18, 1, 19, .iload_n 3), (19, 1, 20, .aload_n 0), (20, 1, 21, .aload_n 0), (21, 2, 23, .iload 4), (23, 3, 26, .invokevirtual 105), (26, 3, 29, .invokevirtual 253), (29, 1, 30, .iload_n 1), (30, 3, 33, .if_icmp .ne 16), (33, 1, 34, .aload_n 0), (34, 2, 36, .iload 4), (36, 3, 39, .invokevirtual 325), (39, 3, 42, .ifCond .eq 7), (42, 1, 43, .iconst 2), (43, 3, 46, .goto 4), (46, 1, 47, .iconst 0), (47, 1, 48, .iadd), (48, 1, 49, .istore_n 3), (49, 3, 52, .iinc 4 1), (52, 3, 55, .goto (-45)), (55, 1, 56, .iload_n 3), (56, 1, 57, .ireturn)]
set_option maxRecDepth 100000 in
theorem tk_X12_gainOf (k : Nat) {pc n pc2 : Nat} {i : Instr} (hk : tb_X12_gainOf[k]? = some (pc, n, pc2, i)) : on_dq cX12_gainOf pc n pc2 i := on_ta (by decide +kernel) k hk
theorem ms_X12_gainOf : on_Mv yX12_gainOf cX12_gainOf 5 (some .int) 2 := ⟨kw_9_40, kw_9_39, (on_mp (q := (yX12_gainOf, 37)) (by decide +kernel)), kw_1_13, by decide, by decide, by decide +kernel⟩
def pf_X12_gainOf_46 (k7 : Int → Int → Int → on_S → Option on_O) (l1 : Int) (l4 : Int) (s0 : Int) (σ : on_S) : Option on_O :=
  k7 l1 (s0 + 0) (l4 + 1) σ
def pf_X12_gainOf_7 : Nat → Int → Int → Int → on_S → Option on_O
  | 0, _, _, _, _ => none
  | nf + 1, l1, l3, l4, σ =>
    on_Rd σ 78 687 5 fun v1 =>
    on_Lt l4 v1 (
      on_Cl (pf_X12_windowOf l4 σ) fun v2 σ3 =>
      on_Cl (pf_X12_houseOf v2 σ3) fun v4 σ5 =>
      on_Eq v4 l1 (
        on_Cl (pf_X12_isHeld l4 σ5) fun v6 σ7 =>
        on_Eq v6 0 (
          pf_X12_gainOf_46 (pf_X12_gainOf_7 nf) l1 l4 l3 σ7) (
          pf_X12_gainOf_7 nf l1 (l3 + 2) (l4 + 1) σ7)) (
        pf_X12_gainOf_46 (pf_X12_gainOf_7 nf) l1 l4 l3 σ5)) (
      some (l3, σ))
def pf_X12_gainOf (p0 : Int) (p1 : Int) (σ : on_S) : Option on_O :=
  pf_X12_gainOf_7 on_N p0 (3 * p1) 0 σ
set_option maxRecDepth 100000 in
set_option maxHeartbeats 4000000 in
theorem gb_X12_gainOf_46 {E : on_E} {z n : Nat} (X : on_X) (k7 : Int → Int → Int → on_S → Option on_O) (hN : 100 ≤ n) (hk7 : ∀ (l1 : Int) (l3 : Int) (l4 : Int) (σ : on_S), on_G X E cX12_gainOf RX12 (some .int) 7 164 5 z n σ (k7 l1 l3 l4 σ) 7 [some (.ref (z + 77)), some (.int (on_i l1)), none, some (.int (on_i l3)), some (.int (on_i l4))] []) (l1 : Int) (l4 : Int) (s0 : Int) (σ : on_S) : on_G X E cX12_gainOf RX12 (some .int) 7 164 5 z n σ (pf_X12_gainOf_46 k7 l1 l4 s0 σ) 46 [some (.ref (z + 77)), some (.int (on_i l1)), none, none, some (.int (on_i l4))] [.int (on_i s0)] := by
  rw [pf_X12_gainOf_46]
  refine on_iconst (tk_X12_gainOf 26 rfl) ?_
  refine on_iadd (tk_X12_gainOf 27 rfl) ?_
  refine on_is3 rfl (tk_X12_gainOf 28 rfl) ?_
  refine on_inc4 rfl (tk_X12_gainOf 29 rfl) ?_
  refine on_goto (tk_X12_gainOf 30 rfl) (tgt := 7) (by decide) ?_
  exact hk7 _ _ _ _
set_option maxRecDepth 100000 in
set_option maxHeartbeats 4000000 in
theorem gl_X12_gainOf_7 {E : on_E} {z n : Nat} (X : on_X) (hN : 100 ≤ n) : ∀ (nf : Nat) (l1 : Int) (l3 : Int) (l4 : Int) (σ : on_S), on_G X E cX12_gainOf RX12 (some .int) 7 164 5 z n σ (pf_X12_gainOf_7 nf l1 l3 l4 σ) 7 [some (.ref (z + 77)), some (.int (on_i l1)), none, some (.int (on_i l3)), some (.int (on_i l4))] [] := by
  intro nf
  induction nf with
  | zero => intro l1 l3 l4 σ; exact on_none
  | succ nf ih =>
    intro l1 l3 l4 σ
    rw [pf_X12_gainOf_7]
    refine on_il4 (tk_X12_gainOf 6 rfl) ?_
    refine on_al0 (tk_X12_gainOf 7 rfl) ?_
    refine fg_12_1 hN kw_6_141 (tk_X12_gainOf 8 rfl) ?_
    refine on_iconst (tk_X12_gainOf 9 rfl) ?_
    refine on_iald (ltc_78 hN) sh_78 (tk_X12_gainOf 10 rfl) fun v1 => ?_
    refine on_icmp_ge (tk_X12_gainOf 11 rfl) (tgt := 55) (by decide) ?_ ?_
    · refine on_il3 (tk_X12_gainOf 12 rfl) ?_
      refine on_al0 (tk_X12_gainOf 13 rfl) ?_
      refine on_al0 (tk_X12_gainOf 14 rfl) ?_
      refine on_il4 (tk_X12_gainOf 15 rfl) ?_
      refine on_cV1i 12 ms_X12_windowOf kw_7_192 rfl rfl (ltc_77 hN) sh_77 (ct_X12_windowOf hN) rfl (tk_X12_gainOf 16 rfl) fun v2 σ3 => ?_
      refine on_cV1i 12 ms_X12_houseOf kw_7_150 rfl rfl (ltc_77 hN) sh_77 (ct_X12_houseOf hN) rfl (tk_X12_gainOf 17 rfl) fun v4 σ5 => ?_
      refine on_il1 (tk_X12_gainOf 18 rfl) ?_
      refine on_icmp_ne (tk_X12_gainOf 19 rfl) (tgt := 46) (by decide) ?_ ?_
      · refine on_al0 (tk_X12_gainOf 20 rfl) ?_
        refine on_il4 (tk_X12_gainOf 21 rfl) ?_
        refine on_cV1z 12 ms_X12_isHeld kw_8_48 rfl rfl (ltc_77 hN) sh_77 (ct_X12_isHeld hN) rfl (tk_X12_gainOf 22 rfl) fun v6 σ7 => ?_
        refine on_if_eq (tk_X12_gainOf 23 rfl) (tgt := 46) (by decide) ?_ ?_
        · refine on_iconst (tk_X12_gainOf 24 rfl) ?_
          refine on_goto (tk_X12_gainOf 25 rfl) (tgt := 47) (by decide) ?_
          refine on_iadd (tk_X12_gainOf 27 rfl) ?_
          refine on_is3 rfl (tk_X12_gainOf 28 rfl) ?_
          refine on_inc4 rfl (tk_X12_gainOf 29 rfl) ?_
          refine on_goto (tk_X12_gainOf 30 rfl) (tgt := 7) (by decide) ?_
          exact ih _ _ _ _
        · refine on_dr3 ?_
          exact gb_X12_gainOf_46 X _ hN ih _ _ _ _
      · refine on_dr3 ?_
        exact gb_X12_gainOf_46 X _ hN ih _ _ _ _
    · refine on_il3 (tk_X12_gainOf 31 rfl) ?_
      exact on_iret (tk_X12_gainOf 32 rfl)
set_option maxRecDepth 100000 in
set_option maxHeartbeats 4000000 in
theorem ct_X12_gainOf {E : on_E} {z n : Nat} {p0 : Int} {p1 : Int} (hN : 100 ≤ n) {σ : on_S} : on_Sp E yX12_gainOf cX12_gainOf 5 (some .int) 7 164 z n [.ref (z + 77), .int (on_i p0), .int (on_i p1)] σ (pf_X12_gainOf p0 p1 σ) := by
  refine on_met [some (.ref (z + 77)), some (.int (on_i p0)), some (.int (on_i p1)), none, none] (by decide) rfl rfl (fun X => ?_)
  rw [pf_X12_gainOf]
  refine on_iconst (tk_X12_gainOf 0 rfl) ?_
  refine on_il2 (tk_X12_gainOf 1 rfl) ?_
  refine on_imul (tk_X12_gainOf 2 rfl) ?_
  refine on_is3 rfl (tk_X12_gainOf 3 rfl) ?_
  refine on_iconst (tk_X12_gainOf 4 rfl) ?_
  refine on_is4 rfl (tk_X12_gainOf 5 rfl) ?_
  refine on_dr2 ?_
  exact gl_X12_gainOf_7 X  hN on_N _ _ _ _
def tb_X12_gameOf : List (Nat × Nat × Nat × Instr) := [(0, 1, 1, .iconst 0), (1, 2, 3, .istore 6), (3, 2, 5, .iload 6), (5, 1, 6, .iconst 2), (6, 3, 9, .if_icmp .ge 23), (9, 1, 10, .aload_n 0), (10, 3, 13, .getfield 64), (13, 2, 15, .iload 6), (15, 1, 16, .aload_n 0), (16, 2, 18, .iload 6), (18, 1, 19, .iconst 2), (19, 3, 22, .invokevirtual 94), (22, 1, 23, .iastore), (23, 3, 26, .iinc 6 1), (26, 3, 29, .goto (-23)), (29, 1, 30, .aload_n 0), (30, 1, 31, .iload_n 2), (31, 1, 32, .iload_n 3), (32, 3, 35, .invokevirtual 428), (35, 1, 36, .aload_n 0), (36, 1, 37, .iload_n 1), (37, 2, 39, .iload 4), (39, 3, 42, .invokevirtual 428), (42, 2, 44, .iload 5), (44, 3, 47, .ifCond .ne 12), (47, 1, 48, .aload_n 0), (48, 1, 49, .iload_n 1), (49, 1, 50, .iload_n 3), (50, 3, 53, .invokevirtual 432), (53, 3, 56, .goto 10), (56, 1, 57, .aload_n 0), (57, 1, 58, .iload_n 2), (58, 2, 60, .iload 4), (60, 3, 63, .invokevirtual 432), (63, 2, 65, .istore 6), (65, 1, 66, .iconst 0), (66, 2, 68, .istore 7), (68, 2, 70, .iload 7), (70, 1, 71, .iconst 2), (71, 3, 74, .if_icmp .ge 31), (74, 1, 75, .aload_n 0), (75, 3, 78, .getfield 9), (78, 2, 80, .bipush 62), (80, 2, 82, .bipush 7), (82, 2, 84, .iload 7), (84, 1, 85, .imul), (85, 1, 86, .iadd), (86, 1, 87, .iconst 2), (87, 1, 88, .iadd), (88, 1, 89, .aload_n 0), (89, 3, 92, .getfield 64), (92, 2, 94, .iload 7), (94, 1, 95, .iaload), (95, 1, 96, .iastore), (96, 3, 99, .iinc 7 1), (99, 3, 102, .goto (-31)), (102, 2, 104, .iload 6), (104, 1, 105, .ireturn)]
set_option maxRecDepth 100000 in
theorem tk_X12_gameOf (k : Nat) {pc n pc2 : Nat} {i : Instr} (hk : tb_X12_gameOf[k]? = some (pc, n, pc2, i)) : on_dq cX12_gameOf pc n pc2 i := on_ta (by decide +kernel) k hk
theorem ms_X12_gameOf : on_Mv yX12_gameOf cX12_gameOf 8 (some .int) 5 := ⟨kw_9_32, kw_9_31, (on_mp (q := (yX12_gameOf, 37)) (by decide +kernel)), kw_1_13, by decide, by decide, by decide +kernel⟩
def pf_X12_gameOf_68 : Nat → Int → Int → on_S → Option on_O
  | 0, _, _, _ => none
  | nf + 1, l6, l7, σ =>
    on_Lt l7 2 (
      on_Rd σ 94 2 l7 fun v10 =>
      on_Wr σ 78 687 ((62 + (7 * l7)) + 2) v10 fun σ11 =>
      pf_X12_gameOf_68 nf l6 (l7 + 1) σ11) (
      some (l6, σ))
def pf_X12_gameOf_63 (s0 : Int) (σ : on_S) : Option on_O :=
  pf_X12_gameOf_68 on_N s0 0 σ
def pf_X12_gameOf_3 : Nat → Int → Int → Int → Int → Int → Int → on_S → Option on_O
  | 0, _, _, _, _, _, _, _ => none
  | nf + 1, l1, l2, l3, l4, l5, l6, σ =>
    on_Lt l6 2 (
      on_Cl (pf_X12_ofNet l6 2 σ) fun v1 σ2 =>
      on_Wr σ2 94 2 l6 v1 fun σ3 =>
      pf_X12_gameOf_3 nf l1 l2 l3 l4 l5 (l6 + 1) σ3) (
      on_Cl (pf_X12_wets l2 l3 σ) fun _ σ5 =>
      on_Cl (pf_X12_wets l1 l4 σ5) fun _ σ7 =>
      on_Eq l5 0 (
        on_Cl (pf_X12_gainOf l1 l3 σ7) fun v8 σ9 =>
        pf_X12_gameOf_63 v8 σ9) (
        on_Cl (pf_X12_gainOf l2 l4 σ7) fun v12 σ13 =>
        pf_X12_gameOf_63 v12 σ13))
def pf_X12_gameOf (p0 : Int) (p1 : Int) (p2 : Int) (p3 : Int) (p4 : Int) (σ : on_S) : Option on_O :=
  pf_X12_gameOf_3 on_N p0 p1 p2 p3 p4 0 σ
set_option maxRecDepth 100000 in
set_option maxHeartbeats 4000000 in
theorem gl_X12_gameOf_68 {E : on_E} {z n : Nat} (X : on_X) (hN : 100 ≤ n) : ∀ (nf : Nat) (l6 : Int) (l7 : Int) (σ : on_S), on_G X E cX12_gameOf RX12 (some .int) 8 188 8 z n σ (pf_X12_gameOf_68 nf l6 l7 σ) 68 [some (.ref (z + 77)), none, none, none, none, none, some (.int (on_i l6)), some (.int (on_i l7))] [] := by
  intro nf
  induction nf with
  | zero => intro l6 l7 σ; exact on_none
  | succ nf ih =>
    intro l6 l7 σ
    rw [pf_X12_gameOf_68]
    refine on_il7 (tk_X12_gameOf 37 rfl) ?_
    refine on_iconst (tk_X12_gameOf 38 rfl) ?_
    refine on_icmp_ge (tk_X12_gameOf 39 rfl) (tgt := 102) (by decide) ?_ ?_
    · refine on_al0 (tk_X12_gameOf 40 rfl) ?_
      refine fg_12_1 hN kw_6_141 (tk_X12_gameOf 41 rfl) ?_
      refine on_bipush (tk_X12_gameOf 42 rfl) bp_62 ?_
      refine on_bipush (tk_X12_gameOf 43 rfl) bp_7 ?_
      refine on_il7 (tk_X12_gameOf 44 rfl) ?_
      refine on_imul (tk_X12_gameOf 45 rfl) ?_
      refine on_iadd (tk_X12_gameOf 46 rfl) ?_
      refine on_iconst (tk_X12_gameOf 47 rfl) ?_
      refine on_iadd (tk_X12_gameOf 48 rfl) ?_
      refine on_al0 (tk_X12_gameOf 49 rfl) ?_
      refine fg_12_29 hN kw_6_169 (tk_X12_gameOf 50 rfl) ?_
      refine on_il7 (tk_X12_gameOf 51 rfl) ?_
      refine on_iald (ltc_94 hN) sh_94 (tk_X12_gameOf 52 rfl) fun v10 => ?_
      refine on_iast (ltc_78 hN) sh_78 (tk_X12_gameOf 53 rfl) fun σ11 => ?_
      refine on_inc7 rfl (tk_X12_gameOf 54 rfl) ?_
      refine on_goto (tk_X12_gameOf 55 rfl) (tgt := 68) (by decide) ?_
      exact ih _ _ _
    · refine on_il6 (tk_X12_gameOf 56 rfl) ?_
      exact on_iret (tk_X12_gameOf 57 rfl)
set_option maxRecDepth 100000 in
set_option maxHeartbeats 4000000 in
theorem gb_X12_gameOf_63 {E : on_E} {z n : Nat} (X : on_X) (hN : 100 ≤ n) (s0 : Int) (σ : on_S) : on_G X E cX12_gameOf RX12 (some .int) 8 188 8 z n σ (pf_X12_gameOf_63 s0 σ) 63 [some (.ref (z + 77)), none, none, none, none, none, none, none] [.int (on_i s0)] := by
  rw [pf_X12_gameOf_63]
  refine on_is6 rfl (tk_X12_gameOf 34 rfl) ?_
  refine on_iconst (tk_X12_gameOf 35 rfl) ?_
  refine on_is7 rfl (tk_X12_gameOf 36 rfl) ?_
  exact gl_X12_gameOf_68 X  hN on_N _ _ _
set_option maxRecDepth 100000 in
set_option maxHeartbeats 4000000 in
theorem gl_X12_gameOf_3 {E : on_E} {z n : Nat} (X : on_X) (hN : 100 ≤ n) : ∀ (nf : Nat) (l1 : Int) (l2 : Int) (l3 : Int) (l4 : Int) (l5 : Int) (l6 : Int) (σ : on_S), on_G X E cX12_gameOf RX12 (some .int) 8 188 8 z n σ (pf_X12_gameOf_3 nf l1 l2 l3 l4 l5 l6 σ) 3 [some (.ref (z + 77)), some (.int (on_i l1)), some (.int (on_i l2)), some (.int (on_i l3)), some (.int (on_i l4)), some (.int (on_i l5)), some (.int (on_i l6)), none] [] := by
  intro nf
  induction nf with
  | zero => intro l1 l2 l3 l4 l5 l6 σ; exact on_none
  | succ nf ih =>
    intro l1 l2 l3 l4 l5 l6 σ
    rw [pf_X12_gameOf_3]
    refine on_il6 (tk_X12_gameOf 2 rfl) ?_
    refine on_iconst (tk_X12_gameOf 3 rfl) ?_
    refine on_icmp_ge (tk_X12_gameOf 4 rfl) (tgt := 29) (by decide) ?_ ?_
    · refine on_al0 (tk_X12_gameOf 5 rfl) ?_
      refine fg_12_29 hN kw_6_169 (tk_X12_gameOf 6 rfl) ?_
      refine on_il6 (tk_X12_gameOf 7 rfl) ?_
      refine on_al0 (tk_X12_gameOf 8 rfl) ?_
      refine on_il6 (tk_X12_gameOf 9 rfl) ?_
      refine on_iconst (tk_X12_gameOf 10 rfl) ?_
      refine on_cV2i 12 ms_X12_ofNet kw_7_162 rfl rfl (ltc_77 hN) sh_77 (ct_X12_ofNet hN) rfl (tk_X12_gameOf 11 rfl) fun v1 σ2 => ?_
      refine on_iast (ltc_94 hN) sh_94 (tk_X12_gameOf 12 rfl) fun σ3 => ?_
      refine on_inc6 rfl (tk_X12_gameOf 13 rfl) ?_
      refine on_goto (tk_X12_gameOf 14 rfl) (tgt := 3) (by decide) ?_
      exact ih _ _ _ _ _ _ _
    · refine on_al0 (tk_X12_gameOf 15 rfl) ?_
      refine on_il2 (tk_X12_gameOf 16 rfl) ?_
      refine on_il3 (tk_X12_gameOf 17 rfl) ?_
      refine on_cV2v 12 ms_X12_wets kw_9_33 rfl rfl (ltc_77 hN) sh_77 (ct_X12_wets hN) rfl (tk_X12_gameOf 18 rfl) fun v4 σ5 => ?_
      refine on_al0 (tk_X12_gameOf 19 rfl) ?_
      refine on_il1 (tk_X12_gameOf 20 rfl) ?_
      refine on_il4 (tk_X12_gameOf 21 rfl) ?_
      refine on_cV2v 12 ms_X12_wets kw_9_33 rfl rfl (ltc_77 hN) sh_77 (ct_X12_wets hN) rfl (tk_X12_gameOf 22 rfl) fun v6 σ7 => ?_
      refine on_il5 (tk_X12_gameOf 23 rfl) ?_
      refine on_if_ne (tk_X12_gameOf 24 rfl) (tgt := 56) (by decide) ?_ ?_
      · refine on_al0 (tk_X12_gameOf 25 rfl) ?_
        refine on_il1 (tk_X12_gameOf 26 rfl) ?_
        refine on_il3 (tk_X12_gameOf 27 rfl) ?_
        refine on_cV2i 12 ms_X12_gainOf kw_9_37 rfl rfl (ltc_77 hN) sh_77 (ct_X12_gainOf hN) rfl (tk_X12_gameOf 28 rfl) fun v8 σ9 => ?_
        refine on_goto (tk_X12_gameOf 29 rfl) (tgt := 63) (by decide) ?_
        refine on_dr1 ?_
        refine on_dr2 ?_
        refine on_dr3 ?_
        refine on_dr4 ?_
        refine on_dr5 ?_
        refine on_dr6 ?_
        exact gb_X12_gameOf_63 X  hN _ _
      · refine on_al0 (tk_X12_gameOf 30 rfl) ?_
        refine on_il2 (tk_X12_gameOf 31 rfl) ?_
        refine on_il4 (tk_X12_gameOf 32 rfl) ?_
        refine on_cV2i 12 ms_X12_gainOf kw_9_37 rfl rfl (ltc_77 hN) sh_77 (ct_X12_gainOf hN) rfl (tk_X12_gameOf 33 rfl) fun v12 σ13 => ?_
        refine on_dr1 ?_
        refine on_dr2 ?_
        refine on_dr3 ?_
        refine on_dr4 ?_
        refine on_dr5 ?_
        refine on_dr6 ?_
        exact gb_X12_gameOf_63 X  hN _ _
set_option maxRecDepth 100000 in
set_option maxHeartbeats 4000000 in
theorem ct_X12_gameOf {E : on_E} {z n : Nat} {p0 : Int} {p1 : Int} {p2 : Int} {p3 : Int} {p4 : Int} (hN : 100 ≤ n) {σ : on_S} : on_Sp E yX12_gameOf cX12_gameOf 8 (some .int) 8 188 z n [.ref (z + 77), .int (on_i p0), .int (on_i p1), .int (on_i p2), .int (on_i p3), .int (on_i p4)] σ (pf_X12_gameOf p0 p1 p2 p3 p4 σ) := by
  refine on_met [some (.ref (z + 77)), some (.int (on_i p0)), some (.int (on_i p1)), some (.int (on_i p2)), some (.int (on_i p3)), some (.int (on_i p4)), none, none] (by decide) rfl rfl (fun X => ?_)
  rw [pf_X12_gameOf]
  refine on_iconst (tk_X12_gameOf 0 rfl) ?_
  refine on_is6 rfl (tk_X12_gameOf 1 rfl) ?_
  exact gl_X12_gameOf_3 X  hN on_N _ _ _ _ _ _ _
def tb_X12_game : List (Nat × Nat × Nat × Instr) := [(0, 1, 1, .aload_n 0), (1, 1, 2, .iload_n 1), (2, 1, 3, .iload_n 2), (3, 3, 6, .invokevirtual 322), (6, 3, 9, .ifCond .eq 49), (9, 1, 10, .iload_n 3), (10, 1, 11, .i2l), (11, 1, 12, .lconst 0), (12, 1, 13, .lconst 1), (13, 3, 16, .invokestatic 88), (16, 3, 19, .ifCond .eq 39), (19, 2, 21, .iload 4), (21, 1, 22, .i2l), (22, 1, 23, .lconst 0), (23, 1, 24, .lconst 1), (24, 3, 27, .invokestatic 88), (27, 3, 30, .ifCond .eq 28), (30, 2, 32, .iload 5), (32, 1, 33, .i2l), (33, 1, 34, .lconst 0), (34, 1, 35, .lconst 1), (35, 3, 38, .invokestatic 88), (38, 3, 41, .ifCond .eq 17), (41, 1, 42, .aload_n 0), (42, 1, 43, .iload_n 1), (43, 1, 44, .iload_n 2), (44, 1, 45, .iload_n 3), (45, 2, 47, .iload 4), (47, 2, 49, .iload 5), (49, 3, 52, .invokevirtual 435), (52, 3, 55, .goto 5), (55, 2, 57, .bipush (-2)), (57, 1, 58, .ireturn)]
set_option maxRecDepth 100000 in
theorem tk_X12_game (k : Nat) {pc n pc2 : Nat} {i : Instr} (hk : tb_X12_game[k]? = some (pc, n, pc2, i)) : on_dq cX12_game pc n pc2 i := on_ta (by decide +kernel) k hk
theorem ms_X12_game : on_Mv yX12_game cX12_game 6 (some .int) 5 := ⟨kw_9_28, kw_9_26, kw_9_27, kw_1_13, by decide, by decide, by decide +kernel⟩
def pf_X12_game_55 (σ : on_S) : Option on_O :=
  some ((-2), σ)
def pf_X12_game (p0 : Int) (p1 : Int) (p2 : Int) (p3 : Int) (p4 : Int) (σ : on_S) : Option on_O :=
  on_Cl (pf_X12_areHouses p0 p1 σ) fun v1 σ2 =>
  on_Eq v1 0 (
    pf_X12_game_55 σ2) (
    on_Ck p2 <|
    on_Cl (pf_X12_in p2 0 1 σ2) fun v3 σ4 =>
    on_Eq v3 0 (
      pf_X12_game_55 σ4) (
      on_Ck p3 <|
      on_Cl (pf_X12_in p3 0 1 σ4) fun v5 σ6 =>
      on_Eq v5 0 (
        pf_X12_game_55 σ6) (
        on_Ck p4 <|
        on_Cl (pf_X12_in p4 0 1 σ6) fun v7 σ8 =>
        on_Eq v7 0 (
          pf_X12_game_55 σ8) (
          on_Cl (pf_X12_gameOf p0 p1 p2 p3 p4 σ8) fun v9 σ10 =>
          some (v9, σ10)))))
set_option maxRecDepth 100000 in
set_option maxHeartbeats 4000000 in
theorem gb_X12_game_55 {E : on_E} {z n : Nat} (X : on_X) (hN : 100 ≤ n) (σ : on_S) : on_G X E cX12_game RX12 (some .int) 9 215 6 z n σ (pf_X12_game_55  σ) 55 [none, none, none, none, none, none] [] := by
  rw [pf_X12_game_55]
  refine on_bipush (tk_X12_game 31 rfl) bp_m2 ?_
  exact on_iret (tk_X12_game 32 rfl)
set_option maxRecDepth 100000 in
set_option maxHeartbeats 4000000 in
theorem ct_X12_game {E : on_E} {z n : Nat} {p0 : Int} {p1 : Int} {p2 : Int} {p3 : Int} {p4 : Int} (hN : 100 ≤ n) {σ : on_S} : on_Sp E yX12_game cX12_game 6 (some .int) 9 215 z n [.ref (z + 77), .int (on_i p0), .int (on_i p1), .int (on_i p2), .int (on_i p3), .int (on_i p4)] σ (pf_X12_game p0 p1 p2 p3 p4 σ) := by
  refine on_met [some (.ref (z + 77)), some (.int (on_i p0)), some (.int (on_i p1)), some (.int (on_i p2)), some (.int (on_i p3)), some (.int (on_i p4))] (by decide) rfl rfl (fun X => ?_)
  rw [pf_X12_game]
  refine on_al0 (tk_X12_game 0 rfl) ?_
  refine on_il1 (tk_X12_game 1 rfl) ?_
  refine on_il2 (tk_X12_game 2 rfl) ?_
  refine on_cV2z 12 ms_X12_areHouses kw_8_28 rfl rfl (ltc_77 hN) sh_77 (ct_X12_areHouses hN) rfl (tk_X12_game 3 rfl) fun v1 σ2 => ?_
  refine on_if_eq (tk_X12_game 4 rfl) (tgt := 55) (by decide) ?_ ?_
  · refine on_il3 (tk_X12_game 5 rfl) ?_
    refine on_xi2l (tk_X12_game 6 rfl) ?_
    refine on_lconst0 (tk_X12_game 7 rfl) ?_
    refine on_lconst1 (tk_X12_game 8 rfl) ?_
    refine on_cS3z ms_X12_in kw_7_18 (ct_X12_in hN) rfl (tk_X12_game 9 rfl) fun v3 σ4 => ?_
    refine on_if_eq (tk_X12_game 10 rfl) (tgt := 55) (by decide) ?_ ?_
    · refine on_il4 (tk_X12_game 11 rfl) ?_
      refine on_xi2l (tk_X12_game 12 rfl) ?_
      refine on_lconst0 (tk_X12_game 13 rfl) ?_
      refine on_lconst1 (tk_X12_game 14 rfl) ?_
      refine on_cS3z ms_X12_in kw_7_18 (ct_X12_in hN) rfl (tk_X12_game 15 rfl) fun v5 σ6 => ?_
      refine on_if_eq (tk_X12_game 16 rfl) (tgt := 55) (by decide) ?_ ?_
      · refine on_il5 (tk_X12_game 17 rfl) ?_
        refine on_xi2l (tk_X12_game 18 rfl) ?_
        refine on_lconst0 (tk_X12_game 19 rfl) ?_
        refine on_lconst1 (tk_X12_game 20 rfl) ?_
        refine on_cS3z ms_X12_in kw_7_18 (ct_X12_in hN) rfl (tk_X12_game 21 rfl) fun v7 σ8 => ?_
        refine on_if_eq (tk_X12_game 22 rfl) (tgt := 55) (by decide) ?_ ?_
        · refine on_al0 (tk_X12_game 23 rfl) ?_
          refine on_il1 (tk_X12_game 24 rfl) ?_
          refine on_il2 (tk_X12_game 25 rfl) ?_
          refine on_il3 (tk_X12_game 26 rfl) ?_
          refine on_il4 (tk_X12_game 27 rfl) ?_
          refine on_il5 (tk_X12_game 28 rfl) ?_
          refine on_cV5i 12 ms_X12_gameOf kw_9_29 rfl rfl (ltc_77 hN) sh_77 (ct_X12_gameOf hN) rfl (tk_X12_game 29 rfl) fun v9 σ10 => ?_
          refine on_goto (tk_X12_game 30 rfl) (tgt := 57) (by decide) ?_
          exact on_iret (tk_X12_game 32 rfl)
        · refine on_dr0 ?_
          refine on_dr1 ?_
          refine on_dr2 ?_
          refine on_dr3 ?_
          refine on_dr4 ?_
          refine on_dr5 ?_
          exact gb_X12_game_55 X  hN _
      · refine on_dr0 ?_
        refine on_dr1 ?_
        refine on_dr2 ?_
        refine on_dr3 ?_
        refine on_dr4 ?_
        refine on_dr5 ?_
        exact gb_X12_game_55 X  hN _
    · refine on_dr0 ?_
      refine on_dr1 ?_
      refine on_dr2 ?_
      refine on_dr3 ?_
      refine on_dr4 ?_
      refine on_dr5 ?_
      exact gb_X12_game_55 X  hN _
  · refine on_dr0 ?_
    refine on_dr1 ?_
    refine on_dr2 ?_
    refine on_dr3 ?_
    refine on_dr4 ?_
    refine on_dr5 ?_
    exact gb_X12_game_55 X  hN _
def tb_X12_rests : List (Nat × Nat × Nat × Instr) := [(0, 1, 1, .aload_n 0), (1, 1, 2, .iload_n 1), (2, 1, 3, .iload_n 2), (3, 3, 6, .invokevirtual 322), (6, 3, 9, .ifCond .ne 6), (9, 2, 11, .bipush (-2)), (11, 1, 12, .ireturn), (12, 1, 13, .iconst 0), (13, 1, 14, .istore_n 3), (14, 1, 15, .iconst 0), (15, 2, 17, .istore 4), (17, 2, 19, .iload 4), (19, 1, 20, .iconst 2), (20, 3, 23, .if_icmp .ge 106), (23, 1, 24, .iconst 0), (24, 2, 26, .istore 5), (26, 2, 28, .iload 5), (28, 1, 29, .iconst 2), (29, 3, 32, .if_icmp .ge 91), (32, 1, 33, .aload_n 0), (33, 1, 34, .iload_n 1), (34, 1, 35, .iload_n 2), (35, 1, 36, .iconst 1), (36, 2, 38, .iload 4), (38, 1, 39, .isub), (39, 2, 41, .iload 5), (41, 1, 42, .iconst 0), (42, 3, 45, .invokevirtual 435), (45, 1, 46, .aload_n 0), (46, 1, 47, .iload_n 1), (47, 1, 48, .iload_n 2), (48, 2, 50, .iload 4), (50, 2, 52, .iload 5), (52, 1, 53, .iconst 0), (53, 3, 56, .invokevirtual 435), (56, 3, 59, .if_icmp .gt 34), (59, 1, 60, .aload_n 0), (60, 1, 61, .iload_n 1), (61, 1, 62, .iload_n 2), (62, 2, 64, .iload 4), (64, 1, 65, .iconst 1), (65, 2, 67, .iload 5), (67, 1, 68, .isub), (68, 1, 69, .iconst 1), (69, 3, 72, .invokevirtual 435), (72, 1, 73, .aload_n 0), (73, 1, 74, .iload_n 1), (74, 1, 75, .iload_n 2), (75, 2, 77, .iload 4), (77, 2, 79, .iload 5), (79, 1, 80, .iconst 1), (80, 3, 83, .invokevirtual 435), (83, 3, 86, .if_icmp .gt 7), (86, 1, 87, .iconst 1), (87, 3, 90, .goto 4), (90, 1, 91, .iconst 0), (91, 2, 93, .istore 6), (93, 1, 94, .iload_n 3), (94, 2, 96, .iload 6), (96, 3, 99, .ifCond .eq 15), (99, 1, 100, .iconst 1), (100, 1, 101, .iconst 2), (101, 2, 103, .iload 4), (103, 1, 104, .imul), (104, 2, 106, .iload 5), (106, 1, 107, .iadd), (107, 1, 108, .ishl), (108, 3, 111, .goto 4), (111, 1, 112, .iconst 0), (112, 1, 113, .ior), (113, 1, 114, .istore_n 3), (114, 3, 117, .iinc 5 1), (117, 3, 120, .goto (-91)), (120, 3, 123, .iinc 4 1), (123, 3, 126, .goto (-106)), (126, 1, 127, .iload_n 3), (127, 1, 128, .ireturn)]
set_option maxRecDepth 100000 in
theorem tk_X12_rests (k : Nat) {pc n pc2 : Nat} {i : Instr} (hk : tb_X12_rests[k]? = some (pc, n, pc2, i)) : on_dq cX12_rests pc n pc2 i := on_ta (by decide +kernel) k hk
theorem ms_X12_rests : on_Mv yX12_rests cX12_rests 7 (some .int) 2 := ⟨kw_9_44, kw_9_42, kw_9_43, kw_1_13, by decide, by decide, by decide +kernel⟩
def pf_X12_rests_91 (k17 : Int → Int → Int → Int → on_S → Option on_O) (k26 : Int → Int → Int → Int → Int → on_S → Option on_O) (l1 : Int) (l2 : Int) (l3 : Int) (l4 : Int) (l5 : Int) (s0 : Int) (σ : on_S) : Option on_O :=
  on_Eq s0 0 (
    k26 l1 l2 (on_or l3 0) l4 (l5 + 1) σ) (
    k26 l1 l2 (on_or l3 (on_shl 1 ((2 * l4) + l5))) l4 (l5 + 1) σ)
def pf_X12_rests_90 (k17 : Int → Int → Int → Int → on_S → Option on_O) (k26 : Int → Int → Int → Int → Int → on_S → Option on_O) (l1 : Int) (l2 : Int) (l3 : Int) (l4 : Int) (l5 : Int) (σ : on_S) : Option on_O :=
  pf_X12_rests_91 k17 k26 l1 l2 l3 l4 l5 0 σ
def pf_X12_rests_26 (k17 : Int → Int → Int → Int → on_S → Option on_O) : Nat → Int → Int → Int → Int → Int → on_S → Option on_O
  | 0, _, _, _, _, _, _ => none
  | nf + 1, l1, l2, l3, l4, l5, σ =>
    on_Lt l5 2 (
      on_Cl (pf_X12_gameOf l1 l2 (1 - l4) l5 0 σ) fun v3 σ4 =>
      on_Cl (pf_X12_gameOf l1 l2 l4 l5 0 σ4) fun v5 σ6 =>
      on_Le v3 v5 (
        on_Cl (pf_X12_gameOf l1 l2 l4 (1 - l5) 1 σ6) fun v7 σ8 =>
        on_Cl (pf_X12_gameOf l1 l2 l4 l5 1 σ8) fun v9 σ10 =>
        on_Le v7 v9 (
          pf_X12_rests_91 k17 (pf_X12_rests_26 k17 nf) l1 l2 l3 l4 l5 1 σ10) (
          pf_X12_rests_90 k17 (pf_X12_rests_26 k17 nf) l1 l2 l3 l4 l5 σ10)) (
        pf_X12_rests_90 k17 (pf_X12_rests_26 k17 nf) l1 l2 l3 l4 l5 σ6)) (
      k17 l1 l2 l3 (l4 + 1) σ)
def pf_X12_rests_17 : Nat → Int → Int → Int → Int → on_S → Option on_O
  | 0, _, _, _, _, _ => none
  | nf + 1, l1, l2, l3, l4, σ =>
    on_Lt l4 2 (
      pf_X12_rests_26 (pf_X12_rests_17 nf) on_N l1 l2 l3 l4 0 σ) (
      some (l3, σ))
def pf_X12_rests (p0 : Int) (p1 : Int) (σ : on_S) : Option on_O :=
  on_Cl (pf_X12_areHouses p0 p1 σ) fun v1 σ2 =>
  on_Eq v1 0 (
    some ((-2), σ2)) (
    pf_X12_rests_17 on_N p0 p1 0 0 σ2)
set_option maxRecDepth 100000 in
set_option maxHeartbeats 4000000 in
theorem gb_X12_rests_91 {E : on_E} {z n : Nat} (X : on_X) (k17 : Int → Int → Int → Int → on_S → Option on_O) (k26 : Int → Int → Int → Int → Int → on_S → Option on_O) (hN : 100 ≤ n) (hk17 : ∀ (l1 : Int) (l2 : Int) (l3 : Int) (l4 : Int) (σ : on_S), on_G X E cX12_rests RX12 (some .int) 9 215 7 z n σ (k17 l1 l2 l3 l4 σ) 17 [some (.ref (z + 77)), some (.int (on_i l1)), some (.int (on_i l2)), some (.int (on_i l3)), some (.int (on_i l4)), none, none] []) (hk26 : ∀ (l1 : Int) (l2 : Int) (l3 : Int) (l4 : Int) (l5 : Int) (σ : on_S), on_G X E cX12_rests RX12 (some .int) 9 215 7 z n σ (k26 l1 l2 l3 l4 l5 σ) 26 [some (.ref (z + 77)), some (.int (on_i l1)), some (.int (on_i l2)), some (.int (on_i l3)), some (.int (on_i l4)), some (.int (on_i l5)), none] []) (l1 : Int) (l2 : Int) (l3 : Int) (l4 : Int) (l5 : Int) (s0 : Int) (σ : on_S) : on_G X E cX12_rests RX12 (some .int) 9 215 7 z n σ (pf_X12_rests_91 k17 k26 l1 l2 l3 l4 l5 s0 σ) 91 [some (.ref (z + 77)), some (.int (on_i l1)), some (.int (on_i l2)), some (.int (on_i l3)), some (.int (on_i l4)), some (.int (on_i l5)), none] [.int (on_i s0)] := by
  rw [pf_X12_rests_91]
  refine on_is6 rfl (tk_X12_rests 56 rfl) ?_
  refine on_il3 (tk_X12_rests 57 rfl) ?_
  refine on_il6 (tk_X12_rests 58 rfl) ?_
  refine on_if_eq (tk_X12_rests 59 rfl) (tgt := 111) (by decide) ?_ ?_
  · refine on_iconst (tk_X12_rests 60 rfl) ?_
    refine on_iconst (tk_X12_rests 61 rfl) ?_
    refine on_il4 (tk_X12_rests 62 rfl) ?_
    refine on_imul (tk_X12_rests 63 rfl) ?_
    refine on_il5 (tk_X12_rests 64 rfl) ?_
    refine on_iadd (tk_X12_rests 65 rfl) ?_
    refine on_ishl (tk_X12_rests 66 rfl) ?_
    refine on_goto (tk_X12_rests 67 rfl) (tgt := 112) (by decide) ?_
    refine on_ior (tk_X12_rests 69 rfl) ?_
    refine on_is3 rfl (tk_X12_rests 70 rfl) ?_
    refine on_inc5 rfl (tk_X12_rests 71 rfl) ?_
    refine on_goto (tk_X12_rests 72 rfl) (tgt := 26) (by decide) ?_
    refine on_dr6 ?_
    exact hk26 _ _ _ _ _ _
  · refine on_iconst (tk_X12_rests 68 rfl) ?_
    refine on_ior (tk_X12_rests 69 rfl) ?_
    refine on_is3 rfl (tk_X12_rests 70 rfl) ?_
    refine on_inc5 rfl (tk_X12_rests 71 rfl) ?_
    refine on_goto (tk_X12_rests 72 rfl) (tgt := 26) (by decide) ?_
    refine on_dr6 ?_
    exact hk26 _ _ _ _ _ _
set_option maxRecDepth 100000 in
set_option maxHeartbeats 4000000 in
theorem gb_X12_rests_90 {E : on_E} {z n : Nat} (X : on_X) (k17 : Int → Int → Int → Int → on_S → Option on_O) (k26 : Int → Int → Int → Int → Int → on_S → Option on_O) (hN : 100 ≤ n) (hk17 : ∀ (l1 : Int) (l2 : Int) (l3 : Int) (l4 : Int) (σ : on_S), on_G X E cX12_rests RX12 (some .int) 9 215 7 z n σ (k17 l1 l2 l3 l4 σ) 17 [some (.ref (z + 77)), some (.int (on_i l1)), some (.int (on_i l2)), some (.int (on_i l3)), some (.int (on_i l4)), none, none] []) (hk26 : ∀ (l1 : Int) (l2 : Int) (l3 : Int) (l4 : Int) (l5 : Int) (σ : on_S), on_G X E cX12_rests RX12 (some .int) 9 215 7 z n σ (k26 l1 l2 l3 l4 l5 σ) 26 [some (.ref (z + 77)), some (.int (on_i l1)), some (.int (on_i l2)), some (.int (on_i l3)), some (.int (on_i l4)), some (.int (on_i l5)), none] []) (l1 : Int) (l2 : Int) (l3 : Int) (l4 : Int) (l5 : Int) (σ : on_S) : on_G X E cX12_rests RX12 (some .int) 9 215 7 z n σ (pf_X12_rests_90 k17 k26 l1 l2 l3 l4 l5 σ) 90 [some (.ref (z + 77)), some (.int (on_i l1)), some (.int (on_i l2)), some (.int (on_i l3)), some (.int (on_i l4)), some (.int (on_i l5)), none] [] := by
  rw [pf_X12_rests_90]
  refine on_iconst (tk_X12_rests 55 rfl) ?_
  exact gb_X12_rests_91 X _ _ hN hk17 hk26 _ _ _ _ _ _ _
set_option maxRecDepth 100000 in
set_option maxHeartbeats 4000000 in
theorem gl_X12_rests_26 {E : on_E} {z n : Nat} (X : on_X) (k17 : Int → Int → Int → Int → on_S → Option on_O) (hN : 100 ≤ n) (hk17 : ∀ (l1 : Int) (l2 : Int) (l3 : Int) (l4 : Int) (σ : on_S), on_G X E cX12_rests RX12 (some .int) 9 215 7 z n σ (k17 l1 l2 l3 l4 σ) 17 [some (.ref (z + 77)), some (.int (on_i l1)), some (.int (on_i l2)), some (.int (on_i l3)), some (.int (on_i l4)), none, none] []) : ∀ (nf : Nat) (l1 : Int) (l2 : Int) (l3 : Int) (l4 : Int) (l5 : Int) (σ : on_S), on_G X E cX12_rests RX12 (some .int) 9 215 7 z n σ (pf_X12_rests_26 k17 nf l1 l2 l3 l4 l5 σ) 26 [some (.ref (z + 77)), some (.int (on_i l1)), some (.int (on_i l2)), some (.int (on_i l3)), some (.int (on_i l4)), some (.int (on_i l5)), none] [] := by
  intro nf
  induction nf with
  | zero => intro l1 l2 l3 l4 l5 σ; exact on_none
  | succ nf ih =>
    intro l1 l2 l3 l4 l5 σ
    rw [pf_X12_rests_26]
    refine on_il5 (tk_X12_rests 16 rfl) ?_
    refine on_iconst (tk_X12_rests 17 rfl) ?_
    refine on_icmp_ge (tk_X12_rests 18 rfl) (tgt := 120) (by decide) ?_ ?_
    · refine on_al0 (tk_X12_rests 19 rfl) ?_
      refine on_il1 (tk_X12_rests 20 rfl) ?_
      refine on_il2 (tk_X12_rests 21 rfl) ?_
      refine on_iconst (tk_X12_rests 22 rfl) ?_
      refine on_il4 (tk_X12_rests 23 rfl) ?_
      refine on_isub (tk_X12_rests 24 rfl) ?_
      refine on_il5 (tk_X12_rests 25 rfl) ?_
      refine on_iconst (tk_X12_rests 26 rfl) ?_
      refine on_cV5i 12 ms_X12_gameOf kw_9_29 rfl rfl (ltc_77 hN) sh_77 (ct_X12_gameOf hN) rfl (tk_X12_rests 27 rfl) fun v3 σ4 => ?_
      refine on_al0 (tk_X12_rests 28 rfl) ?_
      refine on_il1 (tk_X12_rests 29 rfl) ?_
      refine on_il2 (tk_X12_rests 30 rfl) ?_
      refine on_il4 (tk_X12_rests 31 rfl) ?_
      refine on_il5 (tk_X12_rests 32 rfl) ?_
      refine on_iconst (tk_X12_rests 33 rfl) ?_
      refine on_cV5i 12 ms_X12_gameOf kw_9_29 rfl rfl (ltc_77 hN) sh_77 (ct_X12_gameOf hN) rfl (tk_X12_rests 34 rfl) fun v5 σ6 => ?_
      refine on_icmp_gt (tk_X12_rests 35 rfl) (tgt := 90) (by decide) ?_ ?_
      · refine on_al0 (tk_X12_rests 36 rfl) ?_
        refine on_il1 (tk_X12_rests 37 rfl) ?_
        refine on_il2 (tk_X12_rests 38 rfl) ?_
        refine on_il4 (tk_X12_rests 39 rfl) ?_
        refine on_iconst (tk_X12_rests 40 rfl) ?_
        refine on_il5 (tk_X12_rests 41 rfl) ?_
        refine on_isub (tk_X12_rests 42 rfl) ?_
        refine on_iconst (tk_X12_rests 43 rfl) ?_
        refine on_cV5i 12 ms_X12_gameOf kw_9_29 rfl rfl (ltc_77 hN) sh_77 (ct_X12_gameOf hN) rfl (tk_X12_rests 44 rfl) fun v7 σ8 => ?_
        refine on_al0 (tk_X12_rests 45 rfl) ?_
        refine on_il1 (tk_X12_rests 46 rfl) ?_
        refine on_il2 (tk_X12_rests 47 rfl) ?_
        refine on_il4 (tk_X12_rests 48 rfl) ?_
        refine on_il5 (tk_X12_rests 49 rfl) ?_
        refine on_iconst (tk_X12_rests 50 rfl) ?_
        refine on_cV5i 12 ms_X12_gameOf kw_9_29 rfl rfl (ltc_77 hN) sh_77 (ct_X12_gameOf hN) rfl (tk_X12_rests 51 rfl) fun v9 σ10 => ?_
        refine on_icmp_gt (tk_X12_rests 52 rfl) (tgt := 90) (by decide) ?_ ?_
        · refine on_iconst (tk_X12_rests 53 rfl) ?_
          refine on_goto (tk_X12_rests 54 rfl) (tgt := 91) (by decide) ?_
          exact gb_X12_rests_91 X _ _ hN hk17 ih _ _ _ _ _ _ _
        · exact gb_X12_rests_90 X _ _ hN hk17 ih _ _ _ _ _ _
      · exact gb_X12_rests_90 X _ _ hN hk17 ih _ _ _ _ _ _
    · refine on_inc4 rfl (tk_X12_rests 73 rfl) ?_
      refine on_goto (tk_X12_rests 74 rfl) (tgt := 17) (by decide) ?_
      refine on_dr5 ?_
      exact hk17 _ _ _ _ _
set_option maxRecDepth 100000 in
set_option maxHeartbeats 4000000 in
theorem gl_X12_rests_17 {E : on_E} {z n : Nat} (X : on_X) (hN : 100 ≤ n) : ∀ (nf : Nat) (l1 : Int) (l2 : Int) (l3 : Int) (l4 : Int) (σ : on_S), on_G X E cX12_rests RX12 (some .int) 9 215 7 z n σ (pf_X12_rests_17 nf l1 l2 l3 l4 σ) 17 [some (.ref (z + 77)), some (.int (on_i l1)), some (.int (on_i l2)), some (.int (on_i l3)), some (.int (on_i l4)), none, none] [] := by
  intro nf
  induction nf with
  | zero => intro l1 l2 l3 l4 σ; exact on_none
  | succ nf ih =>
    intro l1 l2 l3 l4 σ
    rw [pf_X12_rests_17]
    refine on_il4 (tk_X12_rests 11 rfl) ?_
    refine on_iconst (tk_X12_rests 12 rfl) ?_
    refine on_icmp_ge (tk_X12_rests 13 rfl) (tgt := 126) (by decide) ?_ ?_
    · refine on_iconst (tk_X12_rests 14 rfl) ?_
      refine on_is5 rfl (tk_X12_rests 15 rfl) ?_
      exact gl_X12_rests_26 X _ hN ih on_N _ _ _ _ _ _
    · refine on_il3 (tk_X12_rests 75 rfl) ?_
      exact on_iret (tk_X12_rests 76 rfl)
set_option maxRecDepth 100000 in
set_option maxHeartbeats 4000000 in
theorem ct_X12_rests {E : on_E} {z n : Nat} {p0 : Int} {p1 : Int} (hN : 100 ≤ n) {σ : on_S} : on_Sp E yX12_rests cX12_rests 7 (some .int) 9 215 z n [.ref (z + 77), .int (on_i p0), .int (on_i p1)] σ (pf_X12_rests p0 p1 σ) := by
  refine on_met [some (.ref (z + 77)), some (.int (on_i p0)), some (.int (on_i p1)), none, none, none, none] (by decide) rfl rfl (fun X => ?_)
  rw [pf_X12_rests]
  refine on_al0 (tk_X12_rests 0 rfl) ?_
  refine on_il1 (tk_X12_rests 1 rfl) ?_
  refine on_il2 (tk_X12_rests 2 rfl) ?_
  refine on_cV2z 12 ms_X12_areHouses kw_8_28 rfl rfl (ltc_77 hN) sh_77 (ct_X12_areHouses hN) rfl (tk_X12_rests 3 rfl) fun v1 σ2 => ?_
  refine on_if_ne (tk_X12_rests 4 rfl) (tgt := 12) (by decide) ?_ ?_
  · refine on_bipush (tk_X12_rests 5 rfl) bp_m2 ?_
    exact on_iret (tk_X12_rests 6 rfl)
  · refine on_iconst (tk_X12_rests 7 rfl) ?_
    refine on_is3 rfl (tk_X12_rests 8 rfl) ?_
    refine on_iconst (tk_X12_rests 9 rfl) ?_
    refine on_is4 rfl (tk_X12_rests 10 rfl) ?_
    exact gl_X12_rests_17 X  hN on_N _ _ _ _ _
def tb_X12_soughtBy : List (Nat × Nat × Nat × Instr) := [(0, 1, 1, .iconst 0), (1, 1, 2, .istore_n 2), (2, 1, 3, .iconst 1), (3, 1, 4, .istore_n 3), (4, 1, 5, .iconst 1), (5, 2, 7, .istore 4), (7, 2, 9, .iload 4), (9, 1, 10, .iload_n 1), (10, 3, 13, .if_icmp .gt 25), (13, 1, 14, .iload_n 3), (14, 1, 15, .iload_n 0), (15, 2, 17, .iload 4), (17, 1, 18, .isub), (18, 1, 19, .iconst 1), (19, 1, 20, .iadd), (20, 1, 21, .imul), (21, 2, 23, .iload 4), (23, 1, 24, .idiv), (24, 1, 25, .istore_n 3), (25, 1, 26, .iload_n 2), (26, 1, 27, .iload_n 3), (27, 1, 28, .iadd), (28, 1, 29, .istore_n 2), (29, 3, 32, .iinc 4 1), (32, 3, 35, .goto (-25)), (35, 1, 36, .iload_n 2), (36, 1, 37, .ireturn)]
set_option maxRecDepth 100000 in
theorem tk_X12_soughtBy (k : Nat) {pc n pc2 : Nat} {i : Instr} (hk : tb_X12_soughtBy[k]? = some (pc, n, pc2, i)) : on_dq cX12_soughtBy pc n pc2 i := on_ta (by decide +kernel) k hk
theorem ms_X12_soughtBy : on_Ms yX12_soughtBy cX12_soughtBy 5 (some .int) 2 := ⟨kw_9_55, kw_9_54, kw_1_13, by decide, by decide, by decide +kernel⟩
def pf_X12_soughtBy_7 : Nat → Int → Int → Int → Int → Int → on_S → Option on_O
  | 0, _, _, _, _, _, _ => none
  | nf + 1, l0, l1, l2, l3, l4, σ =>
    on_Le l4 l1 (
      on_Dv (l3 * ((l0 - l4) + 1)) l4 fun v1 =>
      pf_X12_soughtBy_7 nf l0 l1 (l2 + v1) v1 (l4 + 1) σ) (
      some (l2, σ))
def pf_X12_soughtBy (p0 : Int) (p1 : Int) (σ : on_S) : Option on_O :=
  pf_X12_soughtBy_7 on_N p0 p1 0 1 1 σ
set_option maxRecDepth 100000 in
set_option maxHeartbeats 4000000 in
theorem gl_X12_soughtBy_7 {E : on_E} {z n : Nat} (X : on_X) (hN : 100 ≤ n) : ∀ (nf : Nat) (l0 : Int) (l1 : Int) (l2 : Int) (l3 : Int) (l4 : Int) (σ : on_S), on_G X E cX12_soughtBy RX12 (some .int) 0 0 5 z n σ (pf_X12_soughtBy_7 nf l0 l1 l2 l3 l4 σ) 7 [some (.int (on_i l0)), some (.int (on_i l1)), some (.int (on_i l2)), some (.int (on_i l3)), some (.int (on_i l4))] [] := by
  intro nf
  induction nf with
  | zero => intro l0 l1 l2 l3 l4 σ; exact on_none
  | succ nf ih =>
    intro l0 l1 l2 l3 l4 σ
    rw [pf_X12_soughtBy_7]
    refine on_il4 (tk_X12_soughtBy 6 rfl) ?_
    refine on_il1 (tk_X12_soughtBy 7 rfl) ?_
    refine on_icmp_gt (tk_X12_soughtBy 8 rfl) (tgt := 35) (by decide) ?_ ?_
    · refine on_il3 (tk_X12_soughtBy 9 rfl) ?_
      refine on_il0 (tk_X12_soughtBy 10 rfl) ?_
      refine on_il4 (tk_X12_soughtBy 11 rfl) ?_
      refine on_isub (tk_X12_soughtBy 12 rfl) ?_
      refine on_iconst (tk_X12_soughtBy 13 rfl) ?_
      refine on_iadd (tk_X12_soughtBy 14 rfl) ?_
      refine on_imul (tk_X12_soughtBy 15 rfl) ?_
      refine on_il4 (tk_X12_soughtBy 16 rfl) ?_
      refine on_idiv (tk_X12_soughtBy 17 rfl) fun v1 => ?_
      refine on_is3 rfl (tk_X12_soughtBy 18 rfl) ?_
      refine on_il2 (tk_X12_soughtBy 19 rfl) ?_
      refine on_il3 (tk_X12_soughtBy 20 rfl) ?_
      refine on_iadd (tk_X12_soughtBy 21 rfl) ?_
      refine on_is2 rfl (tk_X12_soughtBy 22 rfl) ?_
      refine on_inc4 rfl (tk_X12_soughtBy 23 rfl) ?_
      refine on_goto (tk_X12_soughtBy 24 rfl) (tgt := 7) (by decide) ?_
      exact ih _ _ _ _ _ _
    · refine on_il2 (tk_X12_soughtBy 25 rfl) ?_
      exact on_iret (tk_X12_soughtBy 26 rfl)
set_option maxRecDepth 100000 in
set_option maxHeartbeats 4000000 in
theorem ct_X12_soughtBy {E : on_E} {z n : Nat} {p0 : Int} {p1 : Int} (hN : 100 ≤ n) {σ : on_S} : on_Sp E yX12_soughtBy cX12_soughtBy 5 (some .int) 0 0 z n [.int (on_i p0), .int (on_i p1)] σ (pf_X12_soughtBy p0 p1 σ) := by
  refine on_met [some (.int (on_i p0)), some (.int (on_i p1)), none, none, none] (by decide) rfl rfl (fun X => ?_)
  rw [pf_X12_soughtBy]
  refine on_iconst (tk_X12_soughtBy 0 rfl) ?_
  refine on_is2 rfl (tk_X12_soughtBy 1 rfl) ?_
  refine on_iconst (tk_X12_soughtBy 2 rfl) ?_
  refine on_is3 rfl (tk_X12_soughtBy 3 rfl) ?_
  refine on_iconst (tk_X12_soughtBy 4 rfl) ?_
  refine on_is4 rfl (tk_X12_soughtBy 5 rfl) ?_
  exact gl_X12_soughtBy_7 X  hN on_N _ _ _ _ _ _
def tb_X12_testsFor : List (Nat × Nat × Nat × Instr) := [(0, 1, 1, .iconst 0), (1, 1, 2, .istore_n 2), (2, 1, 3, .iload_n 2), (3, 1, 4, .iload_n 1), (4, 3, 7, .invokestatic 439), (7, 1, 8, .iload_n 0), (8, 3, 11, .if_icmp .ge 9), (11, 3, 14, .iinc 2 1), (14, 3, 17, .goto (-12)), (17, 1, 18, .iload_n 2), (18, 1, 19, .ireturn)]
set_option maxRecDepth 100000 in
theorem tk_X12_testsFor (k : Nat) {pc n pc2 : Nat} {i : Instr} (hk : tb_X12_testsFor[k]? = some (pc, n, pc2, i)) : on_dq cX12_testsFor pc n pc2 i := on_ta (by decide +kernel) k hk
theorem ms_X12_testsFor : on_Ms yX12_testsFor cX12_testsFor 3 (some .int) 2 := ⟨kw_9_52, kw_9_51, kw_1_13, by decide, by decide, by decide +kernel⟩
def pf_X12_testsFor_2 : Nat → Int → Int → Int → on_S → Option on_O
  | 0, _, _, _, _ => none
  | nf + 1, l0, l1, l2, σ =>
    on_Cl (pf_X12_soughtBy l2 l1 σ) fun v1 σ2 =>
    on_Lt v1 l0 (
      pf_X12_testsFor_2 nf l0 l1 (l2 + 1) σ2) (
      some (l2, σ2))
def pf_X12_testsFor (p0 : Int) (p1 : Int) (σ : on_S) : Option on_O :=
  pf_X12_testsFor_2 on_N p0 p1 0 σ
set_option maxRecDepth 100000 in
set_option maxHeartbeats 4000000 in
theorem gl_X12_testsFor_2 {E : on_E} {z n : Nat} (X : on_X) (hN : 100 ≤ n) : ∀ (nf : Nat) (l0 : Int) (l1 : Int) (l2 : Int) (σ : on_S), on_G X E cX12_testsFor RX12 (some .int) 1 24 3 z n σ (pf_X12_testsFor_2 nf l0 l1 l2 σ) 2 [some (.int (on_i l0)), some (.int (on_i l1)), some (.int (on_i l2))] [] := by
  intro nf
  induction nf with
  | zero => intro l0 l1 l2 σ; exact on_none
  | succ nf ih =>
    intro l0 l1 l2 σ
    rw [pf_X12_testsFor_2]
    refine on_il2 (tk_X12_testsFor 2 rfl) ?_
    refine on_il1 (tk_X12_testsFor 3 rfl) ?_
    refine on_cS2i ms_X12_soughtBy kw_9_53 (ct_X12_soughtBy hN) rfl (tk_X12_testsFor 4 rfl) fun v1 σ2 => ?_
    refine on_il0 (tk_X12_testsFor 5 rfl) ?_
    refine on_icmp_ge (tk_X12_testsFor 6 rfl) (tgt := 17) (by decide) ?_ ?_
    · refine on_inc2 rfl (tk_X12_testsFor 7 rfl) ?_
      refine on_goto (tk_X12_testsFor 8 rfl) (tgt := 2) (by decide) ?_
      exact ih _ _ _ _
    · refine on_il2 (tk_X12_testsFor 9 rfl) ?_
      exact on_iret (tk_X12_testsFor 10 rfl)
set_option maxRecDepth 100000 in
set_option maxHeartbeats 4000000 in
theorem ct_X12_testsFor {E : on_E} {z n : Nat} {p0 : Int} {p1 : Int} (hN : 100 ≤ n) {σ : on_S} : on_Sp E yX12_testsFor cX12_testsFor 3 (some .int) 1 24 z n [.int (on_i p0), .int (on_i p1)] σ (pf_X12_testsFor p0 p1 σ) := by
  refine on_met [some (.int (on_i p0)), some (.int (on_i p1)), none] (by decide) rfl rfl (fun X => ?_)
  rw [pf_X12_testsFor]
  refine on_iconst (tk_X12_testsFor 0 rfl) ?_
  refine on_is2 rfl (tk_X12_testsFor 1 rfl) ?_
  exact gl_X12_testsFor_2 X  hN on_N _ _ _ _
def tb_X12_tests : List (Nat × Nat × Nat × Instr) := [(0, 1, 1, .iload_n 1), (1, 1, 2, .i2l), (2, 1, 3, .lconst 0), (3, 3, 6, .ldc2_w 328), (6, 3, 9, .invokestatic 88), (9, 3, 12, .ifCond .eq 23), (12, 1, 13, .iload_n 2), (13, 1, 14, .i2l), (14, 1, 15, .lconst 1), (15, 3, 18, .ldc2_w 442), (18, 3, 21, .invokestatic 88), (21, 3, 24, .ifCond .eq 11), (24, 1, 25, .iload_n 1), (25, 1, 26, .iload_n 2), (26, 3, 29, .invokestatic 444), (29, 3, 32, .goto 5), (32, 2, 34, .bipush (-2)), (34, 1, 35, .ireturn)]
set_option maxRecDepth 100000 in
theorem tk_X12_tests (k : Nat) {pc n pc2 : Nat} {i : Instr} (hk : tb_X12_tests[k]? = some (pc, n, pc2, i)) : on_dq cX12_tests pc n pc2 i := on_ta (by decide +kernel) k hk
theorem ms_X12_tests : on_Mv yX12_tests cX12_tests 3 (some .int) 2 := ⟨kw_9_48, kw_9_46, kw_9_47, kw_1_13, by decide, by decide, by decide +kernel⟩
def pf_X12_tests_32 (σ : on_S) : Option on_O :=
  some ((-2), σ)
def pf_X12_tests (p0 : Int) (p1 : Int) (σ : on_S) : Option on_O :=
  on_Ck p0 <|
  on_Cl (pf_X12_in p0 0 99 σ) fun v1 σ2 =>
  on_Eq v1 0 (
    pf_X12_tests_32 σ2) (
    on_Ck p1 <|
    on_Cl (pf_X12_in p1 1 9 σ2) fun v3 σ4 =>
    on_Eq v3 0 (
      pf_X12_tests_32 σ4) (
      on_Cl (pf_X12_testsFor p0 p1 σ4) fun v5 σ6 =>
      some (v5, σ6)))
set_option maxRecDepth 100000 in
set_option maxHeartbeats 4000000 in
theorem gb_X12_tests_32 {E : on_E} {z n : Nat} (X : on_X) (hN : 100 ≤ n) (σ : on_S) : on_G X E cX12_tests RX12 (some .int) 2 46 3 z n σ (pf_X12_tests_32  σ) 32 [none, none, none] [] := by
  rw [pf_X12_tests_32]
  refine on_bipush (tk_X12_tests 16 rfl) bp_m2 ?_
  exact on_iret (tk_X12_tests 17 rfl)
set_option maxRecDepth 100000 in
set_option maxHeartbeats 4000000 in
theorem ct_X12_tests {E : on_E} {z n : Nat} {p0 : Int} {p1 : Int} (hN : 100 ≤ n) {σ : on_S} : on_Sp E yX12_tests cX12_tests 3 (some .int) 2 46 z n [.ref (z + 77), .int (on_i p0), .int (on_i p1)] σ (pf_X12_tests p0 p1 σ) := by
  refine on_met [some (.ref (z + 77)), some (.int (on_i p0)), some (.int (on_i p1))] (by decide) rfl rfl (fun X => ?_)
  rw [pf_X12_tests]
  refine on_il1 (tk_X12_tests 0 rfl) ?_
  refine on_xi2l (tk_X12_tests 1 rfl) ?_
  refine on_lconst0 (tk_X12_tests 2 rfl) ?_
  refine on_ldc2 (a := 99) kw_8_60 (by decide +kernel) (tk_X12_tests 3 rfl) ?_
  refine on_cS3z ms_X12_in kw_7_18 (ct_X12_in hN) rfl (tk_X12_tests 4 rfl) fun v1 σ2 => ?_
  refine on_if_eq (tk_X12_tests 5 rfl) (tgt := 32) (by decide) ?_ ?_
  · refine on_il2 (tk_X12_tests 6 rfl) ?_
    refine on_xi2l (tk_X12_tests 7 rfl) ?_
    refine on_lconst1 (tk_X12_tests 8 rfl) ?_
    refine on_ldc2 (a := 9) kw_9_49 (by decide +kernel) (tk_X12_tests 9 rfl) ?_
    refine on_cS3z ms_X12_in kw_7_18 (ct_X12_in hN) rfl (tk_X12_tests 10 rfl) fun v3 σ4 => ?_
    refine on_if_eq (tk_X12_tests 11 rfl) (tgt := 32) (by decide) ?_ ?_
    · refine on_il1 (tk_X12_tests 12 rfl) ?_
      refine on_il2 (tk_X12_tests 13 rfl) ?_
      refine on_cS2i ms_X12_testsFor kw_9_50 (ct_X12_testsFor hN) rfl (tk_X12_tests 14 rfl) fun v5 σ6 => ?_
      refine on_goto (tk_X12_tests 15 rfl) (tgt := 34) (by decide) ?_
      exact on_iret (tk_X12_tests 17 rfl)
    · refine on_dr0 ?_
      refine on_dr1 ?_
      refine on_dr2 ?_
      exact gb_X12_tests_32 X  hN _
  · refine on_dr0 ?_
    refine on_dr1 ?_
    refine on_dr2 ?_
    exact gb_X12_tests_32 X  hN _
def tb_X12_sought : List (Nat × Nat × Nat × Instr) := [(0, 1, 1, .iload_n 1), (1, 1, 2, .i2l), (2, 1, 3, .lconst 0), (3, 3, 6, .ldc2_w 447), (6, 3, 9, .invokestatic 88), (9, 3, 12, .ifCond .eq 23), (12, 1, 13, .iload_n 2), (13, 1, 14, .i2l), (14, 1, 15, .lconst 1), (15, 3, 18, .ldc2_w 442), (18, 3, 21, .invokestatic 88), (21, 3, 24, .ifCond .eq 11), (24, 1, 25, .iload_n 1), (25, 1, 26, .iload_n 2), (26, 3, 29, .invokestatic 439), (29, 3, 32, .goto 5), (32, 2, 34, .bipush (-2)), (34, 1, 35, .ireturn)]
set_option maxRecDepth 100000 in
theorem tk_X12_sought (k : Nat) {pc n pc2 : Nat} {i : Instr} (hk : tb_X12_sought[k]? = some (pc, n, pc2, i)) : on_dq cX12_sought pc n pc2 i := on_ta (by decide +kernel) k hk
theorem ms_X12_sought : on_Mv yX12_sought cX12_sought 3 (some .int) 2 := ⟨kw_9_59, kw_9_57, kw_9_58, kw_1_13, by decide, by decide, by decide +kernel⟩
def pf_X12_sought_32 (σ : on_S) : Option on_O :=
  some ((-2), σ)
def pf_X12_sought (p0 : Int) (p1 : Int) (σ : on_S) : Option on_O :=
  on_Ck p0 <|
  on_Cl (pf_X12_in p0 0 12 σ) fun v1 σ2 =>
  on_Eq v1 0 (
    pf_X12_sought_32 σ2) (
    on_Ck p1 <|
    on_Cl (pf_X12_in p1 1 9 σ2) fun v3 σ4 =>
    on_Eq v3 0 (
      pf_X12_sought_32 σ4) (
      on_Cl (pf_X12_soughtBy p0 p1 σ4) fun v5 σ6 =>
      some (v5, σ6)))
set_option maxRecDepth 100000 in
set_option maxHeartbeats 4000000 in
theorem gb_X12_sought_32 {E : on_E} {z n : Nat} (X : on_X) (hN : 100 ≤ n) (σ : on_S) : on_G X E cX12_sought RX12 (some .int) 1 25 3 z n σ (pf_X12_sought_32  σ) 32 [none, none, none] [] := by
  rw [pf_X12_sought_32]
  refine on_bipush (tk_X12_sought 16 rfl) bp_m2 ?_
  exact on_iret (tk_X12_sought 17 rfl)
set_option maxRecDepth 100000 in
set_option maxHeartbeats 4000000 in
theorem ct_X12_sought {E : on_E} {z n : Nat} {p0 : Int} {p1 : Int} (hN : 100 ≤ n) {σ : on_S} : on_Sp E yX12_sought cX12_sought 3 (some .int) 1 25 z n [.ref (z + 77), .int (on_i p0), .int (on_i p1)] σ (pf_X12_sought p0 p1 σ) := by
  refine on_met [some (.ref (z + 77)), some (.int (on_i p0)), some (.int (on_i p1))] (by decide) rfl rfl (fun X => ?_)
  rw [pf_X12_sought]
  refine on_il1 (tk_X12_sought 0 rfl) ?_
  refine on_xi2l (tk_X12_sought 1 rfl) ?_
  refine on_lconst0 (tk_X12_sought 2 rfl) ?_
  refine on_ldc2 (a := 12) kw_9_60 (by decide +kernel) (tk_X12_sought 3 rfl) ?_
  refine on_cS3z ms_X12_in kw_7_18 (ct_X12_in hN) rfl (tk_X12_sought 4 rfl) fun v1 σ2 => ?_
  refine on_if_eq (tk_X12_sought 5 rfl) (tgt := 32) (by decide) ?_ ?_
  · refine on_il2 (tk_X12_sought 6 rfl) ?_
    refine on_xi2l (tk_X12_sought 7 rfl) ?_
    refine on_lconst1 (tk_X12_sought 8 rfl) ?_
    refine on_ldc2 (a := 9) kw_9_49 (by decide +kernel) (tk_X12_sought 9 rfl) ?_
    refine on_cS3z ms_X12_in kw_7_18 (ct_X12_in hN) rfl (tk_X12_sought 10 rfl) fun v3 σ4 => ?_
    refine on_if_eq (tk_X12_sought 11 rfl) (tgt := 32) (by decide) ?_ ?_
    · refine on_il1 (tk_X12_sought 12 rfl) ?_
      refine on_il2 (tk_X12_sought 13 rfl) ?_
      refine on_cS2i ms_X12_soughtBy kw_9_53 (ct_X12_soughtBy hN) rfl (tk_X12_sought 14 rfl) fun v5 σ6 => ?_
      refine on_goto (tk_X12_sought 15 rfl) (tgt := 34) (by decide) ?_
      exact on_iret (tk_X12_sought 17 rfl)
    · refine on_dr0 ?_
      refine on_dr1 ?_
      refine on_dr2 ?_
      exact gb_X12_sought_32 X  hN _
  · refine on_dr0 ?_
    refine on_dr1 ?_
    refine on_dr2 ?_
    exact gb_X12_sought_32 X  hN _
def tb_X12_firstFall : List (Nat × Nat × Nat × Instr) := [(0, 1, 1, .iload_n 1), (1, 1, 2, .i2l), (2, 1, 3, .lconst 1), (3, 3, 6, .ldc2_w 328), (6, 3, 9, .invokestatic 88), (9, 3, 12, .ifCond .eq 35), (12, 1, 13, .iload_n 2), (13, 1, 14, .i2l), (14, 1, 15, .lconst 1), (15, 3, 18, .ldc2_w 442), (18, 3, 21, .invokestatic 88), (21, 3, 24, .ifCond .eq 23), (24, 1, 25, .iconst 1), (25, 1, 26, .iload_n 1), (26, 1, 27, .iload_n 1), (27, 1, 28, .iload_n 2), (28, 3, 31, .invokestatic 444), (31, 1, 32, .iconst 1), (32, 1, 33, .isub), (33, 1, 34, .iload_n 2), (34, 3, 37, .invokestatic 439), (37, 1, 38, .isub), (38, 3, 41, .invokestatic 266), (41, 3, 44, .goto 5), (44, 2, 46, .bipush (-2)), (46, 1, 47, .ireturn)]
set_option maxRecDepth 100000 in
theorem tk_X12_firstFall (k : Nat) {pc n pc2 : Nat} {i : Instr} (hk : tb_X12_firstFall[k]? = some (pc, n, pc2, i)) : on_dq cX12_firstFall pc n pc2 i := on_ta (by decide +kernel) k hk
theorem ms_X12_firstFall : on_Mv yX12_firstFall cX12_firstFall 3 (some .int) 2 := ⟨kw_9_64, kw_9_62, kw_9_63, kw_1_13, by decide, by decide, by decide +kernel⟩
def pf_X12_firstFall_44 (σ : on_S) : Option on_O :=
  some ((-2), σ)
def pf_X12_firstFall (p0 : Int) (p1 : Int) (σ : on_S) : Option on_O :=
  on_Ck p0 <|
  on_Cl (pf_X12_in p0 1 99 σ) fun v1 σ2 =>
  on_Eq v1 0 (
    pf_X12_firstFall_44 σ2) (
    on_Ck p1 <|
    on_Cl (pf_X12_in p1 1 9 σ2) fun v3 σ4 =>
    on_Eq v3 0 (
      pf_X12_firstFall_44 σ4) (
      on_Cl (pf_X12_testsFor p0 p1 σ4) fun v5 σ6 =>
      on_Cl (pf_X12_soughtBy (v5 - 1) p1 σ6) fun v7 σ8 =>
      on_Mx 1 (p0 - v7) fun v9 =>
      some (v9, σ8)))
set_option maxRecDepth 100000 in
set_option maxHeartbeats 4000000 in
theorem gb_X12_firstFall_44 {E : on_E} {z n : Nat} (X : on_X) (hN : 100 ≤ n) (σ : on_S) : on_G X E cX12_firstFall RX12 (some .int) 2 46 3 z n σ (pf_X12_firstFall_44  σ) 44 [none, none, none] [] := by
  rw [pf_X12_firstFall_44]
  refine on_bipush (tk_X12_firstFall 24 rfl) bp_m2 ?_
  exact on_iret (tk_X12_firstFall 25 rfl)
set_option maxRecDepth 100000 in
set_option maxHeartbeats 4000000 in
theorem ct_X12_firstFall {E : on_E} {z n : Nat} {p0 : Int} {p1 : Int} (hN : 100 ≤ n) {σ : on_S} : on_Sp E yX12_firstFall cX12_firstFall 3 (some .int) 2 46 z n [.ref (z + 77), .int (on_i p0), .int (on_i p1)] σ (pf_X12_firstFall p0 p1 σ) := by
  refine on_met [some (.ref (z + 77)), some (.int (on_i p0)), some (.int (on_i p1))] (by decide) rfl rfl (fun X => ?_)
  rw [pf_X12_firstFall]
  refine on_il1 (tk_X12_firstFall 0 rfl) ?_
  refine on_xi2l (tk_X12_firstFall 1 rfl) ?_
  refine on_lconst1 (tk_X12_firstFall 2 rfl) ?_
  refine on_ldc2 (a := 99) kw_8_60 (by decide +kernel) (tk_X12_firstFall 3 rfl) ?_
  refine on_cS3z ms_X12_in kw_7_18 (ct_X12_in hN) rfl (tk_X12_firstFall 4 rfl) fun v1 σ2 => ?_
  refine on_if_eq (tk_X12_firstFall 5 rfl) (tgt := 44) (by decide) ?_ ?_
  · refine on_il2 (tk_X12_firstFall 6 rfl) ?_
    refine on_xi2l (tk_X12_firstFall 7 rfl) ?_
    refine on_lconst1 (tk_X12_firstFall 8 rfl) ?_
    refine on_ldc2 (a := 9) kw_9_49 (by decide +kernel) (tk_X12_firstFall 9 rfl) ?_
    refine on_cS3z ms_X12_in kw_7_18 (ct_X12_in hN) rfl (tk_X12_firstFall 10 rfl) fun v3 σ4 => ?_
    refine on_if_eq (tk_X12_firstFall 11 rfl) (tgt := 44) (by decide) ?_ ?_
    · refine on_iconst (tk_X12_firstFall 12 rfl) ?_
      refine on_il1 (tk_X12_firstFall 13 rfl) ?_
      refine on_il1 (tk_X12_firstFall 14 rfl) ?_
      refine on_il2 (tk_X12_firstFall 15 rfl) ?_
      refine on_cS2i ms_X12_testsFor kw_9_50 (ct_X12_testsFor hN) rfl (tk_X12_firstFall 16 rfl) fun v5 σ6 => ?_
      refine on_iconst (tk_X12_firstFall 17 rfl) ?_
      refine on_isub (tk_X12_firstFall 18 rfl) ?_
      refine on_il2 (tk_X12_firstFall 19 rfl) ?_
      refine on_cS2i ms_X12_soughtBy kw_9_53 (ct_X12_soughtBy hN) rfl (tk_X12_firstFall 20 rfl) fun v7 σ8 => ?_
      refine on_isub (tk_X12_firstFall 21 rfl) ?_
      refine on_max kw_7_204 kwM_max_s kwM_i kwM_max_c rfl (tk_X12_firstFall 22 rfl) fun v9 => ?_
      refine on_goto (tk_X12_firstFall 23 rfl) (tgt := 46) (by decide) ?_
      exact on_iret (tk_X12_firstFall 25 rfl)
    · refine on_dr0 ?_
      refine on_dr1 ?_
      refine on_dr2 ?_
      exact gb_X12_firstFall_44 X  hN _
  · refine on_dr0 ?_
    refine on_dr1 ?_
    refine on_dr2 ?_
    exact gb_X12_firstFall_44 X  hN _
def tb_X12_numberAt : List (Nat × Nat × Nat × Instr) := [(0, 1, 1, .aload_n 0), (1, 3, 4, .getfield 76), (4, 2, 6, .bipush 60), (6, 1, 7, .iload_n 1), (7, 1, 8, .imul), (8, 1, 9, .iload_n 2), (9, 1, 10, .iadd), (10, 1, 11, .laload), (11, 1, 12, .lreturn)]
set_option maxRecDepth 100000 in
theorem tk_X12_numberAt (k : Nat) {pc n pc2 : Nat} {i : Instr} (hk : tb_X12_numberAt[k]? = some (pc, n, pc2, i)) : on_dq cX12_numberAt pc n pc2 i := on_ta (by decide +kernel) k hk
theorem ms_X12_numberAt : on_Mv yX12_numberAt cX12_numberAt 3 (some .long) 2 := ⟨kw_9_79, kw_9_78, (on_mp (q := (yX12_numberAt, 37)) (by decide +kernel)), kw_1_13, by decide, by decide, by decide +kernel⟩
def pf_X12_numberAt (p0 : Int) (p1 : Int) (σ : on_S) : Option on_O :=
  on_Rd σ 98 240 ((60 * p0) + p1) fun v1 =>
  some (v1, σ)
set_option maxRecDepth 100000 in
set_option maxHeartbeats 4000000 in
theorem ct_X12_numberAt {E : on_E} {z n : Nat} {p0 : Int} {p1 : Int} (hN : 100 ≤ n) {σ : on_S} : on_Sp E yX12_numberAt cX12_numberAt 3 (some .long) 0 0 z n [.ref (z + 77), .int (on_i p0), .int (on_i p1)] σ (pf_X12_numberAt p0 p1 σ) := by
  refine on_met [some (.ref (z + 77)), some (.int (on_i p0)), some (.int (on_i p1))] (by decide) rfl rfl (fun X => ?_)
  rw [pf_X12_numberAt]
  refine on_al0 (tk_X12_numberAt 0 rfl) ?_
  refine fg_12_35 hN kw_6_175 (tk_X12_numberAt 1 rfl) ?_
  refine on_bipush (tk_X12_numberAt 2 rfl) bp_60 ?_
  refine on_il1 (tk_X12_numberAt 3 rfl) ?_
  refine on_imul (tk_X12_numberAt 4 rfl) ?_
  refine on_il2 (tk_X12_numberAt 5 rfl) ?_
  refine on_iadd (tk_X12_numberAt 6 rfl) ?_
  refine on_lald (ltc_98 hN) sh_98 (tk_X12_numberAt 7 rfl) fun v1 => ?_
  exact on_lret (tk_X12_numberAt 8 rfl)
def tb_X12_isSlot : List (Nat × Nat × Nat × Instr) := [(0, 1, 1, .iload_n 0), (1, 1, 2, .i2l), (2, 1, 3, .lconst 0), (3, 3, 6, .ldc2_w 92), (6, 3, 9, .invokestatic 88), (9, 1, 10, .ireturn)]
set_option maxRecDepth 100000 in
theorem tk_X12_isSlot (k : Nat) {pc n pc2 : Nat} {i : Instr} (hk : tb_X12_isSlot[k]? = some (pc, n, pc2, i)) : on_dq cX12_isSlot pc n pc2 i := on_ta (by decide +kernel) k hk
theorem ms_X12_isSlot : on_Ms yX12_isSlot cX12_isSlot 1 (some .boolean) 1 := ⟨kw_9_75, kw_9_74, kw_1_13, by decide, by decide, by decide +kernel⟩
def pf_X12_isSlot (p0 : Int) (σ : on_S) : Option on_O :=
  on_Ck p0 <|
  on_Cl (pf_X12_in p0 0 3 σ) fun v1 σ2 =>
  on_Bz v1 σ2
set_option maxRecDepth 100000 in
set_option maxHeartbeats 4000000 in
theorem ct_X12_isSlot {E : on_E} {z n : Nat} {p0 : Int} (hN : 100 ≤ n) {σ : on_S} : on_Sp E yX12_isSlot cX12_isSlot 1 (some .boolean) 1 25 z n [.int (on_i p0)] σ (pf_X12_isSlot p0 σ) := by
  refine on_met [some (.int (on_i p0))] (by decide) rfl rfl (fun X => ?_)
  rw [pf_X12_isSlot]
  refine on_il0 (tk_X12_isSlot 0 rfl) ?_
  refine on_xi2l (tk_X12_isSlot 1 rfl) ?_
  refine on_lconst0 (tk_X12_isSlot 2 rfl) ?_
  refine on_ldc2 (a := 3) kw_7_174 (by decide +kernel) (tk_X12_isSlot 3 rfl) ?_
  refine on_cS3z ms_X12_in kw_7_18 (ct_X12_in hN) rfl (tk_X12_isSlot 4 rfl) fun v1 σ2 => ?_
  exact on_zret (tk_X12_isSlot 5 rfl)
def tb_X12_asksSeen : List (Nat × Nat × Nat × Instr) := [(0, 1, 1, .iload_n 1), (1, 3, 4, .invokestatic 449), (4, 3, 7, .ifCond .eq 14), (7, 1, 8, .aload_n 0), (8, 3, 11, .invokevirtual 336), (11, 3, 14, .ifCond .eq 7), (14, 1, 15, .iload_n 2), (15, 3, 18, .ifCond .ne 6), (18, 2, 20, .bipush (-2)), (20, 1, 21, .ireturn), (21, 1, 22, .aload_n 0), (22, 3, 25, .getfield 70), (25, 1, 26, .iload_n 1), (26, 1, 27, .iaload), (27, 1, 28, .iconst (-1)), (28, 3, 31, .if_icmp .ne 6), (31, 2, 33, .bipush (-6)), (33, 1, 34, .ireturn), (34, 1, 35, .aload_n 0), (35, 3, 38, .getfield 70), (38, 1, 39, .iload_n 1), (39, 1, 40, .iaload), (40, 1, 41, .iconst 3), (41, 1, 42, .irem), (42, 3, 45, .ifCond .eq 6), (45, 2, 47, .bipush (-2)), (47, 1, 48, .ireturn), (48, 1, 49, .iconst 0), (49, 1, 50, .istore_n 3), (50, 1, 51, .iload_n 3), (51, 1, 52, .aload_n 0), (52, 3, 55, .getfield 70), (55, 1, 56, .iload_n 1), (56, 1, 57, .iaload), (57, 3, 60, .if_icmp .ge 54), (60, 1, 61, .aload_n 0), (61, 1, 62, .aload_n 0), (62, 1, 63, .iload_n 1), (63, 1, 64, .iload_n 3), (64, 3, 67, .invokevirtual 452), (67, 3, 70, .invokevirtual 301), (70, 3, 73, .ifCond .eq 32), (73, 1, 74, .aload_n 0), (74, 1, 75, .iload_n 1), (75, 1, 76, .iload_n 3), (76, 1, 77, .iconst 1), (77, 1, 78, .iadd), (78, 3, 81, .invokevirtual 452), (81, 1, 82, .lconst 0), (82, 1, 83, .lcmp), (83, 3, 86, .ifCond .lt 19), (86, 1, 87, .aload_n 0), (87, 1, 88, .iload_n 1), (88, 1, 89, .iload_n 3), (89, 1, 90, .iconst 2), (90, 1, 91, .iadd), (91, 3, 94, .invokevirtual 452), (94, 1, 95, .lconst 0), (95, 1, 96, .lconst 1), (96, 3, 99, .invokestatic 88), (99, 3, 102, .ifCond .ne 6), (102, 2, 104, .bipush (-2)), (104, 1, 105, .ireturn), (105, 3, 108, .iinc 3 3), (108, 3, 111, .goto (-58)), (111, 1, 112, .iconst 0), (112, 1, 113, .ireturn)]
set_option maxRecDepth 100000 in
theorem tk_X12_asksSeen (k : Nat) {pc n pc2 : Nat} {i : Instr} (hk : tb_X12_asksSeen[k]? = some (pc, n, pc2, i)) : on_dq cX12_asksSeen pc n pc2 i := on_ta (by decide +kernel) k hk
theorem ms_X12_asksSeen : on_Mv yX12_asksSeen cX12_asksSeen 4 (some .int) 2 := ⟨kw_9_72, kw_9_71, (on_mp (q := (yX12_asksSeen, 37)) (by decide +kernel)), kw_1_13, by decide, by decide, by decide +kernel⟩
def pf_X12_asksSeen_50 : Nat → Int → Int → on_S → Option on_O
  | 0, _, _, _ => none
  | nf + 1, l1, l3, σ =>
    on_Rd σ 96 4 l1 fun v8 =>
    on_Lt l3 v8 (
      on_Cl (pf_X12_numberAt l1 l3 σ) fun v9 σ10 =>
      on_Cl (pf_X12_isNet v9 σ10) fun v11 σ12 =>
      on_Eq v11 0 (
        some ((-2), σ12)) (
        on_Cl (pf_X12_numberAt l1 (l3 + 1) σ12) fun v13 σ14 =>
        on_LtL v13 0 (
          some ((-2), σ14)) (
          on_Cl (pf_X12_numberAt l1 (l3 + 2) σ14) fun v15 σ16 =>
          on_Cl (pf_X12_in v15 0 1 σ16) fun v17 σ18 =>
          on_Eq v17 0 (
            some ((-2), σ18)) (
            pf_X12_asksSeen_50 nf l1 (l3 + 3) σ18)))) (
      some (0, σ))
def pf_X12_asksSeen (p0 : Int) (p1 : Int) (σ : on_S) : Option on_O :=
  on_Cl (pf_X12_isSlot p0 σ) fun v1 σ2 =>
  on_Eq v1 0 (
    some ((-2), σ2)) (
    on_Cl (pf_X12_isStreet σ2) fun v3 σ4 =>
    on_Eq v3 0 (
      some ((-2), σ4)) (
      on_Eq p1 0 (
        some ((-2), σ4)) (
        on_Rd σ4 96 4 p0 fun v5 =>
        on_Eq v5 (-1) (
          some ((-6), σ4)) (
          on_Rd σ4 96 4 p0 fun v6 =>
          on_Rm v6 3 fun v7 =>
          on_Eq v7 0 (
            pf_X12_asksSeen_50 on_N p0 0 σ4) (
            some ((-2), σ4))))))
set_option maxRecDepth 100000 in
set_option maxHeartbeats 4000000 in
theorem gl_X12_asksSeen_50 {E : on_E} {z n : Nat} (X : on_X) (hN : 100 ≤ n) : ∀ (nf : Nat) (l1 : Int) (l3 : Int) (σ : on_S), on_G X E cX12_asksSeen RX12 (some .int) 2 47 4 z n σ (pf_X12_asksSeen_50 nf l1 l3 σ) 50 [some (.ref (z + 77)), some (.int (on_i l1)), none, some (.int (on_i l3))] [] := by
  intro nf
  induction nf with
  | zero => intro l1 l3 σ; exact on_none
  | succ nf ih =>
    intro l1 l3 σ
    rw [pf_X12_asksSeen_50]
    refine on_il3 (tk_X12_asksSeen 29 rfl) ?_
    refine on_al0 (tk_X12_asksSeen 30 rfl) ?_
    refine fg_12_33 hN kw_6_173 (tk_X12_asksSeen 31 rfl) ?_
    refine on_il1 (tk_X12_asksSeen 32 rfl) ?_
    refine on_iald (ltc_96 hN) sh_96 (tk_X12_asksSeen 33 rfl) fun v8 => ?_
    refine on_icmp_ge (tk_X12_asksSeen 34 rfl) (tgt := 111) (by decide) ?_ ?_
    · refine on_al0 (tk_X12_asksSeen 35 rfl) ?_
      refine on_al0 (tk_X12_asksSeen 36 rfl) ?_
      refine on_il1 (tk_X12_asksSeen 37 rfl) ?_
      refine on_il3 (tk_X12_asksSeen 38 rfl) ?_
      refine on_cV2l 12 ms_X12_numberAt kw_9_76 rfl rfl (ltc_77 hN) sh_77 (ct_X12_numberAt hN) rfl (tk_X12_asksSeen 39 rfl) fun v9 σ10 => ?_
      refine on_cV1z 12 ms_X12_isNet kw_7_183 rfl rfl (ltc_77 hN) sh_77 (ct_X12_isNet hN) rfl (tk_X12_asksSeen 40 rfl) fun v11 σ12 => ?_
      refine on_if_eq (tk_X12_asksSeen 41 rfl) (tgt := 102) (by decide) ?_ ?_
      · refine on_al0 (tk_X12_asksSeen 42 rfl) ?_
        refine on_il1 (tk_X12_asksSeen 43 rfl) ?_
        refine on_il3 (tk_X12_asksSeen 44 rfl) ?_
        refine on_iconst (tk_X12_asksSeen 45 rfl) ?_
        refine on_iadd (tk_X12_asksSeen 46 rfl) ?_
        refine on_cV2l 12 ms_X12_numberAt kw_9_76 rfl rfl (ltc_77 hN) sh_77 (ct_X12_numberAt hN) rfl (tk_X12_asksSeen 47 rfl) fun v13 σ14 => ?_
        refine on_lconst0 (tk_X12_asksSeen 48 rfl) ?_
        refine on_lcmp_lt (tk_X12_asksSeen 49 rfl) (tk_X12_asksSeen 50 rfl) (tgt := 102) (by decide) ?_ ?_
        · refine on_al0 (tk_X12_asksSeen 51 rfl) ?_
          refine on_il1 (tk_X12_asksSeen 52 rfl) ?_
          refine on_il3 (tk_X12_asksSeen 53 rfl) ?_
          refine on_iconst (tk_X12_asksSeen 54 rfl) ?_
          refine on_iadd (tk_X12_asksSeen 55 rfl) ?_
          refine on_cV2l 12 ms_X12_numberAt kw_9_76 rfl rfl (ltc_77 hN) sh_77 (ct_X12_numberAt hN) rfl (tk_X12_asksSeen 56 rfl) fun v15 σ16 => ?_
          refine on_lconst0 (tk_X12_asksSeen 57 rfl) ?_
          refine on_lconst1 (tk_X12_asksSeen 58 rfl) ?_
          refine on_cS3z ms_X12_in kw_7_18 (ct_X12_in hN) rfl (tk_X12_asksSeen 59 rfl) fun v17 σ18 => ?_
          refine on_if_ne (tk_X12_asksSeen 60 rfl) (tgt := 105) (by decide) ?_ ?_
          · refine on_bipush (tk_X12_asksSeen 61 rfl) bp_m2 ?_
            exact on_iret (tk_X12_asksSeen 62 rfl)
          · refine on_inc3 rfl (tk_X12_asksSeen 63 rfl) ?_
            refine on_goto (tk_X12_asksSeen 64 rfl) (tgt := 50) (by decide) ?_
            exact ih _ _ _
        · refine on_bipush (tk_X12_asksSeen 61 rfl) bp_m2 ?_
          exact on_iret (tk_X12_asksSeen 62 rfl)
      · refine on_bipush (tk_X12_asksSeen 61 rfl) bp_m2 ?_
        exact on_iret (tk_X12_asksSeen 62 rfl)
    · refine on_iconst (tk_X12_asksSeen 65 rfl) ?_
      exact on_iret (tk_X12_asksSeen 66 rfl)
set_option maxRecDepth 100000 in
set_option maxHeartbeats 4000000 in
theorem ct_X12_asksSeen {E : on_E} {z n : Nat} {p0 : Int} {p1 : Int} (hN : 100 ≤ n) {σ : on_S} : on_Sp E yX12_asksSeen cX12_asksSeen 4 (some .int) 2 47 z n [.ref (z + 77), .int (on_i p0), .int (on_i p1)] σ (pf_X12_asksSeen p0 p1 σ) := by
  refine on_met [some (.ref (z + 77)), some (.int (on_i p0)), some (.int (on_i p1)), none] (by decide) rfl rfl (fun X => ?_)
  rw [pf_X12_asksSeen]
  refine on_il1 (tk_X12_asksSeen 0 rfl) ?_
  refine on_cS1z ms_X12_isSlot kw_9_73 (ct_X12_isSlot hN) rfl (tk_X12_asksSeen 1 rfl) fun v1 σ2 => ?_
  refine on_if_eq (tk_X12_asksSeen 2 rfl) (tgt := 18) (by decide) ?_ ?_
  · refine on_al0 (tk_X12_asksSeen 3 rfl) ?_
    refine on_cV0z 12 ms_X12_isStreet kw_8_73 rfl rfl (ltc_77 hN) sh_77 (ct_X12_isStreet hN) rfl (tk_X12_asksSeen 4 rfl) fun v3 σ4 => ?_
    refine on_if_eq (tk_X12_asksSeen 5 rfl) (tgt := 18) (by decide) ?_ ?_
    · refine on_il2 (tk_X12_asksSeen 6 rfl) ?_
      refine on_if_ne (tk_X12_asksSeen 7 rfl) (tgt := 21) (by decide) ?_ ?_
      · refine on_bipush (tk_X12_asksSeen 8 rfl) bp_m2 ?_
        exact on_iret (tk_X12_asksSeen 9 rfl)
      · refine on_al0 (tk_X12_asksSeen 10 rfl) ?_
        refine fg_12_33 hN kw_6_173 (tk_X12_asksSeen 11 rfl) ?_
        refine on_il1 (tk_X12_asksSeen 12 rfl) ?_
        refine on_iald (ltc_96 hN) sh_96 (tk_X12_asksSeen 13 rfl) fun v5 => ?_
        refine on_iconst (tk_X12_asksSeen 14 rfl) ?_
        refine on_icmp_ne (tk_X12_asksSeen 15 rfl) (tgt := 34) (by decide) ?_ ?_
        · refine on_bipush (tk_X12_asksSeen 16 rfl) bp_m6 ?_
          exact on_iret (tk_X12_asksSeen 17 rfl)
        · refine on_al0 (tk_X12_asksSeen 18 rfl) ?_
          refine fg_12_33 hN kw_6_173 (tk_X12_asksSeen 19 rfl) ?_
          refine on_il1 (tk_X12_asksSeen 20 rfl) ?_
          refine on_iald (ltc_96 hN) sh_96 (tk_X12_asksSeen 21 rfl) fun v6 => ?_
          refine on_iconst (tk_X12_asksSeen 22 rfl) ?_
          refine on_irem (tk_X12_asksSeen 23 rfl) fun v7 => ?_
          refine on_if_eq (tk_X12_asksSeen 24 rfl) (tgt := 48) (by decide) ?_ ?_
          · refine on_bipush (tk_X12_asksSeen 25 rfl) bp_m2 ?_
            exact on_iret (tk_X12_asksSeen 26 rfl)
          · refine on_iconst (tk_X12_asksSeen 27 rfl) ?_
            refine on_is3 rfl (tk_X12_asksSeen 28 rfl) ?_
            refine on_dr2 ?_
            exact gl_X12_asksSeen_50 X  hN on_N _ _ _
    · refine on_bipush (tk_X12_asksSeen 8 rfl) bp_m2 ?_
      exact on_iret (tk_X12_asksSeen 9 rfl)
  · refine on_bipush (tk_X12_asksSeen 8 rfl) bp_m2 ?_
    exact on_iret (tk_X12_asksSeen 9 rfl)
def tb_X12_firstOdd : List (Nat × Nat × Nat × Instr) := [(0, 1, 1, .iconst 0), (1, 1, 2, .istore_n 3), (2, 1, 3, .iconst 3), (3, 1, 4, .iload_n 3), (4, 1, 5, .imul), (5, 1, 6, .aload_n 0), (6, 3, 9, .getfield 70), (9, 1, 10, .iload_n 1), (10, 1, 11, .iaload), (11, 3, 14, .if_icmp .ge 94), (14, 1, 15, .aload_n 0), (15, 1, 16, .iload_n 1), (16, 1, 17, .iconst 3), (17, 1, 18, .iload_n 3), (18, 1, 19, .imul), (19, 3, 22, .invokevirtual 452), (22, 1, 23, .l2i), (23, 2, 25, .istore 4), (25, 1, 26, .aload_n 0), (26, 2, 28, .iload 4), (28, 3, 31, .invokevirtual 280), (31, 1, 32, .aload_n 0), (32, 1, 33, .iload_n 1), (33, 1, 34, .iconst 3), (34, 1, 35, .iload_n 3), (35, 1, 36, .imul), (36, 1, 37, .iconst 1), (37, 1, 38, .iadd), (38, 3, 41, .invokevirtual 452), (41, 1, 42, .aload_n 0), (42, 2, 44, .iload 4), (44, 1, 45, .aload_n 0), (45, 2, 47, .iload 4), (47, 1, 48, .iconst 0), (48, 3, 51, .invokevirtual 94), (51, 1, 52, .iload_n 2), (52, 2, 54, .iload 4), (54, 1, 55, .ishr), (55, 1, 56, .iconst 1), (56, 1, 57, .iand), (57, 3, 60, .invokevirtual 283), (60, 1, 61, .i2l), (61, 1, 62, .lcmp), (62, 3, 65, .ifCond .gt 7), (65, 1, 66, .iconst 1), (66, 3, 69, .goto 4), (69, 1, 70, .iconst 0), (70, 2, 72, .istore 5), (72, 2, 74, .iload 5), (74, 1, 75, .aload_n 0), (75, 1, 76, .iload_n 1), (76, 1, 77, .iconst 3), (77, 1, 78, .iload_n 3), (78, 1, 79, .imul), (79, 1, 80, .iconst 2), (80, 1, 81, .iadd), (81, 3, 84, .invokevirtual 452), (84, 1, 85, .lconst 1), (85, 1, 86, .lcmp), (86, 3, 89, .ifCond .ne 7), (89, 1, 90, .iconst 1), (90, 3, 93, .goto 4), (93, 1, 94, .iconst 0), (94, 3, 97, .if_icmp .eq 5), (97, 1, 98, .iload_n 3), (98, 1, 99, .ireturn), (99, 3, 102, .iinc 3 1), (102, 3, 105, .goto (-100)), (105, 1, 106, .iconst (-1)), (106, 1, 107, .ireturn)]
set_option maxRecDepth 100000 in
theorem tk_X12_firstOdd (k : Nat) {pc n pc2 : Nat} {i : Instr} (hk : tb_X12_firstOdd[k]? = some (pc, n, pc2, i)) : on_dq cX12_firstOdd pc n pc2 i := on_ta (by decide +kernel) k hk
theorem ms_X12_firstOdd : on_Mv yX12_firstOdd cX12_firstOdd 6 (some .int) 2 := ⟨kw_9_87, kw_9_86, (on_mp (q := (yX12_firstOdd, 37)) (by decide +kernel)), kw_1_13, by decide, by decide, by decide +kernel⟩
def pf_X12_firstOdd_94 (k2 : Int → Int → Int → on_S → Option on_O) (l1 : Int) (l2 : Int) (l3 : Int) (s0 : Int) (s1 : Int) (σ : on_S) : Option on_O :=
  on_Eq s0 s1 (
    k2 l1 l2 (l3 + 1) σ) (
    some (l3, σ))
def pf_X12_firstOdd_70 (k2 : Int → Int → Int → on_S → Option on_O) (l1 : Int) (l2 : Int) (l3 : Int) (s0 : Int) (σ : on_S) : Option on_O :=
  on_Cl (pf_X12_numberAt l1 ((3 * l3) + 2) σ) fun v12 σ13 =>
  on_EqL v12 1 (
    pf_X12_firstOdd_94 k2 l1 l2 l3 s0 1 σ13) (
    pf_X12_firstOdd_94 k2 l1 l2 l3 s0 0 σ13)
def pf_X12_firstOdd_2 : Nat → Int → Int → Int → on_S → Option on_O
  | 0, _, _, _, _ => none
  | nf + 1, l1, l2, l3, σ =>
    on_Rd σ 96 4 l1 fun v1 =>
    on_Lt (3 * l3) v1 (
      on_Cl (pf_X12_numberAt l1 (3 * l3) σ) fun v2 σ3 =>
      on_Cl (pf_X12_layPosts v2 σ3) fun _ σ5 =>
      on_Cl (pf_X12_numberAt l1 ((3 * l3) + 1) σ5) fun v6 σ7 =>
      on_Cl (pf_X12_ofNet v2 0 σ7) fun v8 σ9 =>
      on_Cl (pf_X12_carriesBy v2 v8 (on_and (on_shr l2 v2) 1) σ9) fun v10 σ11 =>
      on_Ck v10 <|
      on_LeL v6 v10 (
        pf_X12_firstOdd_70 (pf_X12_firstOdd_2 nf) l1 l2 l3 1 σ11) (
        pf_X12_firstOdd_70 (pf_X12_firstOdd_2 nf) l1 l2 l3 0 σ11)) (
      some ((-1), σ))
def pf_X12_firstOdd (p0 : Int) (p1 : Int) (σ : on_S) : Option on_O :=
  pf_X12_firstOdd_2 on_N p0 p1 0 σ
set_option maxRecDepth 100000 in
set_option maxHeartbeats 4000000 in
theorem gb_X12_firstOdd_94 {E : on_E} {z n : Nat} (X : on_X) (k2 : Int → Int → Int → on_S → Option on_O) (hN : 100 ≤ n) (hk2 : ∀ (l1 : Int) (l2 : Int) (l3 : Int) (σ : on_S), on_G X E cX12_firstOdd RX12 (some .int) 5 121 6 z n σ (k2 l1 l2 l3 σ) 2 [some (.ref (z + 77)), some (.int (on_i l1)), some (.int (on_i l2)), some (.int (on_i l3)), none, none] []) (l1 : Int) (l2 : Int) (l3 : Int) (s0 : Int) (s1 : Int) (σ : on_S) : on_G X E cX12_firstOdd RX12 (some .int) 5 121 6 z n σ (pf_X12_firstOdd_94 k2 l1 l2 l3 s0 s1 σ) 94 [some (.ref (z + 77)), some (.int (on_i l1)), some (.int (on_i l2)), some (.int (on_i l3)), none, none] [.int (on_i s1), .int (on_i s0)] := by
  rw [pf_X12_firstOdd_94]
  refine on_icmp_eq (tk_X12_firstOdd 63 rfl) (tgt := 99) (by decide) ?_ ?_
  · refine on_il3 (tk_X12_firstOdd 64 rfl) ?_
    exact on_iret (tk_X12_firstOdd 65 rfl)
  · refine on_inc3 rfl (tk_X12_firstOdd 66 rfl) ?_
    refine on_goto (tk_X12_firstOdd 67 rfl) (tgt := 2) (by decide) ?_
    exact hk2 _ _ _ _
set_option maxRecDepth 100000 in
set_option maxHeartbeats 4000000 in
theorem gb_X12_firstOdd_70 {E : on_E} {z n : Nat} (X : on_X) (k2 : Int → Int → Int → on_S → Option on_O) (hN : 100 ≤ n) (hk2 : ∀ (l1 : Int) (l2 : Int) (l3 : Int) (σ : on_S), on_G X E cX12_firstOdd RX12 (some .int) 5 121 6 z n σ (k2 l1 l2 l3 σ) 2 [some (.ref (z + 77)), some (.int (on_i l1)), some (.int (on_i l2)), some (.int (on_i l3)), none, none] []) (l1 : Int) (l2 : Int) (l3 : Int) (s0 : Int) (σ : on_S) : on_G X E cX12_firstOdd RX12 (some .int) 5 121 6 z n σ (pf_X12_firstOdd_70 k2 l1 l2 l3 s0 σ) 70 [some (.ref (z + 77)), some (.int (on_i l1)), some (.int (on_i l2)), some (.int (on_i l3)), none, none] [.int (on_i s0)] := by
  rw [pf_X12_firstOdd_70]
  refine on_is5 rfl (tk_X12_firstOdd 47 rfl) ?_
  refine on_il5 (tk_X12_firstOdd 48 rfl) ?_
  refine on_al0 (tk_X12_firstOdd 49 rfl) ?_
  refine on_il1 (tk_X12_firstOdd 50 rfl) ?_
  refine on_iconst (tk_X12_firstOdd 51 rfl) ?_
  refine on_il3 (tk_X12_firstOdd 52 rfl) ?_
  refine on_imul (tk_X12_firstOdd 53 rfl) ?_
  refine on_iconst (tk_X12_firstOdd 54 rfl) ?_
  refine on_iadd (tk_X12_firstOdd 55 rfl) ?_
  refine on_cV2l 12 ms_X12_numberAt kw_9_76 rfl rfl (ltc_77 hN) sh_77 (ct_X12_numberAt hN) rfl (tk_X12_firstOdd 56 rfl) fun v12 σ13 => ?_
  refine on_lconst1 (tk_X12_firstOdd 57 rfl) ?_
  refine on_lcmp_ne (tk_X12_firstOdd 58 rfl) (tk_X12_firstOdd 59 rfl) (tgt := 93) (by decide) ?_ ?_
  · refine on_iconst (tk_X12_firstOdd 60 rfl) ?_
    refine on_goto (tk_X12_firstOdd 61 rfl) (tgt := 94) (by decide) ?_
    refine on_dr5 ?_
    exact gb_X12_firstOdd_94 X _ hN hk2 _ _ _ _ _ _
  · refine on_iconst (tk_X12_firstOdd 62 rfl) ?_
    refine on_dr5 ?_
    exact gb_X12_firstOdd_94 X _ hN hk2 _ _ _ _ _ _
set_option maxRecDepth 100000 in
set_option maxHeartbeats 4000000 in
theorem gl_X12_firstOdd_2 {E : on_E} {z n : Nat} (X : on_X) (hN : 100 ≤ n) : ∀ (nf : Nat) (l1 : Int) (l2 : Int) (l3 : Int) (σ : on_S), on_G X E cX12_firstOdd RX12 (some .int) 5 121 6 z n σ (pf_X12_firstOdd_2 nf l1 l2 l3 σ) 2 [some (.ref (z + 77)), some (.int (on_i l1)), some (.int (on_i l2)), some (.int (on_i l3)), none, none] [] := by
  intro nf
  induction nf with
  | zero => intro l1 l2 l3 σ; exact on_none
  | succ nf ih =>
    intro l1 l2 l3 σ
    rw [pf_X12_firstOdd_2]
    refine on_iconst (tk_X12_firstOdd 2 rfl) ?_
    refine on_il3 (tk_X12_firstOdd 3 rfl) ?_
    refine on_imul (tk_X12_firstOdd 4 rfl) ?_
    refine on_al0 (tk_X12_firstOdd 5 rfl) ?_
    refine fg_12_33 hN kw_6_173 (tk_X12_firstOdd 6 rfl) ?_
    refine on_il1 (tk_X12_firstOdd 7 rfl) ?_
    refine on_iald (ltc_96 hN) sh_96 (tk_X12_firstOdd 8 rfl) fun v1 => ?_
    refine on_icmp_ge (tk_X12_firstOdd 9 rfl) (tgt := 105) (by decide) ?_ ?_
    · refine on_al0 (tk_X12_firstOdd 10 rfl) ?_
      refine on_il1 (tk_X12_firstOdd 11 rfl) ?_
      refine on_iconst (tk_X12_firstOdd 12 rfl) ?_
      refine on_il3 (tk_X12_firstOdd 13 rfl) ?_
      refine on_imul (tk_X12_firstOdd 14 rfl) ?_
      refine on_cV2l 12 ms_X12_numberAt kw_9_76 rfl rfl (ltc_77 hN) sh_77 (ct_X12_numberAt hN) rfl (tk_X12_firstOdd 15 rfl) fun v2 σ3 => ?_
      refine on_xl2i (tk_X12_firstOdd 16 rfl) ?_
      refine on_is4 rfl (tk_X12_firstOdd 17 rfl) ?_
      refine on_al0 (tk_X12_firstOdd 18 rfl) ?_
      refine on_il4 (tk_X12_firstOdd 19 rfl) ?_
      refine on_cV1v 12 ms_X12_layPosts kw_7_209 rfl rfl (ltc_77 hN) sh_77 (ct_X12_layPosts hN) rfl (tk_X12_firstOdd 20 rfl) fun v4 σ5 => ?_
      refine on_al0 (tk_X12_firstOdd 21 rfl) ?_
      refine on_il1 (tk_X12_firstOdd 22 rfl) ?_
      refine on_iconst (tk_X12_firstOdd 23 rfl) ?_
      refine on_il3 (tk_X12_firstOdd 24 rfl) ?_
      refine on_imul (tk_X12_firstOdd 25 rfl) ?_
      refine on_iconst (tk_X12_firstOdd 26 rfl) ?_
      refine on_iadd (tk_X12_firstOdd 27 rfl) ?_
      refine on_cV2l 12 ms_X12_numberAt kw_9_76 rfl rfl (ltc_77 hN) sh_77 (ct_X12_numberAt hN) rfl (tk_X12_firstOdd 28 rfl) fun v6 σ7 => ?_
      refine on_al0 (tk_X12_firstOdd 29 rfl) ?_
      refine on_il4 (tk_X12_firstOdd 30 rfl) ?_
      refine on_al0 (tk_X12_firstOdd 31 rfl) ?_
      refine on_il4 (tk_X12_firstOdd 32 rfl) ?_
      refine on_iconst (tk_X12_firstOdd 33 rfl) ?_
      refine on_cV2i 12 ms_X12_ofNet kw_7_162 rfl rfl (ltc_77 hN) sh_77 (ct_X12_ofNet hN) rfl (tk_X12_firstOdd 34 rfl) fun v8 σ9 => ?_
      refine on_il2 (tk_X12_firstOdd 35 rfl) ?_
      refine on_il4 (tk_X12_firstOdd 36 rfl) ?_
      refine on_ishr (tk_X12_firstOdd 37 rfl) ?_
      refine on_iconst (tk_X12_firstOdd 38 rfl) ?_
      refine on_iand (tk_X12_firstOdd 39 rfl) ?_
      refine on_cV3i 12 ms_X12_carriesBy kw_7_217 rfl rfl (ltc_77 hN) sh_77 (ct_X12_carriesBy hN) rfl (tk_X12_firstOdd 40 rfl) fun v10 σ11 => ?_
      refine on_xi2l (tk_X12_firstOdd 41 rfl) ?_
      refine on_lcmp_gt (tk_X12_firstOdd 42 rfl) (tk_X12_firstOdd 43 rfl) (tgt := 69) (by decide) ?_ ?_
      · refine on_iconst (tk_X12_firstOdd 44 rfl) ?_
        refine on_goto (tk_X12_firstOdd 45 rfl) (tgt := 70) (by decide) ?_
        refine on_dr4 ?_
        exact gb_X12_firstOdd_70 X _ hN ih _ _ _ _ _
      · refine on_iconst (tk_X12_firstOdd 46 rfl) ?_
        refine on_dr4 ?_
        exact gb_X12_firstOdd_70 X _ hN ih _ _ _ _ _
    · refine on_iconst (tk_X12_firstOdd 68 rfl) ?_
      exact on_iret (tk_X12_firstOdd 69 rfl)
set_option maxRecDepth 100000 in
set_option maxHeartbeats 4000000 in
theorem ct_X12_firstOdd {E : on_E} {z n : Nat} {p0 : Int} {p1 : Int} (hN : 100 ≤ n) {σ : on_S} : on_Sp E yX12_firstOdd cX12_firstOdd 6 (some .int) 5 121 z n [.ref (z + 77), .int (on_i p0), .int (on_i p1)] σ (pf_X12_firstOdd p0 p1 σ) := by
  refine on_met [some (.ref (z + 77)), some (.int (on_i p0)), some (.int (on_i p1)), none, none, none] (by decide) rfl rfl (fun X => ?_)
  rw [pf_X12_firstOdd]
  refine on_iconst (tk_X12_firstOdd 0 rfl) ?_
  refine on_is3 rfl (tk_X12_firstOdd 1 rfl) ?_
  exact gl_X12_firstOdd_2 X  hN on_N _ _ _ _
def tb_X12_allNets : List (Nat × Nat × Nat × Instr) := [(0, 1, 1, .iconst 1), (1, 1, 2, .aload_n 0), (2, 3, 5, .getfield 9), (5, 1, 6, .iconst 4), (6, 1, 7, .iaload), (7, 1, 8, .ishl), (8, 1, 9, .iconst 1), (9, 1, 10, .isub), (10, 1, 11, .ireturn)]
set_option maxRecDepth 100000 in
theorem tk_X12_allNets (k : Nat) {pc n pc2 : Nat} {i : Instr} (hk : tb_X12_allNets[k]? = some (pc, n, pc2, i)) : on_dq cX12_allNets pc n pc2 i := on_ta (by decide +kernel) k hk
theorem ms_X12_allNets : on_Mv yX12_allNets cX12_allNets 1 (some .int) 0 := ⟨kw_9_83, kw_9_82, (on_mp (q := (yX12_allNets, 37)) (by decide +kernel)), kw_1_13, by decide, by decide, by decide +kernel⟩
def pf_X12_allNets (σ : on_S) : Option on_O :=
  on_Rd σ 78 687 4 fun v1 =>
  some (((on_shl 1 v1) - 1), σ)
set_option maxRecDepth 100000 in
set_option maxHeartbeats 4000000 in
theorem ct_X12_allNets {E : on_E} {z n : Nat} (hN : 100 ≤ n) {σ : on_S} : on_Sp E yX12_allNets cX12_allNets 1 (some .int) 0 0 z n [.ref (z + 77)] σ (pf_X12_allNets  σ) := by
  refine on_met [some (.ref (z + 77))] (by decide) rfl rfl (fun X => ?_)
  rw [pf_X12_allNets]
  refine on_iconst (tk_X12_allNets 0 rfl) ?_
  refine on_al0 (tk_X12_allNets 1 rfl) ?_
  refine fg_12_1 hN kw_6_141 (tk_X12_allNets 2 rfl) ?_
  refine on_iconst (tk_X12_allNets 3 rfl) ?_
  refine on_iald (ltc_78 hN) sh_78 (tk_X12_allNets 4 rfl) fun v1 => ?_
  refine on_ishl (tk_X12_allNets 5 rfl) ?_
  refine on_iconst (tk_X12_allNets 6 rfl) ?_
  refine on_isub (tk_X12_allNets 7 rfl) ?_
  exact on_iret (tk_X12_allNets 8 rfl)
def tb_X12_seen : List (Nat × Nat × Nat × Instr) := [(0, 1, 1, .aload_n 0), (1, 1, 2, .iload_n 1), (2, 1, 3, .iconst 1), (3, 3, 6, .invokevirtual 456), (6, 1, 7, .istore_n 2), (7, 1, 8, .iload_n 2), (8, 3, 11, .ifCond .ge 5), (11, 1, 12, .iload_n 2), (12, 1, 13, .ireturn), (13, 1, 14, .iconst 0), (14, 1, 15, .istore_n 3), (15, 1, 16, .iconst 0), (16, 2, 18, .istore 4), (18, 2, 20, .iload 4), (20, 1, 21, .aload_n 0), (21, 3, 24, .invokevirtual 460), (24, 3, 27, .if_icmp .gt 28), (27, 1, 28, .iload_n 3), (28, 1, 29, .aload_n 0), (29, 1, 30, .iload_n 1), (30, 2, 32, .iload 4), (32, 3, 35, .invokevirtual 463), (35, 1, 36, .iconst (-1)), (36, 3, 39, .if_icmp .ne 7), (39, 1, 40, .iconst 1), (40, 3, 43, .goto 4), (43, 1, 44, .iconst 0), (44, 1, 45, .iadd), (45, 1, 46, .istore_n 3), (46, 3, 49, .iinc 4 1), (49, 3, 52, .goto (-31)), (52, 1, 53, .iload_n 3), (53, 1, 54, .ireturn)]
set_option maxRecDepth 100000 in
theorem tk_X12_seen (k : Nat) {pc n pc2 : Nat} {i : Instr} (hk : tb_X12_seen[k]? = some (pc, n, pc2, i)) : on_dq cX12_seen pc n pc2 i := on_ta (by decide +kernel) k hk
theorem ms_X12_seen : on_Mv yX12_seen cX12_seen 5 (some .int) 1 := ⟨kw_9_68, kw_9_66, kw_9_67, kw_1_13, by decide, by decide, by decide +kernel⟩
def pf_X12_seen_18 : Nat → Int → Int → Int → on_S → Option on_O
  | 0, _, _, _, _ => none
  | nf + 1, l1, l3, l4, σ =>
    on_Cl (pf_X12_allNets σ) fun v3 σ4 =>
    on_Le l4 v3 (
      on_Cl (pf_X12_firstOdd l1 l4 σ4) fun v5 σ6 =>
      on_Eq v5 (-1) (
        pf_X12_seen_18 nf l1 (l3 + 1) (l4 + 1) σ6) (
        pf_X12_seen_18 nf l1 (l3 + 0) (l4 + 1) σ6)) (
      some (l3, σ4))
def pf_X12_seen (p0 : Int) (σ : on_S) : Option on_O :=
  on_Cl (pf_X12_asksSeen p0 1 σ) fun v1 σ2 =>
  on_Lt v1 0 (
    some (v1, σ2)) (
    pf_X12_seen_18 on_N p0 0 0 σ2)
set_option maxRecDepth 100000 in
set_option maxHeartbeats 4000000 in
theorem gl_X12_seen_18 {E : on_E} {z n : Nat} (X : on_X) (hN : 100 ≤ n) : ∀ (nf : Nat) (l1 : Int) (l3 : Int) (l4 : Int) (σ : on_S), on_G X E cX12_seen RX12 (some .int) 6 146 5 z n σ (pf_X12_seen_18 nf l1 l3 l4 σ) 18 [some (.ref (z + 77)), some (.int (on_i l1)), none, some (.int (on_i l3)), some (.int (on_i l4))] [] := by
  intro nf
  induction nf with
  | zero => intro l1 l3 l4 σ; exact on_none
  | succ nf ih =>
    intro l1 l3 l4 σ
    rw [pf_X12_seen_18]
    refine on_il4 (tk_X12_seen 13 rfl) ?_
    refine on_al0 (tk_X12_seen 14 rfl) ?_
    refine on_cV0i 12 ms_X12_allNets kw_9_80 rfl rfl (ltc_77 hN) sh_77 (ct_X12_allNets hN) rfl (tk_X12_seen 15 rfl) fun v3 σ4 => ?_
    refine on_icmp_gt (tk_X12_seen 16 rfl) (tgt := 52) (by decide) ?_ ?_
    · refine on_il3 (tk_X12_seen 17 rfl) ?_
      refine on_al0 (tk_X12_seen 18 rfl) ?_
      refine on_il1 (tk_X12_seen 19 rfl) ?_
      refine on_il4 (tk_X12_seen 20 rfl) ?_
      refine on_cV2i 12 ms_X12_firstOdd kw_9_84 rfl rfl (ltc_77 hN) sh_77 (ct_X12_firstOdd hN) rfl (tk_X12_seen 21 rfl) fun v5 σ6 => ?_
      refine on_iconst (tk_X12_seen 22 rfl) ?_
      refine on_icmp_ne (tk_X12_seen 23 rfl) (tgt := 43) (by decide) ?_ ?_
      · refine on_iconst (tk_X12_seen 24 rfl) ?_
        refine on_goto (tk_X12_seen 25 rfl) (tgt := 44) (by decide) ?_
        refine on_iadd (tk_X12_seen 27 rfl) ?_
        refine on_is3 rfl (tk_X12_seen 28 rfl) ?_
        refine on_inc4 rfl (tk_X12_seen 29 rfl) ?_
        refine on_goto (tk_X12_seen 30 rfl) (tgt := 18) (by decide) ?_
        exact ih _ _ _ _
      · refine on_iconst (tk_X12_seen 26 rfl) ?_
        refine on_iadd (tk_X12_seen 27 rfl) ?_
        refine on_is3 rfl (tk_X12_seen 28 rfl) ?_
        refine on_inc4 rfl (tk_X12_seen 29 rfl) ?_
        refine on_goto (tk_X12_seen 30 rfl) (tgt := 18) (by decide) ?_
        exact ih _ _ _ _
    · refine on_il3 (tk_X12_seen 31 rfl) ?_
      exact on_iret (tk_X12_seen 32 rfl)
set_option maxRecDepth 100000 in
set_option maxHeartbeats 4000000 in
theorem ct_X12_seen {E : on_E} {z n : Nat} {p0 : Int} (hN : 100 ≤ n) {σ : on_S} : on_Sp E yX12_seen cX12_seen 5 (some .int) 6 146 z n [.ref (z + 77), .int (on_i p0)] σ (pf_X12_seen p0 σ) := by
  refine on_met [some (.ref (z + 77)), some (.int (on_i p0)), none, none, none] (by decide) rfl rfl (fun X => ?_)
  rw [pf_X12_seen]
  refine on_al0 (tk_X12_seen 0 rfl) ?_
  refine on_il1 (tk_X12_seen 1 rfl) ?_
  refine on_iconst (tk_X12_seen 2 rfl) ?_
  refine on_cV2i 12 ms_X12_asksSeen kw_9_69 rfl rfl (ltc_77 hN) sh_77 (ct_X12_asksSeen hN) rfl (tk_X12_seen 3 rfl) fun v1 σ2 => ?_
  refine on_is2 rfl (tk_X12_seen 4 rfl) ?_
  refine on_il2 (tk_X12_seen 5 rfl) ?_
  refine on_if_ge (tk_X12_seen 6 rfl) (tgt := 13) (by decide) ?_ ?_
  · refine on_il2 (tk_X12_seen 7 rfl) ?_
    exact on_iret (tk_X12_seen 8 rfl)
  · refine on_iconst (tk_X12_seen 9 rfl) ?_
    refine on_is3 rfl (tk_X12_seen 10 rfl) ?_
    refine on_iconst (tk_X12_seen 11 rfl) ?_
    refine on_is4 rfl (tk_X12_seen 12 rfl) ?_
    refine on_dr2 ?_
    exact gl_X12_seen_18 X  hN on_N _ _ _ _
