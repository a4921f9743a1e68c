def tb_X12_paste : List (Nat × Nat × Nat × Instr) := [(0, 1, 1, .iload_n 1), (1, 3, 4, .invokestatic 449), (4, 3, 7, .ifCond .eq 10), (7, 1, 8, .iload_n 3), (8, 3, 11, .invokestatic 449), (11, 3, 14, .ifCond .ne 6), (14, 2, 16, .bipush (-2)), (16, 1, 17, .ireturn), (17, 1, 18, .aload_n 0), (18, 3, 21, .getfield 70), (21, 1, 22, .iload_n 1), (22, 1, 23, .iaload), (23, 1, 24, .iconst (-1)), (24, 3, 27, .if_icmp .eq 13), (27, 1, 28, .aload_n 0), (28, 3, 31, .getfield 70), (31, 1, 32, .iload_n 3), (32, 1, 33, .iaload), (33, 1, 34, .iconst (-1)), (34, 3, 37, .if_icmp .ne 6), (37, 2, 39, .bipush (-6)), (39, 1, 40, .ireturn), (40, 1, 41, .aload_n 0), (41, 3, 44, .getfield 73), (44, 1, 45, .iload_n 1), (45, 1, 46, .iaload), (46, 1, 47, .aload_n 0), (47, 3, 50, .getfield 73), (50, 1, 51, .iload_n 3), (51, 1, 52, .iaload), (52, 3, 55, .if_icmp .eq 6), (55, 2, 57, .bipush (-8)), (57, 1, 58, .ireturn), (58, 1, 59, .iload_n 2), (59, 3, 62, .ifCond .lt 48), (62, 2, 64, .iload 4), (64, 3, 67, .ifCond .lt 43), (67, 2, 69, .iload 5), (69, 3, 72, .ifCond .lt 38), (72, 1, 73, .iload_n 2), (73, 1, 74, .i2l), (74, 2, 76, .iload 5), (76, 1, 77, .i2l), (77, 1, 78, .ladd), (78, 1, 79, .aload_n 0), (79, 3, 82, .getfield 70), (82, 1, 83, .iload_n 1), (83, 1, 84, .iaload), (84, 1, 85, .i2l), (85, 1, 86, .lcmp), (86, 3, 89, .ifCond .gt 21), (89, 2, 91, .iload 4), (91, 1, 92, .i2l), (92, 2, 94, .iload 5), (94, 1, 95, .i2l), (95, 1, 96, .ladd), (96, 1, 97, .aload_n 0), (97, 3, 100, .getfield 70), (100, 1, 101, .iload_n 3), (101, 1, 102, .iaload), (102, 1, 103, .i2l), (103, 1, 104, .lcmp), (104, 3, 107, .ifCond .le 6), (107, 2, 109, .bipush (-7)), (109, 1, 110, .ireturn), (110, 1, 111, .iconst 0), (111, 2, 113, .istore 6), (113, 2, 115, .iload 6), (115, 2, 117, .iload 5), (117, 3, 120, .if_icmp .ge 30), (120, 1, 121, .aload_n 0), (121, 3, 124, .getfield 80), (124, 2, 126, .iload 6), (126, 1, 127, .aload_n 0), (127, 3, 130, .getfield 76), (130, 2, 132, .bipush 60), (132, 1, 133, .iload_n 1), (133, 1, 134, .imul), (134, 1, 135, .iload_n 2), (135, 1, 136, .iadd), (136, 2, 138, .iload 6), (138, 1, 139, .iadd), (139, 1, 140, .laload), (140, 1, 141, .lastore), (141, 3, 144, .iinc 6 1), (144, 3, 147, .goto (-31)), (147, 1, 148, .iconst 0), (148, 2, 150, .istore 6), (150, 2, 152, .iload 6), (152, 2, 154, .iload 5), (154, 3, 157, .if_icmp .ge 31), (157, 1, 158, .aload_n 0), (158, 3, 161, .getfield 76), (161, 2, 163, .bipush 60), (163, 1, 164, .iload_n 3), (164, 1, 165, .imul), (165, 2, 167, .iload 4), (167, 1, 168, .iadd), (168, 2, 170, .iload 6), (170, 1, 171, .iadd), (171, 1, 172, .aload_n 0), (172, 3, 175, .getfield 80), (175, 2, 177, .iload 6), (177, 1, 178, .laload), (178, 1, 179, .lastore), (179, 3, 182, .iinc 6 1), (182, 3, 185, .goto (-32)), (185, 1, 186, .iconst 0), (186, 1, 187, .ireturn)]
set_option maxRecDepth 100000 in
theorem tk_X12_paste (k : Nat) {pc n pc2 : Nat} {i : Instr} (hk : tb_X12_paste[k]? = some (pc, n, pc2, i)) : on_dq cX12_paste pc n pc2 i := on_ta (by decide +kernel) k hk
theorem ms_X12_paste : on_Mv yX12_paste cX12_paste 7 (some .int) 5 := ⟨kw_9_186, kw_9_184, kw_9_185, kw_1_13, by decide, by decide, by decide +kernel⟩
def pf_X12_paste_150 : Nat → Int → Int → Int → Int → on_S → Option on_O
  | 0, _, _, _, _, _ => none
  | nf + 1, l3, l4, l5, l6, σ =>
    on_Lt l6 l5 (
      on_Rd σ 99 60 l6 fun v13 =>
      on_Wr σ 98 240 (((60 * l3) + l4) + l6) v13 fun σ14 =>
      pf_X12_paste_150 nf l3 l4 l5 (l6 + 1) σ14) (
      some (0, σ))
def pf_X12_paste_113 : Nat → Int → Int → Int → Int → Int → Int → on_S → Option on_O
  | 0, _, _, _, _, _, _, _ => none
  | nf + 1, l1, l2, l3, l4, l5, l6, σ =>
    on_Lt l6 l5 (
      on_Rd σ 98 240 (((60 * l1) + l2) + l6) fun v11 =>
      on_Wr σ 99 60 l6 v11 fun σ12 =>
      pf_X12_paste_113 nf l1 l2 l3 l4 l5 (l6 + 1) σ12) (
      pf_X12_paste_150 on_N l3 l4 l5 0 σ)
def pf_X12_paste (p0 : Int) (p1 : Int) (p2 : Int) (p3 : Int) (p4 : Int) (σ : on_S) : Option on_O :=
  on_Cl (pf_X12_isSlot p0 σ) fun v1 σ2 =>
  on_Eq v1 0 (
    some ((-2), σ2)) (
    on_Cl (pf_X12_isSlot p2 σ2) fun v3 σ4 =>
    on_Eq v3 0 (
      some ((-2), σ4)) (
      on_Rd σ4 96 4 p0 fun v5 =>
      on_Eq v5 (-1) (
        some ((-6), σ4)) (
        on_Rd σ4 96 4 p2 fun v6 =>
        on_Eq v6 (-1) (
          some ((-6), σ4)) (
          on_Rd σ4 97 4 p0 fun v7 =>
          on_Rd σ4 97 4 p2 fun v8 =>
          on_Eq v7 v8 (
            on_Lt p1 0 (
              some ((-7), σ4)) (
              on_Lt p3 0 (
                some ((-7), σ4)) (
                on_Lt p4 0 (
                  some ((-7), σ4)) (
                  on_Ck p1 <|
                  on_Ck p4 <|
                  on_Rd σ4 96 4 p0 fun v9 =>
                  on_Ck v9 <|
                  on_LeL (p1 + p4) v9 (
                    on_Ck p3 <|
                    on_Ck p4 <|
                    on_Rd σ4 96 4 p2 fun v10 =>
                    on_Ck v10 <|
                    on_LeL (p3 + p4) v10 (
                      pf_X12_paste_113 on_N p0 p1 p2 p3 p4 0 σ4) (
                      some ((-7), σ4))) (
                    some ((-7), σ4)))))) (
            some ((-8), σ4))))))
set_option maxRecDepth 100000 in
set_option maxHeartbeats 4000000 in
theorem gl_X12_paste_150 {E : on_E} {z n : Nat} (X : on_X) (hN : 100 ≤ n) : ∀ (nf : Nat) (l3 : Int) (l4 : Int) (l5 : Int) (l6 : Int) (σ : on_S), on_G X E cX12_paste RX12 (some .int) 2 45 7 z n σ (pf_X12_paste_150 nf l3 l4 l5 l6 σ) 150 [some (.ref (z + 77)), none, none, some (.int (on_i l3)), some (.int (on_i l4)), some (.int (on_i l5)), some (.int (on_i l6))] [] := by
  intro nf
  induction nf with
  | zero => intro l3 l4 l5 l6 σ; exact on_none
  | succ nf ih =>
    intro l3 l4 l5 l6 σ
    rw [pf_X12_paste_150]
    refine on_il6 (tk_X12_paste 88 rfl) ?_
    refine on_il5 (tk_X12_paste 89 rfl) ?_
    refine on_icmp_ge (tk_X12_paste 90 rfl) (tgt := 185) (by decide) ?_ ?_
    · refine on_al0 (tk_X12_paste 91 rfl) ?_
      refine fg_12_35 hN kw_6_175 (tk_X12_paste 92 rfl) ?_
      refine on_bipush (tk_X12_paste 93 rfl) bp_60 ?_
      refine on_il3 (tk_X12_paste 94 rfl) ?_
      refine on_imul (tk_X12_paste 95 rfl) ?_
      refine on_il4 (tk_X12_paste 96 rfl) ?_
      refine on_iadd (tk_X12_paste 97 rfl) ?_
      refine on_il6 (tk_X12_paste 98 rfl) ?_
      refine on_iadd (tk_X12_paste 99 rfl) ?_
      refine on_al0 (tk_X12_paste 100 rfl) ?_
      refine fg_12_36 hN kw_6_176 (tk_X12_paste 101 rfl) ?_
      refine on_il6 (tk_X12_paste 102 rfl) ?_
      refine on_lald (ltc_99 hN) sh_99 (tk_X12_paste 103 rfl) fun v13 => ?_
      refine on_last (ltc_98 hN) sh_98 (tk_X12_paste 104 rfl) fun σ14 => ?_
      refine on_inc6 rfl (tk_X12_paste 105 rfl) ?_
      refine on_goto (tk_X12_paste 106 rfl) (tgt := 150) (by decide) ?_
      exact ih _ _ _ _ _
    · refine on_iconst (tk_X12_paste 107 rfl) ?_
      exact on_iret (tk_X12_paste 108 rfl)
set_option maxRecDepth 100000 in
set_option maxHeartbeats 4000000 in
theorem gl_X12_paste_113 {E : on_E} {z n : Nat} (X : on_X) (hN : 100 ≤ n) : ∀ (nf : Nat) (l1 : Int) (l2 : Int) (l3 : Int) (l4 : Int) (l5 : Int) (l6 : Int) (σ : on_S), on_G X E cX12_paste RX12 (some .int) 2 45 7 z n σ (pf_X12_paste_113 nf l1 l2 l3 l4 l5 l6 σ) 113 [some (.ref (z + 77)), some (.int (on_i l1)), some (.int (on_i l2)), some (.int (on_i l3)), some (.int (on_i l4)), some (.int (on_i l5)), some (.int (on_i l6))] [] := by
  intro nf
  induction nf with
  | zero => intro l1 l2 l3 l4 l5 l6 σ; exact on_none
  | succ nf ih =>
    intro l1 l2 l3 l4 l5 l6 σ
    rw [pf_X12_paste_113]
    refine on_il6 (tk_X12_paste 67 rfl) ?_
    refine on_il5 (tk_X12_paste 68 rfl) ?_
    refine on_icmp_ge (tk_X12_paste 69 rfl) (tgt := 147) (by decide) ?_ ?_
    · refine on_al0 (tk_X12_paste 70 rfl) ?_
      refine fg_12_36 hN kw_6_176 (tk_X12_paste 71 rfl) ?_
      refine on_il6 (tk_X12_paste 72 rfl) ?_
      refine on_al0 (tk_X12_paste 73 rfl) ?_
      refine fg_12_35 hN kw_6_175 (tk_X12_paste 74 rfl) ?_
      refine on_bipush (tk_X12_paste 75 rfl) bp_60 ?_
      refine on_il1 (tk_X12_paste 76 rfl) ?_
      refine on_imul (tk_X12_paste 77 rfl) ?_
      refine on_il2 (tk_X12_paste 78 rfl) ?_
      refine on_iadd (tk_X12_paste 79 rfl) ?_
      refine on_il6 (tk_X12_paste 80 rfl) ?_
      refine on_iadd (tk_X12_paste 81 rfl) ?_
      refine on_lald (ltc_98 hN) sh_98 (tk_X12_paste 82 rfl) fun v11 => ?_
      refine on_last (ltc_99 hN) sh_99 (tk_X12_paste 83 rfl) fun σ12 => ?_
      refine on_inc6 rfl (tk_X12_paste 84 rfl) ?_
      refine on_goto (tk_X12_paste 85 rfl) (tgt := 113) (by decide) ?_
      exact ih _ _ _ _ _ _ _
    · refine on_iconst (tk_X12_paste 86 rfl) ?_
      refine on_is6 rfl (tk_X12_paste 87 rfl) ?_
      refine on_dr1 ?_
      refine on_dr2 ?_
      exact gl_X12_paste_150 X  hN on_N _ _ _ _ _
set_option maxRecDepth 100000 in
set_option maxHeartbeats 4000000 in
theorem ct_X12_paste {E : on_E} {z n : Nat} {p0 : Int} {p1 : Int} {p2 : Int} {p3 : Int} {p4 : Int} (hN : 100 ≤ n) {σ : on_S} : on_Sp E yX12_paste cX12_paste 7 (some .int) 2 45 z n [.ref (z + 77), .int (on_i p0), .int (on_i p1), .int (on_i p2), .int (on_i p3), .int (on_i p4)] σ (pf_X12_paste p0 p1 p2 p3 p4 σ) := by
  refine on_met [some (.ref (z + 77)), some (.int (on_i p0)), some (.int (on_i p1)), some (.int (on_i p2)), some (.int (on_i p3)), some (.int (on_i p4)), none] (by decide) rfl rfl (fun X => ?_)
  rw [pf_X12_paste]
  refine on_il1 (tk_X12_paste 0 rfl) ?_
  refine on_cS1z ms_X12_isSlot kw_9_73 (ct_X12_isSlot hN) rfl (tk_X12_paste 1 rfl) fun v1 σ2 => ?_
  refine on_if_eq (tk_X12_paste 2 rfl) (tgt := 14) (by decide) ?_ ?_
  · refine on_il3 (tk_X12_paste 3 rfl) ?_
    refine on_cS1z ms_X12_isSlot kw_9_73 (ct_X12_isSlot hN) rfl (tk_X12_paste 4 rfl) fun v3 σ4 => ?_
    refine on_if_ne (tk_X12_paste 5 rfl) (tgt := 17) (by decide) ?_ ?_
    · refine on_bipush (tk_X12_paste 6 rfl) bp_m2 ?_
      exact on_iret (tk_X12_paste 7 rfl)
    · refine on_al0 (tk_X12_paste 8 rfl) ?_
      refine fg_12_33 hN kw_6_173 (tk_X12_paste 9 rfl) ?_
      refine on_il1 (tk_X12_paste 10 rfl) ?_
      refine on_iald (ltc_96 hN) sh_96 (tk_X12_paste 11 rfl) fun v5 => ?_
      refine on_iconst (tk_X12_paste 12 rfl) ?_
      refine on_icmp_eq (tk_X12_paste 13 rfl) (tgt := 37) (by decide) ?_ ?_
      · refine on_al0 (tk_X12_paste 14 rfl) ?_
        refine fg_12_33 hN kw_6_173 (tk_X12_paste 15 rfl) ?_
        refine on_il3 (tk_X12_paste 16 rfl) ?_
        refine on_iald (ltc_96 hN) sh_96 (tk_X12_paste 17 rfl) fun v6 => ?_
        refine on_iconst (tk_X12_paste 18 rfl) ?_
        refine on_icmp_ne (tk_X12_paste 19 rfl) (tgt := 40) (by decide) ?_ ?_
        · refine on_bipush (tk_X12_paste 20 rfl) bp_m6 ?_
          exact on_iret (tk_X12_paste 21 rfl)
        · refine on_al0 (tk_X12_paste 22 rfl) ?_
          refine fg_12_34 hN kw_6_174 (tk_X12_paste 23 rfl) ?_
          refine on_il1 (tk_X12_paste 24 rfl) ?_
          refine on_iald (ltc_97 hN) sh_97 (tk_X12_paste 25 rfl) fun v7 => ?_
          refine on_al0 (tk_X12_paste 26 rfl) ?_
          refine fg_12_34 hN kw_6_174 (tk_X12_paste 27 rfl) ?_
          refine on_il3 (tk_X12_paste 28 rfl) ?_
          refine on_iald (ltc_97 hN) sh_97 (tk_X12_paste 29 rfl) fun v8 => ?_
          refine on_icmp_eq (tk_X12_paste 30 rfl) (tgt := 58) (by decide) ?_ ?_
          · refine on_bipush (tk_X12_paste 31 rfl) bp_m8 ?_
            exact on_iret (tk_X12_paste 32 rfl)
          · refine on_il2 (tk_X12_paste 33 rfl) ?_
            refine on_if_lt (tk_X12_paste 34 rfl) (tgt := 107) (by decide) ?_ ?_
            · refine on_il4 (tk_X12_paste 35 rfl) ?_
              refine on_if_lt (tk_X12_paste 36 rfl) (tgt := 107) (by decide) ?_ ?_
              · refine on_il5 (tk_X12_paste 37 rfl) ?_
                refine on_if_lt (tk_X12_paste 38 rfl) (tgt := 107) (by decide) ?_ ?_
                · refine on_il2 (tk_X12_paste 39 rfl) ?_
                  refine on_xi2l (tk_X12_paste 40 rfl) ?_
                  refine on_il5 (tk_X12_paste 41 rfl) ?_
                  refine on_xi2l (tk_X12_paste 42 rfl) ?_
                  refine on_ladd (tk_X12_paste 43 rfl) ?_
                  refine on_al0 (tk_X12_paste 44 rfl) ?_
                  refine fg_12_33 hN kw_6_173 (tk_X12_paste 45 rfl) ?_
                  refine on_il1 (tk_X12_paste 46 rfl) ?_
                  refine on_iald (ltc_96 hN) sh_96 (tk_X12_paste 47 rfl) fun v9 => ?_
                  refine on_xi2l (tk_X12_paste 48 rfl) ?_
                  refine on_lcmp_gt (tk_X12_paste 49 rfl) (tk_X12_paste 50 rfl) (tgt := 107) (by decide) ?_ ?_
                  · refine on_il4 (tk_X12_paste 51 rfl) ?_
                    refine on_xi2l (tk_X12_paste 52 rfl) ?_
                    refine on_il5 (tk_X12_paste 53 rfl) ?_
                    refine on_xi2l (tk_X12_paste 54 rfl) ?_
                    refine on_ladd (tk_X12_paste 55 rfl) ?_
                    refine on_al0 (tk_X12_paste 56 rfl) ?_
                    refine fg_12_33 hN kw_6_173 (tk_X12_paste 57 rfl) ?_
                    refine on_il3 (tk_X12_paste 58 rfl) ?_
                    refine on_iald (ltc_96 hN) sh_96 (tk_X12_paste 59 rfl) fun v10 => ?_
                    refine on_xi2l (tk_X12_paste 60 rfl) ?_
                    refine on_lcmp_le (tk_X12_paste 61 rfl) (tk_X12_paste 62 rfl) (tgt := 110) (by decide) ?_ ?_
                    · refine on_bipush (tk_X12_paste 63 rfl) bp_m7 ?_
                      exact on_iret (tk_X12_paste 64 rfl)
                    · refine on_iconst (tk_X12_paste 65 rfl) ?_
                      refine on_is6 rfl (tk_X12_paste 66 rfl) ?_
                      exact gl_X12_paste_113 X  hN on_N _ _ _ _ _ _ _
                  · refine on_bipush (tk_X12_paste 63 rfl) bp_m7 ?_
                    exact on_iret (tk_X12_paste 64 rfl)
                · refine on_bipush (tk_X12_paste 63 rfl) bp_m7 ?_
                  exact on_iret (tk_X12_paste 64 rfl)
              · refine on_bipush (tk_X12_paste 63 rfl) bp_m7 ?_
                exact on_iret (tk_X12_paste 64 rfl)
            · refine on_bipush (tk_X12_paste 63 rfl) bp_m7 ?_
              exact on_iret (tk_X12_paste 64 rfl)
      · refine on_bipush (tk_X12_paste 20 rfl) bp_m6 ?_
        exact on_iret (tk_X12_paste 21 rfl)
  · refine on_bipush (tk_X12_paste 6 rfl) bp_m2 ?_
    exact on_iret (tk_X12_paste 7 rfl)
