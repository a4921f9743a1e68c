def tb_X11_factorial : List (Nat × Nat × Nat × Instr) := [(0, 1, 1, .iconst 1), (1, 1, 2, .istore_n 1), (2, 1, 3, .iconst 2), (3, 1, 4, .istore_n 2), (4, 1, 5, .iload_n 2), (5, 1, 6, .iload_n 0), (6, 3, 9, .if_icmp .gt 13), (9, 1, 10, .iload_n 1), (10, 1, 11, .iload_n 2), (11, 1, 12, .imul), (12, 1, 13, .istore_n 1), (13, 3, 16, .iinc 2 1), (16, 3, 19, .goto (-12)), (19, 1, 20, .iload_n 1), (20, 1, 21, .ireturn)]
set_option maxRecDepth 100000 in
theorem tk_X11_factorial (k : Nat) {pc n pc2 : Nat} {i : Instr} (hk : tb_X11_factorial[k]? = some (pc, n, pc2, i)) : on_dq cX11_factorial pc n pc2 i := on_ta (by decide +kernel) k hk
theorem ms_X11_factorial : on_Ms yX11_factorial cX11_factorial 3 (some .int) 1 := ⟨kw_6_38, kw_6_37, kw_1_1, by decide, by decide, by decide +kernel⟩
def pf_X11_factorial_4 : Nat → Int → Int → Int → on_S → Option on_O
  | 0, _, _, _, _ => none
  | nf + 1, l0, l1, l2, σ =>
    on_Le l2 l0 (
      pf_X11_factorial_4 nf l0 (l1 * l2) (l2 + 1) σ) (
      some (l1, σ))
def pf_X11_factorial (p0 : Int) (σ : on_S) : Option on_O :=
  pf_X11_factorial_4 on_N p0 1 2 σ
set_option maxRecDepth 100000 in
set_option maxHeartbeats 4000000 in
theorem gl_X11_factorial_4 {E : on_E} {z n : Nat} (X : on_X) (hN : 100 ≤ n) : ∀ (nf : Nat) (l0 : Int) (l1 : Int) (l2 : Int) (σ : on_S), on_G X E cX11_factorial RX11 (some .int) 0 0 3 z n σ (pf_X11_factorial_4 nf l0 l1 l2 σ) 4 [some (.int (on_i l0)), some (.int (on_i l1)), some (.int (on_i l2))] [] := by
  intro nf
  induction nf with
  | zero => intro l0 l1 l2 σ; exact on_none
  | succ nf ih =>
    intro l0 l1 l2 σ
    rw [pf_X11_factorial_4]
    refine on_il2 (tk_X11_factorial 4 rfl) ?_
    refine on_il0 (tk_X11_factorial 5 rfl) ?_
    refine on_icmp_gt (tk_X11_factorial 6 rfl) (tgt := 19) (by decide) ?_ ?_
    · refine on_il1 (tk_X11_factorial 7 rfl) ?_
      refine on_il2 (tk_X11_factorial 8 rfl) ?_
      refine on_imul (tk_X11_factorial 9 rfl) ?_
      refine on_is1 rfl (tk_X11_factorial 10 rfl) ?_
      refine on_inc2 rfl (tk_X11_factorial 11 rfl) ?_
      refine on_goto (tk_X11_factorial 12 rfl) (tgt := 4) (by decide) ?_
      exact ih _ _ _ _
    · refine on_il1 (tk_X11_factorial 13 rfl) ?_
      exact on_iret (tk_X11_factorial 14 rfl)
set_option maxRecDepth 100000 in
set_option maxHeartbeats 4000000 in
theorem ct_X11_factorial {E : on_E} {z n : Nat} {p0 : Int} (hN : 100 ≤ n) {σ : on_S} : on_Sp E yX11_factorial cX11_factorial 3 (some .int) 0 0 z n [.int (on_i p0)] σ (pf_X11_factorial p0 σ) := by
  refine on_met [some (.int (on_i p0)), none, none] (by decide) rfl rfl (fun X => ?_)
  rw [pf_X11_factorial]
  refine on_iconst (tk_X11_factorial 0 rfl) ?_
  refine on_is1 rfl (tk_X11_factorial 1 rfl) ?_
  refine on_iconst (tk_X11_factorial 2 rfl) ?_
  refine on_is2 rfl (tk_X11_factorial 3 rfl) ?_
  exact gl_X11_factorial_4 X  hN on_N _ _ _ _
def tb_X7_addedInAllOrders : List (Nat × Nat × Nat × Instr) := [(0, 1, 1, .iconst 1), (1, 1, 2, .iload_n 1), (2, 1, 3, .ishl), (3, 1, 4, .istore_n 2), (4, 1, 5, .iconst 0), (5, 1, 6, .istore_n 3), (6, 1, 7, .iconst 0), (7, 2, 9, .istore 4), (9, 2, 11, .iload 4), (11, 1, 12, .iconst 1), (12, 1, 13, .aload_n 0), (13, 3, 16, .getfield 21), (16, 3, 19, .getfield 102), (19, 1, 20, .ishl), (20, 3, 23, .if_icmp .ge 67), (23, 2, 25, .iload 4), (25, 1, 26, .iload_n 2), (26, 1, 27, .iand), (27, 3, 30, .ifCond .ne 54), (30, 2, 32, .iload 4), (32, 3, 35, .invokestatic 105), (35, 2, 37, .istore 5), (37, 2, 39, .iload 5), (39, 3, 42, .invokestatic 110), (42, 1, 43, .aload_n 0), (43, 3, 46, .getfield 21), (46, 3, 49, .getfield 102), (49, 1, 50, .iconst 1), (50, 1, 51, .isub), (51, 2, 53, .iload 5), (53, 1, 54, .isub), (54, 3, 57, .invokestatic 110), (57, 1, 58, .imul), (58, 2, 60, .istore 6), (60, 1, 61, .iload_n 3), (61, 2, 63, .iload 6), (63, 1, 64, .aload_n 0), (64, 2, 66, .iload 4), (66, 1, 67, .iload_n 2), (67, 1, 68, .ior), (68, 3, 71, .invokevirtual 113), (71, 1, 72, .aload_n 0), (72, 2, 74, .iload 4), (74, 3, 77, .invokevirtual 113), (77, 1, 78, .isub), (78, 1, 79, .imul), (79, 1, 80, .iadd), (80, 1, 81, .istore_n 3), (81, 3, 84, .iinc 4 1), (84, 3, 87, .goto (-75)), (87, 1, 88, .iload_n 3), (88, 1, 89, .ireturn)]
set_option maxRecDepth 100000 in
theorem tk_X7_addedInAllOrders (k : Nat) {pc n pc2 : Nat} {i : Instr} (hk : tb_X7_addedInAllOrders[k]? = some (pc, n, pc2, i)) : on_dq cX7_addedInAllOrders pc n pc2 i := on_ta (by decide +kernel) k hk
theorem ms_X7_addedInAllOrders : on_Mv yX7_addedInAllOrders cX7_addedInAllOrders 7 (some .int) 1 := ⟨kw_6_34, kw_6_32, kw_6_33, kw_1_7, by decide, by decide, by decide +kernel⟩
def pf_X7_addedInAllOrders_9 : Nat → Int → Int → Int → on_S → Option on_O
  | 0, _, _, _, _ => none
  | nf + 1, l2, l3, l4, σ =>
    on_Gt σ 2 0 fun v1 =>
    on_Lt l4 (on_shl 1 v1) (
      on_Eq (on_and l4 l2) 0 (
        on_Cl (pf_J6_bitCount_0f7a4 l4 σ) fun v2 σ3 =>
        on_Cl (pf_X11_factorial v2 σ3) fun v4 σ5 =>
        on_Gt σ5 2 0 fun v6 =>
        on_Cl (pf_X11_factorial ((v6 - 1) - v2) σ5) fun v7 σ8 =>
        on_Cl (pf_X7_worthOf (on_or l4 l2) σ8) fun v9 σ10 =>
        on_Cl (pf_X7_worthOf l4 σ10) fun v11 σ12 =>
        pf_X7_addedInAllOrders_9 nf l2 (l3 + ((v4 * v7) * (v9 - v11))) (l4 + 1) σ12) (
        pf_X7_addedInAllOrders_9 nf l2 l3 (l4 + 1) σ)) (
      some (l3, σ))
def pf_X7_addedInAllOrders (p0 : Int) (σ : on_S) : Option on_O :=
  pf_X7_addedInAllOrders_9 on_N (on_shl 1 p0) 0 0 σ
set_option maxRecDepth 100000 in
set_option maxHeartbeats 4000000 in
theorem gl_X7_addedInAllOrders_9 {E : on_E} {z n : Nat} (X : on_X) (hN : 100 ≤ n) : ∀ (nf : Nat) (l2 : Int) (l3 : Int) (l4 : Int) (σ : on_S), on_G X E cX7_addedInAllOrders RX7 (some .int) 2 44 7 z n σ (pf_X7_addedInAllOrders_9 nf l2 l3 l4 σ) 9 [some (.ref (z + 55)), none, some (.int (on_i l2)), some (.int (on_i l3)), some (.int (on_i l4)), none, none] [] := by
  intro nf
  induction nf with
  | zero => intro l2 l3 l4 σ; exact on_none
  | succ nf ih =>
    intro l2 l3 l4 σ
    rw [pf_X7_addedInAllOrders_9]
    refine on_il4 (tk_X7_addedInAllOrders 8 rfl) ?_
    refine on_iconst (tk_X7_addedInAllOrders 9 rfl) ?_
    refine on_al0 (tk_X7_addedInAllOrders 10 rfl) ?_
    refine fg_7_0 hN kw_2_41 (tk_X7_addedInAllOrders 11 rfl) ?_
    refine fg_9_0 (on_Sb2 hN) kw_1_155 (tk_X7_addedInAllOrders 12 rfl) fun v1 => ?_
    refine on_ishl (tk_X7_addedInAllOrders 13 rfl) ?_
    refine on_icmp_ge (tk_X7_addedInAllOrders 14 rfl) (tgt := 87) (by decide) ?_ ?_
    · refine on_il4 (tk_X7_addedInAllOrders 15 rfl) ?_
      refine on_il2 (tk_X7_addedInAllOrders 16 rfl) ?_
      refine on_iand (tk_X7_addedInAllOrders 17 rfl) ?_
      refine on_if_ne (tk_X7_addedInAllOrders 18 rfl) (tgt := 81) (by decide) ?_ ?_
      · refine on_il4 (tk_X7_addedInAllOrders 19 rfl) ?_
        refine on_cS1i ms_J6_bitCount_0f7a4 kw_6_35 (ct_J6_bitCount_0f7a4 hN) rfl (tk_X7_addedInAllOrders 20 rfl) fun v2 σ3 => ?_
        refine on_is5 rfl (tk_X7_addedInAllOrders 21 rfl) ?_
        refine on_il5 (tk_X7_addedInAllOrders 22 rfl) ?_
        refine on_cN1i ms_X11_factorial (show ("OppositeNets$Rings", 110, yX11_factorial) ∈ on_nest by decide +kernel) (ct_X11_factorial hN) rfl (tk_X7_addedInAllOrders 23 rfl) fun v4 σ5 => ?_
        refine on_al0 (tk_X7_addedInAllOrders 24 rfl) ?_
        refine fg_7_0 hN kw_2_41 (tk_X7_addedInAllOrders 25 rfl) ?_
        refine fg_9_0 (on_Sb2 hN) kw_1_155 (tk_X7_addedInAllOrders 26 rfl) fun v6 => ?_
        refine on_iconst (tk_X7_addedInAllOrders 27 rfl) ?_
        refine on_isub (tk_X7_addedInAllOrders 28 rfl) ?_
        refine on_il5 (tk_X7_addedInAllOrders 29 rfl) ?_
        refine on_isub (tk_X7_addedInAllOrders 30 rfl) ?_
        refine on_cN1i ms_X11_factorial (show ("OppositeNets$Rings", 110, yX11_factorial) ∈ on_nest by decide +kernel) (ct_X11_factorial hN) rfl (tk_X7_addedInAllOrders 31 rfl) fun v7 σ8 => ?_
        refine on_imul (tk_X7_addedInAllOrders 32 rfl) ?_
        refine on_is6 rfl (tk_X7_addedInAllOrders 33 rfl) ?_
        refine on_il3 (tk_X7_addedInAllOrders 34 rfl) ?_
        refine on_il6 (tk_X7_addedInAllOrders 35 rfl) ?_
        refine on_al0 (tk_X7_addedInAllOrders 36 rfl) ?_
        refine on_il4 (tk_X7_addedInAllOrders 37 rfl) ?_
        refine on_il2 (tk_X7_addedInAllOrders 38 rfl) ?_
        refine on_ior (tk_X7_addedInAllOrders 39 rfl) ?_
        refine on_cV1i 7 ms_X7_worthOf kw_6_39 rfl rfl (ltc_55 hN) sh_55 (ct_X7_worthOf hN) rfl (tk_X7_addedInAllOrders 40 rfl) fun v9 σ10 => ?_
        refine on_al0 (tk_X7_addedInAllOrders 41 rfl) ?_
        refine on_il4 (tk_X7_addedInAllOrders 42 rfl) ?_
        refine on_cV1i 7 ms_X7_worthOf kw_6_39 rfl rfl (ltc_55 hN) sh_55 (ct_X7_worthOf hN) rfl (tk_X7_addedInAllOrders 43 rfl) fun v11 σ12 => ?_
        refine on_isub (tk_X7_addedInAllOrders 44 rfl) ?_
        refine on_imul (tk_X7_addedInAllOrders 45 rfl) ?_
        refine on_iadd (tk_X7_addedInAllOrders 46 rfl) ?_
        refine on_is3 rfl (tk_X7_addedInAllOrders 47 rfl) ?_
        refine on_inc4 rfl (tk_X7_addedInAllOrders 48 rfl) ?_
        refine on_goto (tk_X7_addedInAllOrders 49 rfl) (tgt := 9) (by decide) ?_
        refine on_dr5 ?_
        refine on_dr6 ?_
        exact ih _ _ _ _
      · refine on_inc4 rfl (tk_X7_addedInAllOrders 48 rfl) ?_
        refine on_goto (tk_X7_addedInAllOrders 49 rfl) (tgt := 9) (by decide) ?_
        exact ih _ _ _ _
    · refine on_il3 (tk_X7_addedInAllOrders 50 rfl) ?_
      exact on_iret (tk_X7_addedInAllOrders 51 rfl)
set_option maxRecDepth 100000 in
set_option maxHeartbeats 4000000 in
theorem ct_X7_addedInAllOrders {E : on_E} {z n : Nat} {p0 : Int} (hN : 100 ≤ n) {σ : on_S} : on_Sp E yX7_addedInAllOrders cX7_addedInAllOrders 7 (some .int) 2 44 z n [.ref (z + 55), .int (on_i p0)] σ (pf_X7_addedInAllOrders p0 σ) := by
  refine on_met [some (.ref (z + 55)), some (.int (on_i p0)), none, none, none, none, none] (by decide) rfl rfl (fun X => ?_)
  rw [pf_X7_addedInAllOrders]
  refine on_iconst (tk_X7_addedInAllOrders 0 rfl) ?_
  refine on_il1 (tk_X7_addedInAllOrders 1 rfl) ?_
  refine on_ishl (tk_X7_addedInAllOrders 2 rfl) ?_
  refine on_is2 rfl (tk_X7_addedInAllOrders 3 rfl) ?_
  refine on_iconst (tk_X7_addedInAllOrders 4 rfl) ?_
  refine on_is3 rfl (tk_X7_addedInAllOrders 5 rfl) ?_
  refine on_iconst (tk_X7_addedInAllOrders 6 rfl) ?_
  refine on_is4 rfl (tk_X7_addedInAllOrders 7 rfl) ?_
  refine on_dr1 ?_
  exact gl_X7_addedInAllOrders_9 X  hN on_N _ _ _ _
def tb_X11_putNumber : List (Nat × Nat × Nat × Instr) := [(0, 2, 2, .bipush 24), (2, 1, 3, .istore_n 2), (3, 1, 4, .iload_n 2), (4, 3, 7, .ifCond .lt 42), (7, 1, 8, .aload_n 0), (8, 3, 11, .getfield 82), (11, 3, 14, .sipush 1400), (14, 3, 17, .if_icmp .ge 32), (17, 1, 18, .aload_n 0), (18, 3, 21, .getfield 9), (21, 1, 22, .aload_n 0), (22, 3, 25, .getfield 82), (25, 1, 26, .iload_n 1), (26, 1, 27, .iload_n 2), (27, 1, 28, .ishr), (28, 1, 29, .i2b), (29, 1, 30, .bastore), (30, 1, 31, .aload_n 0), (31, 1, 32, .dup), (32, 3, 35, .getfield 82), (35, 1, 36, .iconst 1), (36, 1, 37, .iadd), (37, 3, 40, .putfield 82), (40, 3, 43, .iinc 2 (-8)), (43, 3, 46, .goto (-40)), (46, 1, 47, .return_)]
set_option maxRecDepth 100000 in
theorem tk_X11_putNumber (k : Nat) {pc n pc2 : Nat} {i : Instr} (hk : tb_X11_putNumber[k]? = some (pc, n, pc2, i)) : on_dq cX11_putNumber pc n pc2 i := on_ta (by decide +kernel) k hk
theorem ms_X11_putNumber : on_Mv yX11_putNumber cX11_putNumber 3 none 1 := ⟨kw_2_223, kw_2_222, (on_mp (q := (yX11_putNumber, 12)) (by decide +kernel)), kw_1_1, by decide, by decide, by decide +kernel⟩
def pf_X11_putNumber_3 : Nat → Int → Int → on_S → Option on_O
  | 0, _, _, _ => none
  | nf + 1, l1, l2, σ =>
    on_Lt l2 0 (
      some (0, σ)) (
      on_Gt σ 0 1 fun v1 =>
      on_Lt v1 1400 (
        on_Gt σ 0 1 fun v2 =>
        on_Wr σ 1 1400 v2 (on_ib (on_ib (on_shr l1 l2))) fun σ3 =>
        on_Gt σ3 0 1 fun v4 =>
        on_Pt σ3 0 1 (v4 + 1) fun σ5 =>
        pf_X11_putNumber_3 nf l1 (l2 + (-8)) σ5) (
        some (0, σ)))
def pf_X11_putNumber (p0 : Int) (σ : on_S) : Option on_O :=
  pf_X11_putNumber_3 on_N p0 24 σ
set_option maxRecDepth 100000 in
set_option maxHeartbeats 4000000 in
theorem gl_X11_putNumber_3 {E : on_E} {z n : Nat} (X : on_X) (hN : 100 ≤ n) : ∀ (nf : Nat) (l1 : Int) (l2 : Int) (σ : on_S), on_G X E cX11_putNumber RX11 none 0 0 3 z n σ (pf_X11_putNumber_3 nf l1 l2 σ) 3 [some (.ref (z + 0)), some (.int (on_i l1)), some (.int (on_i l2))] [] := by
  intro nf
  induction nf with
  | zero => intro l1 l2 σ; exact on_none
  | succ nf ih =>
    intro l1 l2 σ
    rw [pf_X11_putNumber_3]
    refine on_il2 (tk_X11_putNumber 2 rfl) ?_
    refine on_if_lt (tk_X11_putNumber 3 rfl) (tgt := 46) (by decide) ?_ ?_
    · refine on_al0 (tk_X11_putNumber 4 rfl) ?_
      refine fg_11_1 hN kw_2_180 (tk_X11_putNumber 5 rfl) fun v1 => ?_
      refine on_sipush (tk_X11_putNumber 6 rfl) sp_1400 ?_
      refine on_icmp_ge (tk_X11_putNumber 7 rfl) (tgt := 46) (by decide) ?_ ?_
      · refine on_al0 (tk_X11_putNumber 8 rfl) ?_
        refine fg_11_0 hN kw_2_179 (tk_X11_putNumber 9 rfl) ?_
        refine on_al0 (tk_X11_putNumber 10 rfl) ?_
        refine fg_11_1 hN kw_2_180 (tk_X11_putNumber 11 rfl) fun v2 => ?_
        refine on_il1 (tk_X11_putNumber 12 rfl) ?_
        refine on_il2 (tk_X11_putNumber 13 rfl) ?_
        refine on_ishr (tk_X11_putNumber 14 rfl) ?_
        refine on_i2b (tk_X11_putNumber 15 rfl) ?_
        refine on_bast (ltc_1 hN) sh_1 (tk_X11_putNumber 16 rfl) fun σ3 => ?_
        refine on_al0 (tk_X11_putNumber 17 rfl) ?_
        refine on_dup rfl (tk_X11_putNumber 18 rfl) ?_
        refine fg_11_1 hN kw_2_180 (tk_X11_putNumber 19 rfl) fun v4 => ?_
        refine on_iconst (tk_X11_putNumber 20 rfl) ?_
        refine on_iadd (tk_X11_putNumber 21 rfl) ?_
        refine fp_11_1 hN kw_2_180 (tk_X11_putNumber 22 rfl) fun σ5 => ?_
        refine on_inc2 rfl (tk_X11_putNumber 23 rfl) ?_
        refine on_goto (tk_X11_putNumber 24 rfl) (tgt := 3) (by decide) ?_
        exact ih _ _ _
      · exact on_vret (tk_X11_putNumber 25 rfl)
    · exact on_vret (tk_X11_putNumber 25 rfl)
set_option maxRecDepth 100000 in
set_option maxHeartbeats 4000000 in
theorem ct_X11_putNumber {E : on_E} {z n : Nat} {p0 : Int} (hN : 100 ≤ n) {σ : on_S} : on_Sp E yX11_putNumber cX11_putNumber 3 none 0 0 z n [.ref (z + 0), .int (on_i p0)] σ (pf_X11_putNumber p0 σ) := by
  refine on_met [some (.ref (z + 0)), some (.int (on_i p0)), none] (by decide) rfl rfl (fun X => ?_)
  rw [pf_X11_putNumber]
  refine on_bipush (tk_X11_putNumber 0 rfl) bp_24 ?_
  refine on_is2 rfl (tk_X11_putNumber 1 rfl) ?_
  exact gl_X11_putNumber_3 X  hN on_N _ _ _
def tb_X11_feed : List (Nat × Nat × Nat × Instr) := [(0, 1, 1, .aload_n 0), (1, 3, 4, .getfield 82), (4, 2, 6, .bipush 20), (6, 1, 7, .iadd), (7, 3, 10, .sipush 1400), (10, 3, 13, .if_icmp .le 5), (13, 1, 14, .iconst (-1)), (14, 1, 15, .ireturn), (15, 1, 16, .aload_n 0), (16, 1, 17, .iload_n 1), (17, 3, 20, .invokevirtual 86), (20, 1, 21, .aload_n 0), (21, 1, 22, .iload_n 2), (22, 3, 25, .invokevirtual 86), (25, 1, 26, .aload_n 0), (26, 1, 27, .iload_n 3), (27, 3, 30, .invokevirtual 86), (30, 1, 31, .aload_n 0), (31, 2, 33, .iload 4), (33, 3, 36, .invokevirtual 86), (36, 1, 37, .aload_n 0), (37, 2, 39, .iload 5), (39, 3, 42, .invokevirtual 86), (42, 1, 43, .aload_n 0), (43, 3, 46, .getfield 82), (46, 1, 47, .ireturn)]
set_option maxRecDepth 100000 in
theorem tk_X11_feed (k : Nat) {pc n pc2 : Nat} {i : Instr} (hk : tb_X11_feed[k]? = some (pc, n, pc2, i)) : on_dq cX11_feed pc n pc2 i := on_ta (by decide +kernel) k hk
theorem ms_X11_feed : on_Mv yX11_feed cX11_feed 6 (some .int) 5 := ⟨kw_2_219, kw_2_217, kw_2_218, kw_1_1, by decide, by decide, by decide +kernel⟩
def pf_X11_feed (p0 : Int) (p1 : Int) (p2 : Int) (p3 : Int) (p4 : Int) (σ : on_S) : Option on_O :=
  on_Gt σ 0 1 fun v1 =>
  on_Le (v1 + 20) 1400 (
    on_Cl (pf_X11_putNumber p0 σ) fun _ σ3 =>
    on_Cl (pf_X11_putNumber p1 σ3) fun _ σ5 =>
    on_Cl (pf_X11_putNumber p2 σ5) fun _ σ7 =>
    on_Cl (pf_X11_putNumber p3 σ7) fun _ σ9 =>
    on_Cl (pf_X11_putNumber p4 σ9) fun _ σ11 =>
    on_Gt σ11 0 1 fun v12 =>
    some (v12, σ11)) (
    some ((-1), σ))
set_option maxRecDepth 100000 in
set_option maxHeartbeats 4000000 in
theorem ct_X11_feed {E : on_E} {z n : Nat} {p0 : Int} {p1 : Int} {p2 : Int} {p3 : Int} {p4 : Int} (hN : 100 ≤ n) {σ : on_S} : on_Sp E yX11_feed cX11_feed 6 (some .int) 1 22 z n [.ref (z + 0), .int (on_i p0), .int (on_i p1), .int (on_i p2), .int (on_i p3), .int (on_i p4)] σ (pf_X11_feed p0 p1 p2 p3 p4 σ) := by
  refine on_met [some (.ref (z + 0)), some (.int (on_i p0)), some (.int (on_i p1)), some (.int (on_i p2)), some (.int (on_i p3)), some (.int (on_i p4))] (by decide) rfl rfl (fun X => ?_)
  rw [pf_X11_feed]
  refine on_al0 (tk_X11_feed 0 rfl) ?_
  refine fg_11_1 hN kw_2_180 (tk_X11_feed 1 rfl) fun v1 => ?_
  refine on_bipush (tk_X11_feed 2 rfl) bp_20 ?_
  refine on_iadd (tk_X11_feed 3 rfl) ?_
  refine on_sipush (tk_X11_feed 4 rfl) sp_1400 ?_
  refine on_icmp_le (tk_X11_feed 5 rfl) (tgt := 15) (by decide) ?_ ?_
  · refine on_iconst (tk_X11_feed 6 rfl) ?_
    exact on_iret (tk_X11_feed 7 rfl)
  · refine on_al0 (tk_X11_feed 8 rfl) ?_
    refine on_il1 (tk_X11_feed 9 rfl) ?_
    refine on_cV1v 11 ms_X11_putNumber kw_2_220 rfl rfl (ltc_0 hN) sh_0 (ct_X11_putNumber hN) rfl (tk_X11_feed 10 rfl) fun v2 σ3 => ?_
    refine on_al0 (tk_X11_feed 11 rfl) ?_
    refine on_il2 (tk_X11_feed 12 rfl) ?_
    refine on_cV1v 11 ms_X11_putNumber kw_2_220 rfl rfl (ltc_0 hN) sh_0 (ct_X11_putNumber hN) rfl (tk_X11_feed 13 rfl) fun v4 σ5 => ?_
    refine on_al0 (tk_X11_feed 14 rfl) ?_
    refine on_il3 (tk_X11_feed 15 rfl) ?_
    refine on_cV1v 11 ms_X11_putNumber kw_2_220 rfl rfl (ltc_0 hN) sh_0 (ct_X11_putNumber hN) rfl (tk_X11_feed 16 rfl) fun v6 σ7 => ?_
    refine on_al0 (tk_X11_feed 17 rfl) ?_
    refine on_il4 (tk_X11_feed 18 rfl) ?_
    refine on_cV1v 11 ms_X11_putNumber kw_2_220 rfl rfl (ltc_0 hN) sh_0 (ct_X11_putNumber hN) rfl (tk_X11_feed 19 rfl) fun v8 σ9 => ?_
    refine on_al0 (tk_X11_feed 20 rfl) ?_
    refine on_il5 (tk_X11_feed 21 rfl) ?_
    refine on_cV1v 11 ms_X11_putNumber kw_2_220 rfl rfl (ltc_0 hN) sh_0 (ct_X11_putNumber hN) rfl (tk_X11_feed 22 rfl) fun v10 σ11 => ?_
    refine on_al0 (tk_X11_feed 23 rfl) ?_
    refine fg_11_1 hN kw_2_180 (tk_X11_feed 24 rfl) fun v12 => ?_
    exact on_iret (tk_X11_feed 25 rfl)
def tb_X11_end : List (Nat × Nat × Nat × Instr) := [(0, 1, 1, .iload_n 1), (1, 3, 4, .ifCond .lt 11), (4, 1, 5, .iload_n 1), (5, 1, 6, .aload_n 0), (6, 3, 9, .getfield 82), (9, 3, 12, .if_icmp .le 5), (12, 1, 13, .iconst (-1)), (13, 1, 14, .ireturn), (14, 1, 15, .aload_n 0), (15, 1, 16, .iload_n 1), (16, 3, 19, .putfield 82), (19, 1, 20, .iload_n 1), (20, 1, 21, .ireturn)]
set_option maxRecDepth 100000 in
theorem tk_X11_end (k : Nat) {pc n pc2 : Nat} {i : Instr} (hk : tb_X11_end[k]? = some (pc, n, pc2, i)) : on_dq cX11_end pc n pc2 i := on_ta (by decide +kernel) k hk
theorem ms_X11_end : on_Mv yX11_end cX11_end 2 (some .int) 1 := ⟨kw_2_227, kw_2_225, kw_2_226, kw_1_1, by decide, by decide, by decide +kernel⟩
def pf_X11_end (p0 : Int) (σ : on_S) : Option on_O :=
  on_Lt p0 0 (
    some ((-1), σ)) (
    on_Gt σ 0 1 fun v1 =>
    on_Le p0 v1 (
      on_Pt σ 0 1 p0 fun σ2 =>
      some (p0, σ2)) (
      some ((-1), σ)))
set_option maxRecDepth 100000 in
set_option maxHeartbeats 4000000 in
theorem ct_X11_end {E : on_E} {z n : Nat} {p0 : Int} (hN : 100 ≤ n) {σ : on_S} : on_Sp E yX11_end cX11_end 2 (some .int) 0 0 z n [.ref (z + 0), .int (on_i p0)] σ (pf_X11_end p0 σ) := by
  refine on_met [some (.ref (z + 0)), some (.int (on_i p0))] (by decide) rfl rfl (fun X => ?_)
  rw [pf_X11_end]
  refine on_il1 (tk_X11_end 0 rfl) ?_
  refine on_if_lt (tk_X11_end 1 rfl) (tgt := 12) (by decide) ?_ ?_
  · refine on_il1 (tk_X11_end 2 rfl) ?_
    refine on_al0 (tk_X11_end 3 rfl) ?_
    refine fg_11_1 hN kw_2_180 (tk_X11_end 4 rfl) fun v1 => ?_
    refine on_icmp_le (tk_X11_end 5 rfl) (tgt := 14) (by decide) ?_ ?_
    · refine on_iconst (tk_X11_end 6 rfl) ?_
      exact on_iret (tk_X11_end 7 rfl)
    · refine on_al0 (tk_X11_end 8 rfl) ?_
      refine on_il1 (tk_X11_end 9 rfl) ?_
      refine fp_11_1 hN kw_2_180 (tk_X11_end 10 rfl) fun σ2 => ?_
      refine on_il1 (tk_X11_end 11 rfl) ?_
      exact on_iret (tk_X11_end 12 rfl)
  · refine on_iconst (tk_X11_end 6 rfl) ?_
    exact on_iret (tk_X11_end 7 rfl)
def tb_X11_street : List (Nat × Nat × Nat × Instr) := [(0, 1, 1, .aload_n 0), (1, 3, 4, .getfield 28), (4, 1, 5, .aload_n 0), (5, 3, 8, .getfield 82), (8, 3, 11, .invokevirtual 90), (11, 1, 12, .aload_n 0), (12, 1, 13, .iconst 0), (13, 3, 16, .putfield 82), (16, 1, 17, .aload_n 0), (17, 3, 20, .getfield 28), (20, 3, 23, .getfield 93), (23, 3, 26, .ifCond .eq 6), (26, 2, 28, .bipush (-4)), (28, 1, 29, .ireturn), (29, 1, 30, .aload_n 0), (30, 3, 33, .getfield 16), (33, 1, 34, .aload_n 0), (34, 3, 37, .getfield 20), (37, 3, 40, .invokevirtual 96), (40, 1, 41, .aload_n 0), (41, 3, 44, .getfield 16), (44, 3, 47, .getfield 99), (47, 1, 48, .ireturn)]
set_option maxRecDepth 100000 in
theorem tk_X11_street (k : Nat) {pc n pc2 : Nat} {i : Instr} (hk : tb_X11_street[k]? = some (pc, n, pc2, i)) : on_dq cX11_street pc n pc2 i := on_ta (by decide +kernel) k hk
theorem ms_X11_street : on_Mv yX11_street cX11_street 1 (some .int) 0 := ⟨kw_2_231, kw_2_229, kw_2_230, kw_1_1, by decide, by decide, by decide +kernel⟩
def pf_X11_street (σ : on_S) : Option on_O :=
  on_Gt σ 0 1 fun v1 =>
  on_Cl (pf_X6_readStreet v1 σ) fun _ σ3 =>
  on_Pt σ3 0 1 0 fun σ4 =>
  on_Gt σ4 52 8 fun v5 =>
  on_Eq v5 0 (
    on_Cl (pf_X9_copyFrom 2 27 σ4) fun _ σ7 =>
    on_Gt σ7 2 2 fun v8 =>
    some (v8, σ7)) (
    some ((-4), σ4))
set_option maxRecDepth 100000 in
set_option maxHeartbeats 4000000 in
theorem ct_X11_street {E : on_E} {z n : Nat} (hN : 100 ≤ n) {σ : on_S} : on_Sp E yX11_street cX11_street 1 (some .int) 9 194 z n [.ref (z + 0)] σ (pf_X11_street  σ) := by
  refine on_met [some (.ref (z + 0))] (by decide) rfl rfl (fun X => ?_)
  rw [pf_X11_street]
  refine on_al0 (tk_X11_street 0 rfl) ?_
  refine fg_11_4 hN kw_2_183 (tk_X11_street 1 rfl) ?_
  refine on_al0 (tk_X11_street 2 rfl) ?_
  refine fg_11_1 hN kw_2_180 (tk_X11_street 3 rfl) fun v1 => ?_
  refine on_cV1v 6 ms_X6_readStreet kw_2_232 rfl rfl (ltc_52 hN) sh_52 (ct_X6_readStreet hN) rfl (tk_X11_street 4 rfl) fun v2 σ3 => ?_
  refine on_al0 (tk_X11_street 5 rfl) ?_
  refine on_iconst (tk_X11_street 6 rfl) ?_
  refine fp_11_1 hN kw_2_180 (tk_X11_street 7 rfl) fun σ4 => ?_
  refine on_al0 (tk_X11_street 8 rfl) ?_
  refine fg_11_4 hN kw_2_183 (tk_X11_street 9 rfl) ?_
  refine fg_6_8 hN kw_2_8 (tk_X11_street 10 rfl) fun v5 => ?_
  refine on_if_eq (tk_X11_street 11 rfl) (tgt := 29) (by decide) ?_ ?_
  · refine on_bipush (tk_X11_street 12 rfl) bp_m4 ?_
    exact on_iret (tk_X11_street 13 rfl)
  · refine on_al0 (tk_X11_street 14 rfl) ?_
    refine fg_11_2 hN kw_2_181 (tk_X11_street 15 rfl) ?_
    refine on_al0 (tk_X11_street 16 rfl) ?_
    refine fg_11_3 hN kw_2_182 (tk_X11_street 17 rfl) ?_
    refine on_cV1v 9 ms_X9_copyFrom kw_3_185 rfl rfl (ltS_0 (on_Sb2 hN)) (shS_0 (on_Sb2 hN)) (ct_X9_copyFrom hN (on_Sb2 hN) (on_Sb27 hN)) rfl (tk_X11_street 18 rfl) fun v6 σ7 => ?_
    refine on_al0 (tk_X11_street 19 rfl) ?_
    refine fg_11_2 hN kw_2_181 (tk_X11_street 20 rfl) ?_
    refine fg_9_2 (on_Sb2 hN) kw_1_161 (tk_X11_street 21 rfl) fun v8 => ?_
    exact on_iret (tk_X11_street 22 rfl)
def tb_X11_fault : List (Nat × Nat × Nat × Instr) := [(0, 1, 1, .iload_n 1), (1, 3, 4, .ifCond .ne 11), (4, 1, 5, .aload_n 0), (5, 3, 8, .getfield 28), (8, 3, 11, .getfield 93), (11, 1, 12, .ireturn), (12, 1, 13, .iload_n 1), (13, 1, 14, .iconst 1), (14, 3, 17, .if_icmp .ne 13), (17, 1, 18, .aload_n 0), (18, 3, 21, .getfield 28), (21, 3, 24, .getfield 102), (24, 3, 27, .goto 4), (27, 1, 28, .iconst (-1)), (28, 1, 29, .ireturn)]
set_option maxRecDepth 100000 in
theorem tk_X11_fault (k : Nat) {pc n pc2 : Nat} {i : Instr} (hk : tb_X11_fault[k]? = some (pc, n, pc2, i)) : on_dq cX11_fault pc n pc2 i := on_ta (by decide +kernel) k hk
theorem ms_X11_fault : on_Mv yX11_fault cX11_fault 2 (some .int) 1 := ⟨kw_3_210, kw_3_208, kw_3_209, kw_1_1, by decide, by decide, by decide +kernel⟩
def pf_X11_fault (p0 : Int) (σ : on_S) : Option on_O :=
  on_Eq p0 0 (
    on_Gt σ 52 8 fun v1 =>
    some (v1, σ)) (
    on_Eq p0 1 (
      on_Gt σ 52 9 fun v2 =>
      some (v2, σ)) (
      some ((-1), σ)))
set_option maxRecDepth 100000 in
set_option maxHeartbeats 4000000 in
theorem ct_X11_fault {E : on_E} {z n : Nat} {p0 : Int} (hN : 100 ≤ n) {σ : on_S} : on_Sp E yX11_fault cX11_fault 2 (some .int) 0 0 z n [.ref (z + 0), .int (on_i p0)] σ (pf_X11_fault p0 σ) := by
  refine on_met [some (.ref (z + 0)), some (.int (on_i p0))] (by decide) rfl rfl (fun X => ?_)
  rw [pf_X11_fault]
  refine on_il1 (tk_X11_fault 0 rfl) ?_
  refine on_if_ne (tk_X11_fault 1 rfl) (tgt := 12) (by decide) ?_ ?_
  · refine on_al0 (tk_X11_fault 2 rfl) ?_
    refine fg_11_4 hN kw_2_183 (tk_X11_fault 3 rfl) ?_
    refine fg_6_8 hN kw_2_8 (tk_X11_fault 4 rfl) fun v1 => ?_
    exact on_iret (tk_X11_fault 5 rfl)
  · refine on_il1 (tk_X11_fault 6 rfl) ?_
    refine on_iconst (tk_X11_fault 7 rfl) ?_
    refine on_icmp_ne (tk_X11_fault 8 rfl) (tgt := 27) (by decide) ?_ ?_
    · refine on_al0 (tk_X11_fault 9 rfl) ?_
      refine fg_11_4 hN kw_2_183 (tk_X11_fault 10 rfl) ?_
      refine fg_6_9 hN kw_2_10 (tk_X11_fault 11 rfl) fun v2 => ?_
      refine on_goto (tk_X11_fault 12 rfl) (tgt := 28) (by decide) ?_
      exact on_iret (tk_X11_fault 14 rfl)
    · refine on_iconst (tk_X11_fault 13 rfl) ?_
      exact on_iret (tk_X11_fault 14 rfl)
def tb_X11_window : List (Nat × Nat × Nat × Instr) := [(0, 1, 1, .aload_n 0), (1, 3, 4, .getfield 16), (4, 1, 5, .iload_n 1), (5, 3, 8, .invokevirtual 105), (8, 3, 11, .ifCond .ne 6), (11, 2, 13, .bipush (-2)), (13, 1, 14, .ireturn), (14, 1, 15, .iload_n 2), (15, 25, 40, .tableswitch 55 0 2 #[25, 35, 45]), (40, 1, 41, .aload_n 0), (41, 3, 44, .getfield 16), (44, 3, 47, .getfield 109), (47, 1, 48, .iload_n 1), (48, 1, 49, .iaload), (49, 1, 50, .ireturn), (50, 1, 51, .aload_n 0), (51, 3, 54, .getfield 16), (54, 3, 57, .getfield 113), (57, 1, 58, .iload_n 1), (58, 1, 59, .iaload), (59, 1, 60, .ireturn), (60, 1, 61, .aload_n 0), (61, 3, 64, .getfield 16), (64, 3, 67, .getfield 116), (67, 1, 68, .iload_n 1), (68, 1, 69, .iaload), (69, 1, 70, .ireturn), (70, 2, 72, .bipush (-2)), (72, 1, 73, .ireturn)]
set_option maxRecDepth 100000 in
theorem tk_X11_window (k : Nat) {pc n pc2 : Nat} {i : Instr} (hk : tb_X11_window[k]? = some (pc, n, pc2, i)) : on_dq cX11_window pc n pc2 i := on_ta (by decide +kernel) k hk
theorem ms_X11_window : on_Mv yX11_window cX11_window 3 (some .int) 2 := ⟨kw_3_214, kw_3_212, kw_3_213, kw_1_1, by decide, by decide, by decide +kernel⟩
def pf_X11_window (p0 : Int) (p1 : Int) (σ : on_S) : Option on_O :=
  on_Cl (pf_X9_hasWindow 2 p0 σ) fun v1 σ2 =>
  on_Eq v1 0 (
    some ((-2), σ2)) (
    on_sw p1 0 [
      (on_Rd σ2 (2 + 1) 9 p0 fun v3 =>
      some (v3, σ2)),
      (on_Rd σ2 (2 + 2) 9 p0 fun v4 =>
      some (v4, σ2)),
      (on_Rd σ2 (2 + 3) 9 p0 fun v5 =>
      some (v5, σ2))] (
      some ((-2), σ2)))
set_option maxRecDepth 100000 in
set_option maxHeartbeats 4000000 in
theorem ct_X11_window {E : on_E} {z n : Nat} {p0 : Int} {p1 : Int} (hN : 100 ≤ n) {σ : on_S} : on_Sp E yX11_window cX11_window 3 (some .int) 1 21 z n [.ref (z + 0), .int (on_i p0), .int (on_i p1)] σ (pf_X11_window p0 p1 σ) := by
  refine on_met [some (.ref (z + 0)), some (.int (on_i p0)), some (.int (on_i p1))] (by decide) rfl rfl (fun X => ?_)
  rw [pf_X11_window]
  refine on_al0 (tk_X11_window 0 rfl) ?_
  refine fg_11_2 hN kw_2_181 (tk_X11_window 1 rfl) ?_
  refine on_il1 (tk_X11_window 2 rfl) ?_
  refine on_cV1z 9 ms_X9_hasWindow kw_3_215 rfl rfl (ltS_0 (on_Sb2 hN)) (shS_0 (on_Sb2 hN)) (ct_X9_hasWindow hN (on_Sb2 hN)) rfl (tk_X11_window 3 rfl) fun v1 σ2 => ?_
  refine on_if_ne (tk_X11_window 4 rfl) (tgt := 14) (by decide) ?_ ?_
  · refine on_bipush (tk_X11_window 5 rfl) bp_m2 ?_
    exact on_iret (tk_X11_window 6 rfl)
  · refine on_il2 (tk_X11_window 7 rfl) ?_
    refine on_tsw (dt := 70) [40, 50, 60] (tk_X11_window 8 rfl) rfl rfl (by decide) (by decide) ?_ ?_
    · intro j q hq
      match j, hq with
      | 0, hq =>
        cases hq
        refine on_al0 (tk_X11_window 9 rfl) ?_
        refine fg_11_2 hN kw_2_181 (tk_X11_window 10 rfl) ?_
        refine fg_9_4 (on_Sb2 hN) kw_1_167 (tk_X11_window 11 rfl) ?_
        refine on_il1 (tk_X11_window 12 rfl) ?_
        refine on_iald (ltS_1 (on_Sb2 hN)) (shS_1 (on_Sb2 hN)) (tk_X11_window 13 rfl) fun v3 => ?_
        exact on_iret (tk_X11_window 14 rfl)
      | 1, hq =>
        cases hq
        refine on_al0 (tk_X11_window 15 rfl) ?_
        refine fg_11_2 hN kw_2_181 (tk_X11_window 16 rfl) ?_
        refine fg_9_5 (on_Sb2 hN) kw_1_169 (tk_X11_window 17 rfl) ?_
        refine on_il1 (tk_X11_window 18 rfl) ?_
        refine on_iald (ltS_2 (on_Sb2 hN)) (shS_2 (on_Sb2 hN)) (tk_X11_window 19 rfl) fun v4 => ?_
        exact on_iret (tk_X11_window 20 rfl)
      | 2, hq =>
        cases hq
        refine on_al0 (tk_X11_window 21 rfl) ?_
        refine fg_11_2 hN kw_2_181 (tk_X11_window 22 rfl) ?_
        refine fg_9_6 (on_Sb2 hN) kw_1_171 (tk_X11_window 23 rfl) ?_
        refine on_il1 (tk_X11_window 24 rfl) ?_
        refine on_iald (ltS_3 (on_Sb2 hN)) (shS_3 (on_Sb2 hN)) (tk_X11_window 25 rfl) fun v5 => ?_
        exact on_iret (tk_X11_window 26 rfl)
      | j + 3, hq => simp at hq
    · refine on_bipush (tk_X11_window 27 rfl) bp_m2 ?_
      exact on_iret (tk_X11_window 28 rfl)
def tb_X11_man : List (Nat × Nat × Nat × Instr) := [(0, 1, 1, .aload_n 0), (1, 3, 4, .getfield 16), (4, 1, 5, .iload_n 1), (5, 3, 8, .invokevirtual 119), (8, 3, 11, .ifCond .ne 6), (11, 2, 13, .bipush (-2)), (13, 1, 14, .ireturn), (14, 1, 15, .iload_n 2), (15, 29, 44, .tableswitch 81 0 3 #[29, 42, 55, 68]), (44, 1, 45, .aload_n 0), (45, 3, 48, .getfield 16), (48, 3, 51, .getfield 122), (51, 3, 54, .getfield 126), (54, 1, 55, .iload_n 1), (55, 1, 56, .iaload), (56, 1, 57, .ireturn), (57, 1, 58, .aload_n 0), (58, 3, 61, .getfield 16), (61, 3, 64, .getfield 122), (64, 3, 67, .getfield 129), (67, 1, 68, .iload_n 1), (68, 1, 69, .iaload), (69, 1, 70, .ireturn), (70, 1, 71, .aload_n 0), (71, 3, 74, .getfield 16), (74, 3, 77, .getfield 122), (77, 3, 80, .getfield 132), (80, 1, 81, .iload_n 1), (81, 1, 82, .iaload), (82, 1, 83, .ireturn), (83, 1, 84, .aload_n 0), (84, 3, 87, .getfield 16), (87, 3, 90, .getfield 122), (90, 3, 93, .getfield 135), (93, 1, 94, .iload_n 1), (94, 1, 95, .iaload), (95, 1, 96, .ireturn), (96, 2, 98, .bipush (-2)), (98, 1, 99, .ireturn)]
set_option maxRecDepth 100000 in
theorem tk_X11_man (k : Nat) {pc n pc2 : Nat} {i : Instr} (hk : tb_X11_man[k]? = some (pc, n, pc2, i)) : on_dq cX11_man pc n pc2 i := on_ta (by decide +kernel) k hk
theorem ms_X11_man : on_Mv yX11_man cX11_man 3 (some .int) 2 := ⟨kw_3_222, kw_3_220, kw_3_221, kw_1_1, by decide, by decide, by decide +kernel⟩
def pf_X11_man (p0 : Int) (p1 : Int) (σ : on_S) : Option on_O :=
  on_Cl (pf_X9_hasMan 2 p0 σ) fun v1 σ2 =>
  on_Eq v1 0 (
    some ((-2), σ2)) (
    on_sw p1 0 [
      (on_Rd σ2 (2 + 9) 9 p0 fun v3 =>
      some (v3, σ2)),
      (on_Rd σ2 (2 + 10) 9 p0 fun v4 =>
      some (v4, σ2)),
      (on_Rd σ2 (2 + 11) 9 p0 fun v5 =>
      some (v5, σ2)),
      (on_Rd σ2 (2 + 12) 9 p0 fun v6 =>
      some (v6, σ2))] (
      some ((-2), σ2)))
set_option maxRecDepth 100000 in
set_option maxHeartbeats 4000000 in
theorem ct_X11_man {E : on_E} {z n : Nat} {p0 : Int} {p1 : Int} (hN : 100 ≤ n) {σ : on_S} : on_Sp E yX11_man cX11_man 3 (some .int) 1 21 z n [.ref (z + 0), .int (on_i p0), .int (on_i p1)] σ (pf_X11_man p0 p1 σ) := by
  refine on_met [some (.ref (z + 0)), some (.int (on_i p0)), some (.int (on_i p1))] (by decide) rfl rfl (fun X => ?_)
  rw [pf_X11_man]
  refine on_al0 (tk_X11_man 0 rfl) ?_
  refine fg_11_2 hN kw_2_181 (tk_X11_man 1 rfl) ?_
  refine on_il1 (tk_X11_man 2 rfl) ?_
  refine on_cV1z 9 ms_X9_hasMan kw_3_223 rfl rfl (ltS_0 (on_Sb2 hN)) (shS_0 (on_Sb2 hN)) (ct_X9_hasMan hN (on_Sb2 hN)) rfl (tk_X11_man 3 rfl) fun v1 σ2 => ?_
  refine on_if_ne (tk_X11_man 4 rfl) (tgt := 14) (by decide) ?_ ?_
  · refine on_bipush (tk_X11_man 5 rfl) bp_m2 ?_
    exact on_iret (tk_X11_man 6 rfl)
  · refine on_il2 (tk_X11_man 7 rfl) ?_
    refine on_tsw (dt := 96) [44, 57, 70, 83] (tk_X11_man 8 rfl) rfl rfl (by decide) (by decide) ?_ ?_
    · intro j q hq
      match j, hq with
      | 0, hq =>
        cases hq
        refine on_al0 (tk_X11_man 9 rfl) ?_
        refine fg_11_2 hN kw_2_181 (tk_X11_man 10 rfl) ?_
        refine fg_9_12 (on_Sb2 hN) kw_1_188 (tk_X11_man 11 rfl) ?_
        refine fg_3_1 (on_Sb2 hN) kw_1_49 (tk_X11_man 12 rfl) ?_
        refine on_il1 (tk_X11_man 13 rfl) ?_
        refine on_iald (ltS_9 (on_Sb2 hN)) (shS_9 (on_Sb2 hN)) (tk_X11_man 14 rfl) fun v3 => ?_
        exact on_iret (tk_X11_man 15 rfl)
      | 1, hq =>
        cases hq
        refine on_al0 (tk_X11_man 16 rfl) ?_
        refine fg_11_2 hN kw_2_181 (tk_X11_man 17 rfl) ?_
        refine fg_9_12 (on_Sb2 hN) kw_1_188 (tk_X11_man 18 rfl) ?_
        refine fg_3_2 (on_Sb2 hN) kw_1_54 (tk_X11_man 19 rfl) ?_
        refine on_il1 (tk_X11_man 20 rfl) ?_
        refine on_iald (ltS_10 (on_Sb2 hN)) (shS_10 (on_Sb2 hN)) (tk_X11_man 21 rfl) fun v4 => ?_
        exact on_iret (tk_X11_man 22 rfl)
      | 2, hq =>
        cases hq
        refine on_al0 (tk_X11_man 23 rfl) ?_
        refine fg_11_2 hN kw_2_181 (tk_X11_man 24 rfl) ?_
        refine fg_9_12 (on_Sb2 hN) kw_1_188 (tk_X11_man 25 rfl) ?_
        refine fg_3_3 (on_Sb2 hN) kw_1_57 (tk_X11_man 26 rfl) ?_
        refine on_il1 (tk_X11_man 27 rfl) ?_
        refine on_iald (ltS_11 (on_Sb2 hN)) (shS_11 (on_Sb2 hN)) (tk_X11_man 28 rfl) fun v5 => ?_
        exact on_iret (tk_X11_man 29 rfl)
      | 3, hq =>
        cases hq
        refine on_al0 (tk_X11_man 30 rfl) ?_
        refine fg_11_2 hN kw_2_181 (tk_X11_man 31 rfl) ?_
        refine fg_9_12 (on_Sb2 hN) kw_1_188 (tk_X11_man 32 rfl) ?_
        refine fg_3_4 (on_Sb2 hN) kw_1_61 (tk_X11_man 33 rfl) ?_
        refine on_il1 (tk_X11_man 34 rfl) ?_
        refine on_iald (ltS_12 (on_Sb2 hN)) (shS_12 (on_Sb2 hN)) (tk_X11_man 35 rfl) fun v6 => ?_
        exact on_iret (tk_X11_man 36 rfl)
      | j + 4, hq => simp at hq
    · refine on_bipush (tk_X11_man 37 rfl) bp_m2 ?_
      exact on_iret (tk_X11_man 38 rfl)
def tb_X11_net : List (Nat × Nat × Nat × Instr) := [(0, 1, 1, .aload_n 0), (1, 3, 4, .getfield 16), (4, 1, 5, .iload_n 1), (5, 3, 8, .invokevirtual 138), (8, 3, 11, .ifCond .ne 6), (11, 2, 13, .bipush (-2)), (13, 1, 14, .ireturn), (14, 1, 15, .iload_n 2), (15, 33, 48, .tableswitch 90 0 4 #[33, 46, 59, 72, 81]), (48, 1, 49, .aload_n 0), (49, 3, 52, .getfield 16), (52, 3, 55, .getfield 141), (55, 3, 58, .getfield 145), (58, 1, 59, .iload_n 1), (59, 1, 60, .iaload), (60, 1, 61, .ireturn), (61, 1, 62, .aload_n 0), (62, 3, 65, .getfield 16), (65, 3, 68, .getfield 141), (68, 3, 71, .getfield 150), (71, 1, 72, .iload_n 1), (72, 1, 73, .iaload), (73, 1, 74, .ireturn), (74, 1, 75, .aload_n 0), (75, 3, 78, .getfield 16), (78, 3, 81, .getfield 141), (81, 3, 84, .getfield 153), (84, 1, 85, .iload_n 1), (85, 1, 86, .iaload), (86, 1, 87, .ireturn), (87, 1, 88, .aload_n 0), (88, 3, 91, .getfield 16), (91, 1, 92, .iload_n 1), (92, 3, 95, .invokevirtual 156), (95, 1, 96, .ireturn), (96, 1, 97, .aload_n 0), (97, 3, 100, .getfield 16), (100, 1, 101, .iload_n 1), (101, 3, 104, .invokevirtual 160), (104, 1, 105, .ireturn), (105, 2, 107, .bipush (-2)), (107, 1, 108, .ireturn)]
set_option maxRecDepth 100000 in
theorem tk_X11_net (k : Nat) {pc n pc2 : Nat} {i : Instr} (hk : tb_X11_net[k]? = some (pc, n, pc2, i)) : on_dq cX11_net pc n pc2 i := on_ta (by decide +kernel) k hk
theorem ms_X11_net : on_Mv yX11_net cX11_net 3 (some .int) 2 := ⟨kw_3_230, kw_3_228, kw_3_229, kw_1_1, by decide, by decide, by decide +kernel⟩
def pf_X11_net (p0 : Int) (p1 : Int) (σ : on_S) : Option on_O :=
  on_Cl (pf_X9_hasNet 2 p0 σ) fun v1 σ2 =>
  on_Eq v1 0 (
    some ((-2), σ2)) (
    on_sw p1 0 [
      (on_Rd σ2 (2 + 15) 2 p0 fun v3 =>
      some (v3, σ2)),
      (on_Rd σ2 (2 + 16) 2 p0 fun v4 =>
      some (v4, σ2)),
      (on_Rd σ2 (2 + 17) 2 p0 fun v5 =>
      some (v5, σ2)),
      (on_Cl (pf_X9_needOf 2 p0 σ2) fun v6 σ7 =>
      some (v6, σ7)),
      (on_Cl (pf_X9_carriedNow 2 p0 σ2) fun v8 σ9 =>
      some (v8, σ9))] (
      some ((-2), σ2)))
set_option maxRecDepth 100000 in
set_option maxHeartbeats 4000000 in
theorem ct_X11_net {E : on_E} {z n : Nat} {p0 : Int} {p1 : Int} (hN : 100 ≤ n) {σ : on_S} : on_Sp E yX11_net cX11_net 3 (some .int) 5 120 z n [.ref (z + 0), .int (on_i p0), .int (on_i p1)] σ (pf_X11_net p0 p1 σ) := by
  refine on_met [some (.ref (z + 0)), some (.int (on_i p0)), some (.int (on_i p1))] (by decide) rfl rfl (fun X => ?_)
  rw [pf_X11_net]
  refine on_al0 (tk_X11_net 0 rfl) ?_
  refine fg_11_2 hN kw_2_181 (tk_X11_net 1 rfl) ?_
  refine on_il1 (tk_X11_net 2 rfl) ?_
  refine on_cV1z 9 ms_X9_hasNet kw_3_231 rfl rfl (ltS_0 (on_Sb2 hN)) (shS_0 (on_Sb2 hN)) (ct_X9_hasNet hN (on_Sb2 hN)) rfl (tk_X11_net 3 rfl) fun v1 σ2 => ?_
  refine on_if_ne (tk_X11_net 4 rfl) (tgt := 14) (by decide) ?_ ?_
  · refine on_bipush (tk_X11_net 5 rfl) bp_m2 ?_
    exact on_iret (tk_X11_net 6 rfl)
  · refine on_il2 (tk_X11_net 7 rfl) ?_
    refine on_tsw (dt := 105) [48, 61, 74, 87, 96] (tk_X11_net 8 rfl) rfl rfl (by decide) (by decide) ?_ ?_
    · intro j q hq
      match j, hq with
      | 0, hq =>
        cases hq
        refine on_al0 (tk_X11_net 9 rfl) ?_
        refine fg_11_2 hN kw_2_181 (tk_X11_net 10 rfl) ?_
        refine fg_9_13 (on_Sb2 hN) kw_1_195 (tk_X11_net 11 rfl) ?_
        refine fg_4_1 (on_Sb2 hN) kw_1_93 (tk_X11_net 12 rfl) ?_
        refine on_il1 (tk_X11_net 13 rfl) ?_
        refine on_iald (ltS_15 (on_Sb2 hN)) (shS_15 (on_Sb2 hN)) (tk_X11_net 14 rfl) fun v3 => ?_
        exact on_iret (tk_X11_net 15 rfl)
      | 1, hq =>
        cases hq
        refine on_al0 (tk_X11_net 16 rfl) ?_
        refine fg_11_2 hN kw_2_181 (tk_X11_net 17 rfl) ?_
        refine fg_9_13 (on_Sb2 hN) kw_1_195 (tk_X11_net 18 rfl) ?_
        refine fg_4_2 (on_Sb2 hN) kw_1_98 (tk_X11_net 19 rfl) ?_
        refine on_il1 (tk_X11_net 20 rfl) ?_
        refine on_iald (ltS_16 (on_Sb2 hN)) (shS_16 (on_Sb2 hN)) (tk_X11_net 21 rfl) fun v4 => ?_
        exact on_iret (tk_X11_net 22 rfl)
      | 2, hq =>
        cases hq
        refine on_al0 (tk_X11_net 23 rfl) ?_
        refine fg_11_2 hN kw_2_181 (tk_X11_net 24 rfl) ?_
        refine fg_9_13 (on_Sb2 hN) kw_1_195 (tk_X11_net 25 rfl) ?_
        refine fg_4_3 (on_Sb2 hN) kw_1_103 (tk_X11_net 26 rfl) ?_
        refine on_il1 (tk_X11_net 27 rfl) ?_
        refine on_iald (ltS_17 (on_Sb2 hN)) (shS_17 (on_Sb2 hN)) (tk_X11_net 28 rfl) fun v5 => ?_
        exact on_iret (tk_X11_net 29 rfl)
      | 3, hq =>
        cases hq
        refine on_al0 (tk_X11_net 30 rfl) ?_
        refine fg_11_2 hN kw_2_181 (tk_X11_net 31 rfl) ?_
        refine on_il1 (tk_X11_net 32 rfl) ?_
        refine on_cV1i 9 ms_X9_needOf kw_3_235 rfl rfl (ltS_0 (on_Sb2 hN)) (shS_0 (on_Sb2 hN)) (ct_X9_needOf hN (on_Sb2 hN)) rfl (tk_X11_net 33 rfl) fun v6 σ7 => ?_
        exact on_iret (tk_X11_net 34 rfl)
      | 4, hq =>
        cases hq
        refine on_al0 (tk_X11_net 35 rfl) ?_
        refine fg_11_2 hN kw_2_181 (tk_X11_net 36 rfl) ?_
        refine on_il1 (tk_X11_net 37 rfl) ?_
        refine on_cV1i 9 ms_X9_carriedNow kw_4_6 rfl rfl (ltS_0 (on_Sb2 hN)) (shS_0 (on_Sb2 hN)) (ct_X9_carriedNow hN (on_Sb2 hN)) rfl (tk_X11_net 38 rfl) fun v8 σ9 => ?_
        exact on_iret (tk_X11_net 39 rfl)
      | j + 5, hq => simp at hq
    · refine on_bipush (tk_X11_net 40 rfl) bp_m2 ?_
      exact on_iret (tk_X11_net 41 rfl)
def tb_X11_corner : List (Nat × Nat × Nat × Instr) := [(0, 1, 1, .aload_n 0), (1, 3, 4, .getfield 16), (4, 1, 5, .iload_n 1), (5, 1, 6, .iload_n 2), (6, 3, 9, .invokevirtual 163), (9, 3, 12, .ifCond .ne 6), (12, 2, 14, .bipush (-2)), (14, 1, 15, .ireturn), (15, 1, 16, .iload_n 3), (16, 28, 44, .tableswitch 72 0 2 #[28, 45, 62]), (44, 1, 45, .aload_n 0), (45, 3, 48, .getfield 16), (48, 3, 51, .getfield 141), (51, 3, 54, .getfield 167), (54, 1, 55, .iload_n 1), (55, 1, 56, .iconst 4), (56, 1, 57, .imul), (57, 1, 58, .iload_n 2), (58, 1, 59, .iadd), (59, 1, 60, .iaload), (60, 1, 61, .ireturn), (61, 1, 62, .aload_n 0), (62, 3, 65, .getfield 16), (65, 3, 68, .getfield 141), (68, 3, 71, .getfield 170), (71, 1, 72, .iload_n 1), (72, 1, 73, .iconst 4), (73, 1, 74, .imul), (74, 1, 75, .iload_n 2), (75, 1, 76, .iadd), (76, 1, 77, .iaload), (77, 1, 78, .ireturn), (78, 1, 79, .aload_n 0), (79, 3, 82, .getfield 16), (82, 1, 83, .iload_n 1), (83, 1, 84, .iload_n 2), (84, 3, 87, .invokevirtual 173), (87, 1, 88, .ireturn), (88, 2, 90, .bipush (-2)), (90, 1, 91, .ireturn)]
set_option maxRecDepth 100000 in
theorem tk_X11_corner (k : Nat) {pc n pc2 : Nat} {i : Instr} (hk : tb_X11_corner[k]? = some (pc, n, pc2, i)) : on_dq cX11_corner pc n pc2 i := on_ta (by decide +kernel) k hk
theorem ms_X11_corner : on_Mv yX11_corner cX11_corner 4 (some .int) 3 := ⟨kw_4_38, kw_4_36, kw_4_37, kw_1_1, by decide, by decide, by decide +kernel⟩
def pf_X11_corner (p0 : Int) (p1 : Int) (p2 : Int) (σ : on_S) : Option on_O :=
  on_Cl (pf_X9_hasCorner 2 p0 p1 σ) fun v1 σ2 =>
  on_Eq v1 0 (
    some ((-2), σ2)) (
    on_sw p2 0 [
      (on_Rd σ2 (2 + 18) 8 ((p0 * 4) + p1) fun v3 =>
      some (v3, σ2)),
      (on_Rd σ2 (2 + 19) 8 ((p0 * 4) + p1) fun v4 =>
      some (v4, σ2)),
      (on_Cl (pf_X9_holdNow 2 p0 p1 σ2) fun v5 σ6 =>
      some (v5, σ6))] (
      some ((-2), σ2)))
set_option maxRecDepth 100000 in
set_option maxHeartbeats 4000000 in
theorem ct_X11_corner {E : on_E} {z n : Nat} {p0 : Int} {p1 : Int} {p2 : Int} (hN : 100 ≤ n) {σ : on_S} : on_Sp E yX11_corner cX11_corner 4 (some .int) 4 96 z n [.ref (z + 0), .int (on_i p0), .int (on_i p1), .int (on_i p2)] σ (pf_X11_corner p0 p1 p2 σ) := by
  refine on_met [some (.ref (z + 0)), some (.int (on_i p0)), some (.int (on_i p1)), some (.int (on_i p2))] (by decide) rfl rfl (fun X => ?_)
  rw [pf_X11_corner]
  refine on_al0 (tk_X11_corner 0 rfl) ?_
  refine fg_11_2 hN kw_2_181 (tk_X11_corner 1 rfl) ?_
  refine on_il1 (tk_X11_corner 2 rfl) ?_
  refine on_il2 (tk_X11_corner 3 rfl) ?_
  refine on_cV2z 9 ms_X9_hasCorner kw_4_39 rfl rfl (ltS_0 (on_Sb2 hN)) (shS_0 (on_Sb2 hN)) (ct_X9_hasCorner hN (on_Sb2 hN)) rfl (tk_X11_corner 4 rfl) fun v1 σ2 => ?_
  refine on_if_ne (tk_X11_corner 5 rfl) (tgt := 15) (by decide) ?_ ?_
  · refine on_bipush (tk_X11_corner 6 rfl) bp_m2 ?_
    exact on_iret (tk_X11_corner 7 rfl)
  · refine on_il3 (tk_X11_corner 8 rfl) ?_
    refine on_tsw (dt := 88) [44, 61, 78] (tk_X11_corner 9 rfl) rfl rfl (by decide) (by decide) ?_ ?_
    · intro j q hq
      match j, hq with
      | 0, hq =>
        cases hq
        refine on_al0 (tk_X11_corner 10 rfl) ?_
        refine fg_11_2 hN kw_2_181 (tk_X11_corner 11 rfl) ?_
        refine fg_9_13 (on_Sb2 hN) kw_1_195 (tk_X11_corner 12 rfl) ?_
        refine fg_4_4 (on_Sb2 hN) kw_1_108 (tk_X11_corner 13 rfl) ?_
        refine on_il1 (tk_X11_corner 14 rfl) ?_
        refine on_iconst (tk_X11_corner 15 rfl) ?_
        refine on_imul (tk_X11_corner 16 rfl) ?_
        refine on_il2 (tk_X11_corner 17 rfl) ?_
        refine on_iadd (tk_X11_corner 18 rfl) ?_
        refine on_iald (ltS_18 (on_Sb2 hN)) (shS_18 (on_Sb2 hN)) (tk_X11_corner 19 rfl) fun v3 => ?_
        exact on_iret (tk_X11_corner 20 rfl)
      | 1, hq =>
        cases hq
        refine on_al0 (tk_X11_corner 21 rfl) ?_
        refine fg_11_2 hN kw_2_181 (tk_X11_corner 22 rfl) ?_
        refine fg_9_13 (on_Sb2 hN) kw_1_195 (tk_X11_corner 23 rfl) ?_
        refine fg_4_5 (on_Sb2 hN) kw_1_112 (tk_X11_corner 24 rfl) ?_
        refine on_il1 (tk_X11_corner 25 rfl) ?_
        refine on_iconst (tk_X11_corner 26 rfl) ?_
        refine on_imul (tk_X11_corner 27 rfl) ?_
        refine on_il2 (tk_X11_corner 28 rfl) ?_
        refine on_iadd (tk_X11_corner 29 rfl) ?_
        refine on_iald (ltS_19 (on_Sb2 hN)) (shS_19 (on_Sb2 hN)) (tk_X11_corner 30 rfl) fun v4 => ?_
        exact on_iret (tk_X11_corner 31 rfl)
      | 2, hq =>
        cases hq
        refine on_al0 (tk_X11_corner 32 rfl) ?_
        refine fg_11_2 hN kw_2_181 (tk_X11_corner 33 rfl) ?_
        refine on_il1 (tk_X11_corner 34 rfl) ?_
        refine on_il2 (tk_X11_corner 35 rfl) ?_
        refine on_cV2i 9 ms_X9_holdNow kw_4_44 rfl rfl (ltS_0 (on_Sb2 hN)) (shS_0 (on_Sb2 hN)) (ct_X9_holdNow hN (on_Sb2 hN)) rfl (tk_X11_corner 36 rfl) fun v5 σ6 => ?_
        exact on_iret (tk_X11_corner 37 rfl)
      | j + 3, hq => simp at hq
    · refine on_bipush (tk_X11_corner 38 rfl) bp_m2 ?_
      exact on_iret (tk_X11_corner 39 rfl)
def tb_X11_jumper : List (Nat × Nat × Nat × Instr) := [(0, 1, 1, .aload_n 0), (1, 3, 4, .getfield 16), (4, 1, 5, .iload_n 1), (5, 3, 8, .invokevirtual 177), (8, 3, 11, .ifCond .ne 6), (11, 2, 13, .bipush (-2)), (13, 1, 14, .ireturn), (14, 1, 15, .iload_n 2), (15, 25, 40, .tableswitch 54 0 2 #[25, 35, 45]), (40, 1, 41, .aload_n 0), (41, 3, 44, .getfield 16), (44, 3, 47, .getfield 180), (47, 1, 48, .iload_n 1), (48, 1, 49, .iaload), (49, 1, 50, .ireturn), (50, 1, 51, .aload_n 0), (51, 3, 54, .getfield 16), (54, 3, 57, .getfield 183), (57, 1, 58, .iload_n 1), (58, 1, 59, .iaload), (59, 1, 60, .ireturn), (60, 1, 61, .aload_n 0), (61, 3, 64, .getfield 16), (64, 1, 65, .iload_n 1), (65, 3, 68, .invokevirtual 186), (68, 1, 69, .ireturn), (69, 2, 71, .bipush (-2)), (71, 1, 72, .ireturn)]
set_option maxRecDepth 100000 in
theorem tk_X11_jumper (k : Nat) {pc n pc2 : Nat} {i : Instr} (hk : tb_X11_jumper[k]? = some (pc, n, pc2, i)) : on_dq cX11_jumper pc n pc2 i := on_ta (by decide +kernel) k hk
theorem ms_X11_jumper : on_Mv yX11_jumper cX11_jumper 3 (some .int) 2 := ⟨kw_4_51, kw_4_49, kw_4_50, kw_1_1, by decide, by decide, by decide +kernel⟩
def pf_X11_jumper (p0 : Int) (p1 : Int) (σ : on_S) : Option on_O :=
  on_Cl (pf_X9_hasJumper 2 p0 σ) fun v1 σ2 =>
  on_Eq v1 0 (
    some ((-2), σ2)) (
    on_sw p1 0 [
      (on_Rd σ2 (2 + 4) 9 p0 fun v3 =>
      some (v3, σ2)),
      (on_Rd σ2 (2 + 5) 9 p0 fun v4 =>
      some (v4, σ2)),
      (on_Cl (pf_X9_forceOf 2 p0 σ2) fun v5 σ6 =>
      some (v5, σ6))] (
      some ((-2), σ2)))
set_option maxRecDepth 100000 in
set_option maxHeartbeats 4000000 in
theorem ct_X11_jumper {E : on_E} {z n : Nat} {p0 : Int} {p1 : Int} (hN : 100 ≤ n) {σ : on_S} : on_Sp E yX11_jumper cX11_jumper 3 (some .int) 1 21 z n [.ref (z + 0), .int (on_i p0), .int (on_i p1)] σ (pf_X11_jumper p0 p1 σ) := by
  refine on_met [some (.ref (z + 0)), some (.int (on_i p0)), some (.int (on_i p1))] (by decide) rfl rfl (fun X => ?_)
  rw [pf_X11_jumper]
  refine on_al0 (tk_X11_jumper 0 rfl) ?_
  refine fg_11_2 hN kw_2_181 (tk_X11_jumper 1 rfl) ?_
  refine on_il1 (tk_X11_jumper 2 rfl) ?_
  refine on_cV1z 9 ms_X9_hasJumper kw_4_52 rfl rfl (ltS_0 (on_Sb2 hN)) (shS_0 (on_Sb2 hN)) (ct_X9_hasJumper hN (on_Sb2 hN)) rfl (tk_X11_jumper 3 rfl) fun v1 σ2 => ?_
  refine on_if_ne (tk_X11_jumper 4 rfl) (tgt := 14) (by decide) ?_ ?_
  · refine on_bipush (tk_X11_jumper 5 rfl) bp_m2 ?_
    exact on_iret (tk_X11_jumper 6 rfl)
  · refine on_il2 (tk_X11_jumper 7 rfl) ?_
    refine on_tsw (dt := 69) [40, 50, 60] (tk_X11_jumper 8 rfl) rfl rfl (by decide) (by decide) ?_ ?_
    · intro j q hq
      match j, hq with
      | 0, hq =>
        cases hq
        refine on_al0 (tk_X11_jumper 9 rfl) ?_
        refine fg_11_2 hN kw_2_181 (tk_X11_jumper 10 rfl) ?_
        refine fg_9_8 (on_Sb2 hN) kw_1_178 (tk_X11_jumper 11 rfl) ?_
        refine on_il1 (tk_X11_jumper 12 rfl) ?_
        refine on_iald (ltS_4 (on_Sb2 hN)) (shS_4 (on_Sb2 hN)) (tk_X11_jumper 13 rfl) fun v3 => ?_
        exact on_iret (tk_X11_jumper 14 rfl)
      | 1, hq =>
        cases hq
        refine on_al0 (tk_X11_jumper 15 rfl) ?_
        refine fg_11_2 hN kw_2_181 (tk_X11_jumper 16 rfl) ?_
        refine fg_9_9 (on_Sb2 hN) kw_1_180 (tk_X11_jumper 17 rfl) ?_
        refine on_il1 (tk_X11_jumper 18 rfl) ?_
        refine on_iald (ltS_5 (on_Sb2 hN)) (shS_5 (on_Sb2 hN)) (tk_X11_jumper 19 rfl) fun v4 => ?_
        exact on_iret (tk_X11_jumper 20 rfl)
      | 2, hq =>
        cases hq
        refine on_al0 (tk_X11_jumper 21 rfl) ?_
        refine fg_11_2 hN kw_2_181 (tk_X11_jumper 22 rfl) ?_
        refine on_il1 (tk_X11_jumper 23 rfl) ?_
        refine on_cV1i 9 ms_X9_forceOf kw_4_56 rfl rfl (ltS_0 (on_Sb2 hN)) (shS_0 (on_Sb2 hN)) (ct_X9_forceOf hN (on_Sb2 hN)) rfl (tk_X11_jumper 24 rfl) fun v5 σ6 => ?_
        exact on_iret (tk_X11_jumper 25 rfl)
      | j + 3, hq => simp at hq
    · refine on_bipush (tk_X11_jumper 26 rfl) bp_m2 ?_
      exact on_iret (tk_X11_jumper 27 rfl)
def tb_X11_quarrel : List (Nat × Nat × Nat × Instr) := [(0, 1, 1, .aload_n 0), (1, 3, 4, .getfield 16), (4, 1, 5, .iload_n 1), (5, 1, 6, .iload_n 2), (6, 3, 9, .invokevirtual 189), (9, 3, 12, .ifCond .ne 6), (12, 2, 14, .bipush (-2)), (14, 1, 15, .ireturn), (15, 1, 16, .aload_n 0), (16, 3, 19, .getfield 16), (19, 3, 22, .getfield 122), (22, 1, 23, .iload_n 1), (23, 1, 24, .iload_n 2), (24, 3, 27, .invokevirtual 192), (27, 1, 28, .ireturn)]
set_option maxRecDepth 100000 in
theorem tk_X11_quarrel (k : Nat) {pc n pc2 : Nat} {i : Instr} (hk : tb_X11_quarrel[k]? = some (pc, n, pc2, i)) : on_dq cX11_quarrel pc n pc2 i := on_ta (by decide +kernel) k hk
theorem ms_X11_quarrel : on_Mv yX11_quarrel cX11_quarrel 3 (some .int) 2 := ⟨kw_4_60, kw_4_58, kw_4_59, kw_1_1, by decide, by decide, by decide +kernel⟩
def pf_X11_quarrel (p0 : Int) (p1 : Int) (σ : on_S) : Option on_O :=
  on_Cl (pf_X9_hasTwoMen 2 p0 p1 σ) fun v1 σ2 =>
  on_Eq v1 0 (
    some ((-2), σ2)) (
    on_Cl (pf_X3_quarrelOf 2 p0 p1 σ2) fun v3 σ4 =>
    some (v3, σ4))
set_option maxRecDepth 100000 in
set_option maxHeartbeats 4000000 in
theorem ct_X11_quarrel {E : on_E} {z n : Nat} {p0 : Int} {p1 : Int} (hN : 100 ≤ n) {σ : on_S} : on_Sp E yX11_quarrel cX11_quarrel 3 (some .int) 2 43 z n [.ref (z + 0), .int (on_i p0), .int (on_i p1)] σ (pf_X11_quarrel p0 p1 σ) := by
  refine on_met [some (.ref (z + 0)), some (.int (on_i p0)), some (.int (on_i p1))] (by decide) rfl rfl (fun X => ?_)
  rw [pf_X11_quarrel]
  refine on_al0 (tk_X11_quarrel 0 rfl) ?_
  refine fg_11_2 hN kw_2_181 (tk_X11_quarrel 1 rfl) ?_
  refine on_il1 (tk_X11_quarrel 2 rfl) ?_
  refine on_il2 (tk_X11_quarrel 3 rfl) ?_
  refine on_cV2z 9 ms_X9_hasTwoMen kw_4_61 rfl rfl (ltS_0 (on_Sb2 hN)) (shS_0 (on_Sb2 hN)) (ct_X9_hasTwoMen hN (on_Sb2 hN)) rfl (tk_X11_quarrel 4 rfl) fun v1 σ2 => ?_
  refine on_if_ne (tk_X11_quarrel 5 rfl) (tgt := 15) (by decide) ?_ ?_
  · refine on_bipush (tk_X11_quarrel 6 rfl) bp_m2 ?_
    exact on_iret (tk_X11_quarrel 7 rfl)
  · refine on_al0 (tk_X11_quarrel 8 rfl) ?_
    refine fg_11_2 hN kw_2_181 (tk_X11_quarrel 9 rfl) ?_
    refine fg_9_12 (on_Sb2 hN) kw_1_188 (tk_X11_quarrel 10 rfl) ?_
    refine on_il1 (tk_X11_quarrel 11 rfl) ?_
    refine on_il2 (tk_X11_quarrel 12 rfl) ?_
    refine on_cV2i 3 ms_X3_quarrelOf kw_4_66 rfl rfl (ltS_8 (on_Sb2 hN)) (shS_8 (on_Sb2 hN)) (ct_X3_quarrelOf hN (on_Sb2 hN)) rfl (tk_X11_quarrel 13 rfl) fun v3 σ4 => ?_
    exact on_iret (tk_X11_quarrel 14 rfl)
def tb_X11_feud : List (Nat × Nat × Nat × Instr) := [(0, 1, 1, .aload_n 0), (1, 3, 4, .getfield 16), (4, 1, 5, .iload_n 1), (5, 1, 6, .iload_n 2), (6, 3, 9, .invokevirtual 195), (9, 3, 12, .ifCond .ne 6), (12, 2, 14, .bipush (-2)), (14, 1, 15, .ireturn), (15, 1, 16, .aload_n 0), (16, 3, 19, .getfield 16), (19, 3, 22, .getfield 198), (22, 1, 23, .iload_n 1), (23, 1, 24, .iconst 4), (24, 1, 25, .imul), (25, 1, 26, .iload_n 2), (26, 1, 27, .iadd), (27, 1, 28, .iaload), (28, 1, 29, .ireturn)]
set_option maxRecDepth 100000 in
theorem tk_X11_feud (k : Nat) {pc n pc2 : Nat} {i : Instr} (hk : tb_X11_feud[k]? = some (pc, n, pc2, i)) : on_dq cX11_feud pc n pc2 i := on_ta (by decide +kernel) k hk
theorem ms_X11_feud : on_Mv yX11_feud cX11_feud 3 (some .int) 2 := ⟨kw_4_73, kw_4_71, kw_4_72, kw_1_1, by decide, by decide, by decide +kernel⟩
def pf_X11_feud (p0 : Int) (p1 : Int) (σ : on_S) : Option on_O :=
  on_Cl (pf_X9_hasTwoHouses 2 p0 p1 σ) fun v1 σ2 =>
  on_Eq v1 0 (
    some ((-2), σ2)) (
    on_Rd σ2 (2 + 6) 16 ((p0 * 4) + p1) fun v3 =>
    some (v3, σ2))
set_option maxRecDepth 100000 in
set_option maxHeartbeats 4000000 in
theorem ct_X11_feud {E : on_E} {z n : Nat} {p0 : Int} {p1 : Int} (hN : 100 ≤ n) {σ : on_S} : on_Sp E yX11_feud cX11_feud 3 (some .int) 2 43 z n [.ref (z + 0), .int (on_i p0), .int (on_i p1)] σ (pf_X11_feud p0 p1 σ) := by
  refine on_met [some (.ref (z + 0)), some (.int (on_i p0)), some (.int (on_i p1))] (by decide) rfl rfl (fun X => ?_)
  rw [pf_X11_feud]
  refine on_al0 (tk_X11_feud 0 rfl) ?_
  refine fg_11_2 hN kw_2_181 (tk_X11_feud 1 rfl) ?_
  refine on_il1 (tk_X11_feud 2 rfl) ?_
  refine on_il2 (tk_X11_feud 3 rfl) ?_
  refine on_cV2z 9 ms_X9_hasTwoHouses kw_4_74 rfl rfl (ltS_0 (on_Sb2 hN)) (shS_0 (on_Sb2 hN)) (ct_X9_hasTwoHouses hN (on_Sb2 hN)) rfl (tk_X11_feud 4 rfl) fun v1 σ2 => ?_
  refine on_if_ne (tk_X11_feud 5 rfl) (tgt := 15) (by decide) ?_ ?_
  · refine on_bipush (tk_X11_feud 6 rfl) bp_m2 ?_
    exact on_iret (tk_X11_feud 7 rfl)
  · refine on_al0 (tk_X11_feud 8 rfl) ?_
    refine fg_11_2 hN kw_2_181 (tk_X11_feud 9 rfl) ?_
    refine fg_9_10 (on_Sb2 hN) kw_1_182 (tk_X11_feud 10 rfl) ?_
    refine on_il1 (tk_X11_feud 11 rfl) ?_
    refine on_iconst (tk_X11_feud 12 rfl) ?_
    refine on_imul (tk_X11_feud 13 rfl) ?_
    refine on_il2 (tk_X11_feud 14 rfl) ?_
    refine on_iadd (tk_X11_feud 15 rfl) ?_
    refine on_iald (ltS_6 (on_Sb2 hN)) (shS_6 (on_Sb2 hN)) (tk_X11_feud 16 rfl) fun v3 => ?_
    exact on_iret (tk_X11_feud 17 rfl)
def tb_X11_will : List (Nat × Nat × Nat × Instr) := [(0, 1, 1, .aload_n 0), (1, 3, 4, .getfield 16), (4, 1, 5, .iload_n 1), (5, 3, 8, .invokevirtual 119), (8, 3, 11, .ifCond .eq 14), (11, 1, 12, .aload_n 0), (12, 3, 15, .getfield 16), (15, 1, 16, .iload_n 2), (16, 3, 19, .invokevirtual 105), (19, 3, 22, .ifCond .ne 6), (22, 2, 24, .bipush (-2)), (24, 1, 25, .ireturn), (25, 1, 26, .aload_n 0), (26, 3, 29, .getfield 16), (29, 1, 30, .iload_n 1), (30, 1, 31, .iload_n 2), (31, 3, 34, .invokevirtual 201), (34, 3, 37, .ifCond .eq 7), (37, 1, 38, .iconst 1), (38, 3, 41, .goto 4), (41, 1, 42, .iconst 0), (42, 1, 43, .ireturn)]
set_option maxRecDepth 100000 in
theorem tk_X11_will (k : Nat) {pc n pc2 : Nat} {i : Instr} (hk : tb_X11_will[k]? = some (pc, n, pc2, i)) : on_dq cX11_will pc n pc2 i := on_ta (by decide +kernel) k hk
theorem ms_X11_will : on_Mv yX11_will cX11_will 3 (some .int) 2 := ⟨kw_4_85, kw_4_83, kw_4_84, kw_1_1, by decide, by decide, by decide +kernel⟩
def pf_X11_will (p0 : Int) (p1 : Int) (σ : on_S) : Option on_O :=
  on_Cl (pf_X9_hasMan 2 p0 σ) fun v1 σ2 =>
  on_Eq v1 0 (
    some ((-2), σ2)) (
    on_Cl (pf_X9_hasWindow 2 p1 σ2) fun v3 σ4 =>
    on_Eq v3 0 (
      some ((-2), σ4)) (
      on_Cl (pf_X9_willHold 2 p0 p1 σ4) fun v5 σ6 =>
      on_Eq v5 0 (
        some (0, σ6)) (
        some (1, σ6))))
set_option maxRecDepth 100000 in
set_option maxHeartbeats 4000000 in
theorem ct_X11_will {E : on_E} {z n : Nat} {p0 : Int} {p1 : Int} (hN : 100 ≤ n) {σ : on_S} : on_Sp E yX11_will cX11_will 3 (some .int) 1 23 z n [.ref (z + 0), .int (on_i p0), .int (on_i p1)] σ (pf_X11_will p0 p1 σ) := by
  refine on_met [some (.ref (z + 0)), some (.int (on_i p0)), some (.int (on_i p1))] (by decide) rfl rfl (fun X => ?_)
  rw [pf_X11_will]
  refine on_al0 (tk_X11_will 0 rfl) ?_
  refine fg_11_2 hN kw_2_181 (tk_X11_will 1 rfl) ?_
  refine on_il1 (tk_X11_will 2 rfl) ?_
  refine on_cV1z 9 ms_X9_hasMan kw_3_223 rfl rfl (ltS_0 (on_Sb2 hN)) (shS_0 (on_Sb2 hN)) (ct_X9_hasMan hN (on_Sb2 hN)) rfl (tk_X11_will 3 rfl) fun v1 σ2 => ?_
  refine on_if_eq (tk_X11_will 4 rfl) (tgt := 22) (by decide) ?_ ?_
  · refine on_al0 (tk_X11_will 5 rfl) ?_
    refine fg_11_2 hN kw_2_181 (tk_X11_will 6 rfl) ?_
    refine on_il2 (tk_X11_will 7 rfl) ?_
    refine on_cV1z 9 ms_X9_hasWindow kw_3_215 rfl rfl (ltS_0 (on_Sb2 hN)) (shS_0 (on_Sb2 hN)) (ct_X9_hasWindow hN (on_Sb2 hN)) rfl (tk_X11_will 8 rfl) fun v3 σ4 => ?_
    refine on_if_ne (tk_X11_will 9 rfl) (tgt := 25) (by decide) ?_ ?_
    · refine on_bipush (tk_X11_will 10 rfl) bp_m2 ?_
      exact on_iret (tk_X11_will 11 rfl)
    · refine on_al0 (tk_X11_will 12 rfl) ?_
      refine fg_11_2 hN kw_2_181 (tk_X11_will 13 rfl) ?_
      refine on_il1 (tk_X11_will 14 rfl) ?_
      refine on_il2 (tk_X11_will 15 rfl) ?_
      refine on_cV2z 9 ms_X9_willHold kw_4_86 rfl rfl (ltS_0 (on_Sb2 hN)) (shS_0 (on_Sb2 hN)) (ct_X9_willHold hN (on_Sb2 hN)) rfl (tk_X11_will 16 rfl) fun v5 σ6 => ?_
      refine on_if_eq (tk_X11_will 17 rfl) (tgt := 41) (by decide) ?_ ?_
      · refine on_iconst (tk_X11_will 18 rfl) ?_
        refine on_goto (tk_X11_will 19 rfl) (tgt := 42) (by decide) ?_
        exact on_iret (tk_X11_will 21 rfl)
      · refine on_iconst (tk_X11_will 20 rfl) ?_
        exact on_iret (tk_X11_will 21 rfl)
  · refine on_bipush (tk_X11_will 10 rfl) bp_m2 ?_
    exact on_iret (tk_X11_will 11 rfl)
def tb_X11_gives : List (Nat × Nat × Nat × Instr) := [(0, 1, 1, .aload_n 0), (1, 3, 4, .getfield 16), (4, 1, 5, .iload_n 1), (5, 3, 8, .invokevirtual 138), (8, 3, 11, .ifCond .eq 7), (11, 1, 12, .iload_n 2), (12, 3, 15, .ifCond .ge 6), (15, 2, 17, .bipush (-2)), (17, 1, 18, .ireturn), (18, 1, 19, .iload_n 2), (19, 1, 20, .aload_n 0), (20, 3, 23, .getfield 16), (23, 1, 24, .iload_n 1), (24, 3, 27, .invokevirtual 160), (27, 3, 30, .if_icmp .gt 7), (30, 1, 31, .iconst (-1)), (31, 3, 34, .goto 11), (34, 1, 35, .aload_n 0), (35, 3, 38, .getfield 16), (38, 1, 39, .iload_n 1), (39, 3, 42, .invokevirtual 204), (42, 1, 43, .ireturn)]
set_option maxRecDepth 100000 in
theorem tk_X11_gives (k : Nat) {pc n pc2 : Nat} {i : Instr} (hk : tb_X11_gives[k]? = some (pc, n, pc2, i)) : on_dq cX11_gives pc n pc2 i := on_ta (by decide +kernel) k hk
theorem ms_X11_gives : on_Mv yX11_gives cX11_gives 3 (some .int) 2 := ⟨kw_4_90, kw_4_88, kw_4_89, kw_1_1, by decide, by decide, by decide +kernel⟩
def pf_X11_gives (p0 : Int) (p1 : Int) (σ : on_S) : Option on_O :=
  on_Cl (pf_X9_hasNet 2 p0 σ) fun v1 σ2 =>
  on_Eq v1 0 (
    some ((-2), σ2)) (
    on_Lt p1 0 (
      some ((-2), σ2)) (
      on_Cl (pf_X9_carriedNow 2 p0 σ2) fun v3 σ4 =>
      on_Le p1 v3 (
        some ((-1), σ4)) (
        on_Cl (pf_X9_weakestCorner 2 p0 σ4) fun v5 σ6 =>
        some (v5, σ6))))
set_option maxRecDepth 100000 in
set_option maxHeartbeats 4000000 in
theorem ct_X11_gives {E : on_E} {z n : Nat} {p0 : Int} {p1 : Int} (hN : 100 ≤ n) {σ : on_S} : on_Sp E yX11_gives cX11_gives 3 (some .int) 5 121 z n [.ref (z + 0), .int (on_i p0), .int (on_i p1)] σ (pf_X11_gives p0 p1 σ) := by
  refine on_met [some (.ref (z + 0)), some (.int (on_i p0)), some (.int (on_i p1))] (by decide) rfl rfl (fun X => ?_)
  rw [pf_X11_gives]
  refine on_al0 (tk_X11_gives 0 rfl) ?_
  refine fg_11_2 hN kw_2_181 (tk_X11_gives 1 rfl) ?_
  refine on_il1 (tk_X11_gives 2 rfl) ?_
  refine on_cV1z 9 ms_X9_hasNet kw_3_231 rfl rfl (ltS_0 (on_Sb2 hN)) (shS_0 (on_Sb2 hN)) (ct_X9_hasNet hN (on_Sb2 hN)) rfl (tk_X11_gives 3 rfl) fun v1 σ2 => ?_
  refine on_if_eq (tk_X11_gives 4 rfl) (tgt := 15) (by decide) ?_ ?_
  · refine on_il2 (tk_X11_gives 5 rfl) ?_
    refine on_if_ge (tk_X11_gives 6 rfl) (tgt := 18) (by decide) ?_ ?_
    · refine on_bipush (tk_X11_gives 7 rfl) bp_m2 ?_
      exact on_iret (tk_X11_gives 8 rfl)
    · refine on_il2 (tk_X11_gives 9 rfl) ?_
      refine on_al0 (tk_X11_gives 10 rfl) ?_
      refine fg_11_2 hN kw_2_181 (tk_X11_gives 11 rfl) ?_
      refine on_il1 (tk_X11_gives 12 rfl) ?_
      refine on_cV1i 9 ms_X9_carriedNow kw_4_6 rfl rfl (ltS_0 (on_Sb2 hN)) (shS_0 (on_Sb2 hN)) (ct_X9_carriedNow hN (on_Sb2 hN)) rfl (tk_X11_gives 13 rfl) fun v3 σ4 => ?_
      refine on_icmp_gt (tk_X11_gives 14 rfl) (tgt := 34) (by decide) ?_ ?_
      · refine on_iconst (tk_X11_gives 15 rfl) ?_
        refine on_goto (tk_X11_gives 16 rfl) (tgt := 42) (by decide) ?_
        exact on_iret (tk_X11_gives 21 rfl)
      · refine on_al0 (tk_X11_gives 17 rfl) ?_
        refine fg_11_2 hN kw_2_181 (tk_X11_gives 18 rfl) ?_
        refine on_il1 (tk_X11_gives 19 rfl) ?_
        refine on_cV1i 9 ms_X9_weakestCorner kw_4_91 rfl rfl (ltS_0 (on_Sb2 hN)) (shS_0 (on_Sb2 hN)) (ct_X9_weakestCorner hN (on_Sb2 hN)) rfl (tk_X11_gives 20 rfl) fun v5 σ6 => ?_
        exact on_iret (tk_X11_gives 21 rfl)
  · refine on_bipush (tk_X11_gives 7 rfl) bp_m2 ?_
    exact on_iret (tk_X11_gives 8 rfl)
def tb_X11_held : List (Nat × Nat × Nat × Instr) := [(0, 1, 1, .aload_n 0), (1, 3, 4, .getfield 16), (4, 1, 5, .iload_n 1), (5, 3, 8, .invokevirtual 177), (8, 3, 11, .ifCond .ne 6), (11, 2, 13, .bipush (-2)), (13, 1, 14, .ireturn), (14, 1, 15, .aload_n 0), (15, 3, 18, .getfield 16), (18, 1, 19, .iload_n 1), (19, 3, 22, .invokevirtual 207), (22, 1, 23, .istore_n 2), (23, 1, 24, .iload_n 2), (24, 1, 25, .iconst (-1)), (25, 3, 28, .if_icmp .eq 26), (28, 1, 29, .aload_n 0), (29, 3, 32, .getfield 16), (32, 1, 33, .iload_n 1), (33, 3, 36, .invokevirtual 186), (36, 1, 37, .aload_n 0), (37, 3, 40, .getfield 16), (40, 1, 41, .iload_n 2), (41, 3, 44, .invokevirtual 160), (44, 3, 47, .if_icmp .gt 7), (47, 1, 48, .iconst 1), (48, 3, 51, .goto 4), (51, 1, 52, .iconst 0), (52, 1, 53, .ireturn)]
set_option maxRecDepth 100000 in
theorem tk_X11_held (k : Nat) {pc n pc2 : Nat} {i : Instr} (hk : tb_X11_held[k]? = some (pc, n, pc2, i)) : on_dq cX11_held pc n pc2 i := on_ta (by decide +kernel) k hk
theorem ms_X11_held : on_Mv yX11_held cX11_held 3 (some .int) 1 := ⟨kw_4_99, kw_4_97, kw_4_98, kw_1_1, by decide, by decide, by decide +kernel⟩
def pf_X11_held_51 (σ : on_S) : Option on_O :=
  some (0, σ)
def pf_X11_held (p0 : Int) (σ : on_S) : Option on_O :=
  on_Cl (pf_X9_hasJumper 2 p0 σ) fun v1 σ2 =>
  on_Eq v1 0 (
    some ((-2), σ2)) (
    on_Cl (pf_X9_netBelow 2 p0 σ2) fun v3 σ4 =>
    on_Eq v3 (-1) (
      pf_X11_held_51 σ4) (
      on_Cl (pf_X9_forceOf 2 p0 σ4) fun v5 σ6 =>
      on_Cl (pf_X9_carriedNow 2 v3 σ6) fun v7 σ8 =>
      on_Le v5 v7 (
        some (1, σ8)) (
        pf_X11_held_51 σ8)))
set_option maxRecDepth 100000 in
set_option maxHeartbeats 4000000 in
theorem gb_X11_held_51 {E : on_E} {z n : Nat} (X : on_X) (hN : 100 ≤ n) (σ : on_S) : on_G X E cX11_held RX11 (some .int) 5 120 3 z n σ (pf_X11_held_51  σ) 51 [none, none, none] [] := by
  rw [pf_X11_held_51]
  refine on_iconst (tk_X11_held 26 rfl) ?_
  exact on_iret (tk_X11_held 27 rfl)
set_option maxRecDepth 100000 in
set_option maxHeartbeats 4000000 in
theorem ct_X11_held {E : on_E} {z n : Nat} {p0 : Int} (hN : 100 ≤ n) {σ : on_S} : on_Sp E yX11_held cX11_held 3 (some .int) 5 120 z n [.ref (z + 0), .int (on_i p0)] σ (pf_X11_held p0 σ) := by
  refine on_met [some (.ref (z + 0)), some (.int (on_i p0)), none] (by decide) rfl rfl (fun X => ?_)
  rw [pf_X11_held]
  refine on_al0 (tk_X11_held 0 rfl) ?_
  refine fg_11_2 hN kw_2_181 (tk_X11_held 1 rfl) ?_
  refine on_il1 (tk_X11_held 2 rfl) ?_
  refine on_cV1z 9 ms_X9_hasJumper kw_4_52 rfl rfl (ltS_0 (on_Sb2 hN)) (shS_0 (on_Sb2 hN)) (ct_X9_hasJumper hN (on_Sb2 hN)) rfl (tk_X11_held 3 rfl) fun v1 σ2 => ?_
  refine on_if_ne (tk_X11_held 4 rfl) (tgt := 14) (by decide) ?_ ?_
  · refine on_bipush (tk_X11_held 5 rfl) bp_m2 ?_
    exact on_iret (tk_X11_held 6 rfl)
  · refine on_al0 (tk_X11_held 7 rfl) ?_
    refine fg_11_2 hN kw_2_181 (tk_X11_held 8 rfl) ?_
    refine on_il1 (tk_X11_held 9 rfl) ?_
    refine on_cV1i 9 ms_X9_netBelow kw_4_100 rfl rfl (ltS_0 (on_Sb2 hN)) (shS_0 (on_Sb2 hN)) (ct_X9_netBelow hN (on_Sb2 hN)) rfl (tk_X11_held 10 rfl) fun v3 σ4 => ?_
    refine on_is2 rfl (tk_X11_held 11 rfl) ?_
    refine on_il2 (tk_X11_held 12 rfl) ?_
    refine on_iconst (tk_X11_held 13 rfl) ?_
    refine on_icmp_eq (tk_X11_held 14 rfl) (tgt := 51) (by decide) ?_ ?_
    · refine on_al0 (tk_X11_held 15 rfl) ?_
      refine fg_11_2 hN kw_2_181 (tk_X11_held 16 rfl) ?_
      refine on_il1 (tk_X11_held 17 rfl) ?_
      refine on_cV1i 9 ms_X9_forceOf kw_4_56 rfl rfl (ltS_0 (on_Sb2 hN)) (shS_0 (on_Sb2 hN)) (ct_X9_forceOf hN (on_Sb2 hN)) rfl (tk_X11_held 18 rfl) fun v5 σ6 => ?_
      refine on_al0 (tk_X11_held 19 rfl) ?_
      refine fg_11_2 hN kw_2_181 (tk_X11_held 20 rfl) ?_
      refine on_il2 (tk_X11_held 21 rfl) ?_
      refine on_cV1i 9 ms_X9_carriedNow kw_4_6 rfl rfl (ltS_0 (on_Sb2 hN)) (shS_0 (on_Sb2 hN)) (ct_X9_carriedNow hN (on_Sb2 hN)) rfl (tk_X11_held 22 rfl) fun v7 σ8 => ?_
      refine on_icmp_gt (tk_X11_held 23 rfl) (tgt := 51) (by decide) ?_ ?_
      · refine on_iconst (tk_X11_held 24 rfl) ?_
        refine on_goto (tk_X11_held 25 rfl) (tgt := 52) (by decide) ?_
        exact on_iret (tk_X11_held 27 rfl)
      · refine on_dr0 ?_
        refine on_dr1 ?_
        refine on_dr2 ?_
        exact gb_X11_held_51 X  hN _
    · refine on_dr0 ?_
      refine on_dr1 ?_
      refine on_dr2 ?_
      exact gb_X11_held_51 X  hN _
def tb_X11_heaviest : List (Nat × Nat × Nat × Instr) := [(0, 1, 1, .aload_n 0), (1, 3, 4, .getfield 16), (4, 1, 5, .iload_n 1), (5, 3, 8, .invokevirtual 138), (8, 3, 11, .ifCond .ne 6), (11, 2, 13, .bipush (-2)), (13, 1, 14, .ireturn), (14, 1, 15, .aload_n 0), (15, 3, 18, .getfield 16), (18, 1, 19, .iload_n 1), (19, 3, 22, .invokevirtual 160), (22, 1, 23, .iconst 1), (23, 1, 24, .aload_n 0), (24, 3, 27, .getfield 16), (27, 1, 28, .iload_n 1), (28, 3, 31, .invokevirtual 210), (31, 3, 34, .invokestatic 213), (34, 1, 35, .idiv), (35, 1, 36, .ireturn)]
set_option maxRecDepth 100000 in
theorem tk_X11_heaviest (k : Nat) {pc n pc2 : Nat} {i : Instr} (hk : tb_X11_heaviest[k]? = some (pc, n, pc2, i)) : on_dq cX11_heaviest pc n pc2 i := on_ta (by decide +kernel) k hk
theorem ms_X11_heaviest : on_Mv yX11_heaviest cX11_heaviest 2 (some .int) 1 := ⟨kw_4_107, kw_4_105, kw_4_106, kw_1_1, by decide, by decide, by decide +kernel⟩
def pf_X11_heaviest (p0 : Int) (σ : on_S) : Option on_O :=
  on_Cl (pf_X9_hasNet 2 p0 σ) fun v1 σ2 =>
  on_Eq v1 0 (
    some ((-2), σ2)) (
    on_Cl (pf_X9_carriedNow 2 p0 σ2) fun v3 σ4 =>
    on_Cl (pf_X9_storeyOf 2 p0 σ4) fun v5 σ6 =>
    on_Mx 1 v5 fun v7 =>
    on_Dv v3 v7 fun v8 =>
    some (v8, σ6))
set_option maxRecDepth 100000 in
set_option maxHeartbeats 4000000 in
theorem ct_X11_heaviest {E : on_E} {z n : Nat} {p0 : Int} (hN : 100 ≤ n) {σ : on_S} : on_Sp E yX11_heaviest cX11_heaviest 2 (some .int) 5 120 z n [.ref (z + 0), .int (on_i p0)] σ (pf_X11_heaviest p0 σ) := by
  refine on_met [some (.ref (z + 0)), some (.int (on_i p0))] (by decide) rfl rfl (fun X => ?_)
  rw [pf_X11_heaviest]
  refine on_al0 (tk_X11_heaviest 0 rfl) ?_
  refine fg_11_2 hN kw_2_181 (tk_X11_heaviest 1 rfl) ?_
  refine on_il1 (tk_X11_heaviest 2 rfl) ?_
  refine on_cV1z 9 ms_X9_hasNet kw_3_231 rfl rfl (ltS_0 (on_Sb2 hN)) (shS_0 (on_Sb2 hN)) (ct_X9_hasNet hN (on_Sb2 hN)) rfl (tk_X11_heaviest 3 rfl) fun v1 σ2 => ?_
  refine on_if_ne (tk_X11_heaviest 4 rfl) (tgt := 14) (by decide) ?_ ?_
  · refine on_bipush (tk_X11_heaviest 5 rfl) bp_m2 ?_
    exact on_iret (tk_X11_heaviest 6 rfl)
  · refine on_al0 (tk_X11_heaviest 7 rfl) ?_
    refine fg_11_2 hN kw_2_181 (tk_X11_heaviest 8 rfl) ?_
    refine on_il1 (tk_X11_heaviest 9 rfl) ?_
    refine on_cV1i 9 ms_X9_carriedNow kw_4_6 rfl rfl (ltS_0 (on_Sb2 hN)) (shS_0 (on_Sb2 hN)) (ct_X9_carriedNow hN (on_Sb2 hN)) rfl (tk_X11_heaviest 10 rfl) fun v3 σ4 => ?_
    refine on_iconst (tk_X11_heaviest 11 rfl) ?_
    refine on_al0 (tk_X11_heaviest 12 rfl) ?_
    refine fg_11_2 hN kw_2_181 (tk_X11_heaviest 13 rfl) ?_
    refine on_il1 (tk_X11_heaviest 14 rfl) ?_
    refine on_cV1i 9 ms_X9_storeyOf kw_4_108 rfl rfl (ltS_0 (on_Sb2 hN)) (shS_0 (on_Sb2 hN)) (ct_X9_storeyOf hN (on_Sb2 hN)) rfl (tk_X11_heaviest 15 rfl) fun v5 σ6 => ?_
    refine on_max kw_4_112 kwM_max_s kwM_i kwM_max_c rfl (tk_X11_heaviest 16 rfl) fun v7 => ?_
    refine on_idiv (tk_X11_heaviest 17 rfl) fun v8 => ?_
    exact on_iret (tk_X11_heaviest 18 rfl)
def tb_X11_highest : List (Nat × Nat × Nat × Instr) := [(0, 1, 1, .aload_n 0), (1, 3, 4, .getfield 16), (4, 1, 5, .iload_n 1), (5, 3, 8, .invokevirtual 138), (8, 3, 11, .ifCond .eq 14), (11, 1, 12, .iload_n 2), (12, 1, 13, .iconst 1), (13, 3, 16, .if_icmp .lt 9), (16, 1, 17, .iload_n 2), (17, 2, 19, .bipush 99), (19, 3, 22, .if_icmp .le 6), (22, 2, 24, .bipush (-2)), (24, 1, 25, .ireturn), (25, 2, 27, .bipush 6), (27, 1, 28, .aload_n 0), (28, 3, 31, .getfield 16), (31, 1, 32, .iload_n 1), (32, 3, 35, .invokevirtual 160), (35, 1, 36, .iload_n 2), (36, 1, 37, .idiv), (37, 3, 40, .invokestatic 218), (40, 1, 41, .ireturn)]
set_option maxRecDepth 100000 in
theorem tk_X11_highest (k : Nat) {pc n pc2 : Nat} {i : Instr} (hk : tb_X11_highest[k]? = some (pc, n, pc2, i)) : on_dq cX11_highest pc n pc2 i := on_ta (by decide +kernel) k hk
theorem ms_X11_highest : on_Mv yX11_highest cX11_highest 3 (some .int) 2 := ⟨kw_4_116, kw_4_114, kw_4_115, kw_1_1, by decide, by decide, by decide +kernel⟩
def pf_X11_highest (p0 : Int) (p1 : Int) (σ : on_S) : Option on_O :=
  on_Cl (pf_X9_hasNet 2 p0 σ) fun v1 σ2 =>
  on_Eq v1 0 (
    some ((-2), σ2)) (
    on_Lt p1 1 (
      some ((-2), σ2)) (
      on_Le p1 99 (
        on_Cl (pf_X9_carriedNow 2 p0 σ2) fun v3 σ4 =>
        on_Dv v3 p1 fun v5 =>
        on_Mn 6 v5 fun v6 =>
        some (v6, σ4)) (
        some ((-2), σ2))))
set_option maxRecDepth 100000 in
set_option maxHeartbeats 4000000 in
theorem ct_X11_highest {E : on_E} {z n : Nat} {p0 : Int} {p1 : Int} (hN : 100 ≤ n) {σ : on_S} : on_Sp E yX11_highest cX11_highest 3 (some .int) 5 120 z n [.ref (z + 0), .int (on_i p0), .int (on_i p1)] σ (pf_X11_highest p0 p1 σ) := by
  refine on_met [some (.ref (z + 0)), some (.int (on_i p0)), some (.int (on_i p1))] (by decide) rfl rfl (fun X => ?_)
  rw [pf_X11_highest]
  refine on_al0 (tk_X11_highest 0 rfl) ?_
  refine fg_11_2 hN kw_2_181 (tk_X11_highest 1 rfl) ?_
  refine on_il1 (tk_X11_highest 2 rfl) ?_
  refine on_cV1z 9 ms_X9_hasNet kw_3_231 rfl rfl (ltS_0 (on_Sb2 hN)) (shS_0 (on_Sb2 hN)) (ct_X9_hasNet hN (on_Sb2 hN)) rfl (tk_X11_highest 3 rfl) fun v1 σ2 => ?_
  refine on_if_eq (tk_X11_highest 4 rfl) (tgt := 22) (by decide) ?_ ?_
  · refine on_il2 (tk_X11_highest 5 rfl) ?_
    refine on_iconst (tk_X11_highest 6 rfl) ?_
    refine on_icmp_lt (tk_X11_highest 7 rfl) (tgt := 22) (by decide) ?_ ?_
    · refine on_il2 (tk_X11_highest 8 rfl) ?_
      refine on_bipush (tk_X11_highest 9 rfl) bp_99 ?_
      refine on_icmp_le (tk_X11_highest 10 rfl) (tgt := 25) (by decide) ?_ ?_
      · refine on_bipush (tk_X11_highest 11 rfl) bp_m2 ?_
        exact on_iret (tk_X11_highest 12 rfl)
      · refine on_bipush (tk_X11_highest 13 rfl) bp_6 ?_
        refine on_al0 (tk_X11_highest 14 rfl) ?_
        refine fg_11_2 hN kw_2_181 (tk_X11_highest 15 rfl) ?_
        refine on_il1 (tk_X11_highest 16 rfl) ?_
        refine on_cV1i 9 ms_X9_carriedNow kw_4_6 rfl rfl (ltS_0 (on_Sb2 hN)) (shS_0 (on_Sb2 hN)) (ct_X9_carriedNow hN (on_Sb2 hN)) rfl (tk_X11_highest 17 rfl) fun v3 σ4 => ?_
        refine on_il2 (tk_X11_highest 18 rfl) ?_
        refine on_idiv (tk_X11_highest 19 rfl) fun v5 => ?_
        refine on_min kw_4_117 kwM_min_s kwM_i kwM_min_c rfl (tk_X11_highest 20 rfl) fun v6 => ?_
        exact on_iret (tk_X11_highest 21 rfl)
    · refine on_bipush (tk_X11_highest 11 rfl) bp_m2 ?_
      exact on_iret (tk_X11_highest 12 rfl)
  · refine on_bipush (tk_X11_highest 11 rfl) bp_m2 ?_
    exact on_iret (tk_X11_highest 12 rfl)
def tb_X11_jump : List (Nat × Nat × Nat × Instr) := [(0, 1, 1, .aload_n 0), (1, 3, 4, .getfield 16), (4, 1, 5, .iload_n 1), (5, 3, 8, .invokevirtual 177), (8, 3, 11, .ifCond .ne 6), (11, 2, 13, .bipush (-2)), (13, 1, 14, .ireturn), (14, 1, 15, .aload_n 0), (15, 3, 18, .getfield 16), (18, 1, 19, .iload_n 1), (19, 3, 22, .invokevirtual 207), (22, 1, 23, .istore_n 2), (23, 1, 24, .iload_n 2), (24, 1, 25, .iconst (-1)), (25, 3, 28, .if_icmp .eq 18), (28, 1, 29, .aload_n 0), (29, 3, 32, .getfield 16), (32, 3, 35, .getfield 221), (35, 3, 38, .getfield 225), (38, 2, 40, .bipush 60), (40, 3, 43, .if_icmp .lt 6), (43, 2, 45, .bipush (-5)), (45, 1, 46, .ireturn), (46, 1, 47, .aload_n 0), (47, 3, 50, .getfield 16), (50, 3, 53, .getfield 221), (53, 1, 54, .iload_n 1), (54, 1, 55, .aload_n 0), (55, 3, 58, .getfield 16), (58, 3, 61, .getfield 141), (61, 3, 64, .getfield 167), (64, 1, 65, .iload_n 2), (65, 1, 66, .iconst 4), (66, 1, 67, .imul), (67, 3, 70, .invokevirtual 230), (70, 1, 71, .aload_n 0), (71, 3, 74, .getfield 16), (74, 3, 77, .invokevirtual 234), (77, 1, 78, .aload_n 0), (78, 3, 81, .getfield 16), (81, 1, 82, .iload_n 2), (82, 1, 83, .aload_n 0), (83, 3, 86, .getfield 16), (86, 1, 87, .iload_n 1), (87, 3, 90, .invokevirtual 186), (90, 3, 93, .invokevirtual 237), (93, 1, 94, .istore_n 3), (94, 1, 95, .aload_n 0), (95, 3, 98, .getfield 16), (98, 3, 101, .getfield 221), (101, 1, 102, .iload_n 3), (102, 3, 105, .invokevirtual 240), (105, 1, 106, .iload_n 3), (106, 1, 107, .iconst (-1)), (107, 3, 110, .if_icmp .ne 7), (110, 1, 111, .iconst 1), (111, 3, 114, .goto 4), (114, 1, 115, .iconst 0), (115, 1, 116, .ireturn)]
set_option maxRecDepth 100000 in
theorem tk_X11_jump (k : Nat) {pc n pc2 : Nat} {i : Instr} (hk : tb_X11_jump[k]? = some (pc, n, pc2, i)) : on_dq cX11_jump pc n pc2 i := on_ta (by decide +kernel) k hk
theorem ms_X11_jump : on_Mv yX11_jump cX11_jump 4 (some .int) 1 := ⟨kw_4_121, kw_4_119, kw_4_120, kw_1_1, by decide, by decide, by decide +kernel⟩
def pf_X11_jump (p0 : Int) (σ : on_S) : Option on_O :=
  on_Cl (pf_X9_hasJumper 2 p0 σ) fun v1 σ2 =>
  on_Eq v1 0 (
    some ((-2), σ2)) (
    on_Cl (pf_X9_netBelow 2 p0 σ2) fun v3 σ4 =>
    on_Eq v3 (-1) (
      some ((-5), σ4)) (
      on_Gt σ4 (2 + 20) 0 fun v5 =>
      on_Lt v5 60 (
        on_Cl (pf_X2_keep 2 p0 (2 + 18) 8 (v3 * 4) σ4) fun _ σ7 =>
        on_Cl (pf_X9_measureLeft 2 σ7) fun _ σ9 =>
        on_Cl (pf_X9_forceOf 2 p0 σ9) fun v10 σ11 =>
        on_Cl (pf_X9_fallInto 2 v3 v10 σ11) fun v12 σ13 =>
        on_Cl (pf_X2_close 2 v12 σ13) fun _ σ15 =>
        on_Eq v12 (-1) (
          some (1, σ15)) (
          some (0, σ15))) (
        some ((-5), σ4))))
set_option maxRecDepth 100000 in
set_option maxHeartbeats 4000000 in
theorem ct_X11_jump {E : on_E} {z n : Nat} {p0 : Int} (hN : 100 ≤ n) {σ : on_S} : on_Sp E yX11_jump cX11_jump 4 (some .int) 3 72 z n [.ref (z + 0), .int (on_i p0)] σ (pf_X11_jump p0 σ) := by
  refine on_met [some (.ref (z + 0)), some (.int (on_i p0)), none, none] (by decide) rfl rfl (fun X => ?_)
  rw [pf_X11_jump]
  refine on_al0 (tk_X11_jump 0 rfl) ?_
  refine fg_11_2 hN kw_2_181 (tk_X11_jump 1 rfl) ?_
  refine on_il1 (tk_X11_jump 2 rfl) ?_
  refine on_cV1z 9 ms_X9_hasJumper kw_4_52 rfl rfl (ltS_0 (on_Sb2 hN)) (shS_0 (on_Sb2 hN)) (ct_X9_hasJumper hN (on_Sb2 hN)) rfl (tk_X11_jump 3 rfl) fun v1 σ2 => ?_
  refine on_if_ne (tk_X11_jump 4 rfl) (tgt := 14) (by decide) ?_ ?_
  · refine on_bipush (tk_X11_jump 5 rfl) bp_m2 ?_
    exact on_iret (tk_X11_jump 6 rfl)
  · refine on_al0 (tk_X11_jump 7 rfl) ?_
    refine fg_11_2 hN kw_2_181 (tk_X11_jump 8 rfl) ?_
    refine on_il1 (tk_X11_jump 9 rfl) ?_
    refine on_cV1i 9 ms_X9_netBelow kw_4_100 rfl rfl (ltS_0 (on_Sb2 hN)) (shS_0 (on_Sb2 hN)) (ct_X9_netBelow hN (on_Sb2 hN)) rfl (tk_X11_jump 10 rfl) fun v3 σ4 => ?_
    refine on_is2 rfl (tk_X11_jump 11 rfl) ?_
    refine on_il2 (tk_X11_jump 12 rfl) ?_
    refine on_iconst (tk_X11_jump 13 rfl) ?_
    refine on_icmp_eq (tk_X11_jump 14 rfl) (tgt := 43) (by decide) ?_ ?_
    · refine on_al0 (tk_X11_jump 15 rfl) ?_
      refine fg_11_2 hN kw_2_181 (tk_X11_jump 16 rfl) ?_
      refine fg_9_14 (on_Sb2 hN) kw_1_198 (tk_X11_jump 17 rfl) ?_
      refine fg_2_0 (on_Sb2 hN) kw_1_136 (tk_X11_jump 18 rfl) fun v5 => ?_
      refine on_bipush (tk_X11_jump 19 rfl) bp_60 ?_
      refine on_icmp_lt (tk_X11_jump 20 rfl) (tgt := 46) (by decide) ?_ ?_
      · refine on_bipush (tk_X11_jump 21 rfl) bp_m5 ?_
        exact on_iret (tk_X11_jump 22 rfl)
      · refine on_al0 (tk_X11_jump 23 rfl) ?_
        refine fg_11_2 hN kw_2_181 (tk_X11_jump 24 rfl) ?_
        refine fg_9_14 (on_Sb2 hN) kw_1_198 (tk_X11_jump 25 rfl) ?_
        refine on_il1 (tk_X11_jump 26 rfl) ?_
        refine on_al0 (tk_X11_jump 27 rfl) ?_
        refine fg_11_2 hN kw_2_181 (tk_X11_jump 28 rfl) ?_
        refine fg_9_13 (on_Sb2 hN) kw_1_195 (tk_X11_jump 29 rfl) ?_
        refine fg_4_4 (on_Sb2 hN) kw_1_108 (tk_X11_jump 30 rfl) ?_
        refine on_il2 (tk_X11_jump 31 rfl) ?_
        refine on_iconst (tk_X11_jump 32 rfl) ?_
        refine on_imul (tk_X11_jump 33 rfl) ?_
        refine on_cV3v 2 ms_X2_keep kw_4_122 rfl rfl (ltS_20 (on_Sb2 hN)) (shS_20 (on_Sb2 hN)) (ct_X2_keep hN (on_Sb2 hN) (ltS_18 (on_Sb2 hN)) (shS_18 (on_Sb2 hN))) rfl (tk_X11_jump 34 rfl) fun v6 σ7 => ?_
        refine on_al0 (tk_X11_jump 35 rfl) ?_
        refine fg_11_2 hN kw_2_181 (tk_X11_jump 36 rfl) ?_
        refine on_cV0v 9 ms_X9_measureLeft kw_4_126 rfl rfl (ltS_0 (on_Sb2 hN)) (shS_0 (on_Sb2 hN)) (ct_X9_measureLeft hN (on_Sb2 hN)) rfl (tk_X11_jump 37 rfl) fun v8 σ9 => ?_
        refine on_al0 (tk_X11_jump 38 rfl) ?_
        refine fg_11_2 hN kw_2_181 (tk_X11_jump 39 rfl) ?_
        refine on_il2 (tk_X11_jump 40 rfl) ?_
        refine on_al0 (tk_X11_jump 41 rfl) ?_
        refine fg_11_2 hN kw_2_181 (tk_X11_jump 42 rfl) ?_
        refine on_il1 (tk_X11_jump 43 rfl) ?_
        refine on_cV1i 9 ms_X9_forceOf kw_4_56 rfl rfl (ltS_0 (on_Sb2 hN)) (shS_0 (on_Sb2 hN)) (ct_X9_forceOf hN (on_Sb2 hN)) rfl (tk_X11_jump 44 rfl) fun v10 σ11 => ?_
        refine on_cV2i 9 ms_X9_fallInto kw_4_130 rfl rfl (ltS_0 (on_Sb2 hN)) (shS_0 (on_Sb2 hN)) (ct_X9_fallInto hN (on_Sb2 hN)) rfl (tk_X11_jump 45 rfl) fun v12 σ13 => ?_
        refine on_is3 rfl (tk_X11_jump 46 rfl) ?_
        refine on_al0 (tk_X11_jump 47 rfl) ?_
        refine fg_11_2 hN kw_2_181 (tk_X11_jump 48 rfl) ?_
        refine fg_9_14 (on_Sb2 hN) kw_1_198 (tk_X11_jump 49 rfl) ?_
        refine on_il3 (tk_X11_jump 50 rfl) ?_
        refine on_cV1v 2 ms_X2_close kw_4_144 rfl rfl (ltS_20 (on_Sb2 hN)) (shS_20 (on_Sb2 hN)) (ct_X2_close hN (on_Sb2 hN)) rfl (tk_X11_jump 51 rfl) fun v14 σ15 => ?_
        refine on_il3 (tk_X11_jump 52 rfl) ?_
        refine on_iconst (tk_X11_jump 53 rfl) ?_
        refine on_icmp_ne (tk_X11_jump 54 rfl) (tgt := 114) (by decide) ?_ ?_
        · refine on_iconst (tk_X11_jump 55 rfl) ?_
          refine on_goto (tk_X11_jump 56 rfl) (tgt := 115) (by decide) ?_
          exact on_iret (tk_X11_jump 58 rfl)
        · refine on_iconst (tk_X11_jump 57 rfl) ?_
          exact on_iret (tk_X11_jump 58 rfl)
    · refine on_bipush (tk_X11_jump 21 rfl) bp_m5 ?_
      exact on_iret (tk_X11_jump 22 rfl)
def tb_X11_undo : List (Nat × Nat × Nat × Instr) := [(0, 1, 1, .aload_n 0), (1, 3, 4, .getfield 16), (4, 3, 7, .invokevirtual 243), (7, 3, 10, .ifCond .ne 6), (10, 2, 12, .bipush (-2)), (12, 1, 13, .ireturn), (13, 1, 14, .aload_n 0), (14, 3, 17, .getfield 16), (17, 3, 20, .getfield 221), (20, 3, 23, .getfield 225), (23, 1, 24, .iconst 1), (24, 1, 25, .isub), (25, 1, 26, .istore_n 1), (26, 1, 27, .iload_n 1), (27, 3, 30, .ifCond .ge 6), (30, 2, 32, .bipush (-5)), (32, 1, 33, .ireturn), (33, 1, 34, .aload_n 0), (34, 3, 37, .getfield 16), (37, 1, 38, .aload_n 0), (38, 3, 41, .getfield 16), (41, 3, 44, .getfield 221), (44, 3, 47, .getfield 247), (47, 1, 48, .iload_n 1), (48, 1, 49, .iaload), (49, 3, 52, .invokevirtual 207), (52, 1, 53, .istore_n 2), (53, 1, 54, .iload_n 2), (54, 1, 55, .iconst (-1)), (55, 3, 58, .if_icmp .eq 33), (58, 1, 59, .aload_n 0), (59, 3, 62, .getfield 16), (62, 3, 65, .getfield 221), (65, 3, 68, .getfield 250), (68, 1, 69, .iload_n 1), (69, 1, 70, .iconst 4), (70, 1, 71, .imul), (71, 1, 72, .aload_n 0), (72, 3, 75, .getfield 16), (75, 3, 78, .getfield 141), (78, 3, 81, .getfield 167), (81, 1, 82, .iload_n 2), (82, 1, 83, .iconst 4), (83, 1, 84, .imul), (84, 1, 85, .iconst 4), (85, 3, 88, .invokestatic 251), (88, 1, 89, .aload_n 0), (89, 3, 92, .getfield 16), (92, 3, 95, .getfield 221), (95, 1, 96, .iload_n 1), (96, 3, 99, .putfield 225), (99, 1, 100, .iload_n 1), (100, 1, 101, .ireturn)]
set_option maxRecDepth 100000 in
theorem tk_X11_undo (k : Nat) {pc n pc2 : Nat} {i : Instr} (hk : tb_X11_undo[k]? = some (pc, n, pc2, i)) : on_dq cX11_undo pc n pc2 i := on_ta (by decide +kernel) k hk
theorem ms_X11_undo : on_Mv yX11_undo cX11_undo 3 (some .int) 0 := ⟨kw_4_151, kw_4_149, kw_4_150, kw_1_1, by decide, by decide, by decide +kernel⟩
def pf_X11_undo_88 (l1 : Int) (σ : on_S) : Option on_O :=
  on_Pt σ (2 + 20) 0 l1 fun σ8 =>
  some (l1, σ8)
def pf_X11_undo (σ : on_S) : Option on_O :=
  on_Cl (pf_X9_isThere 2 σ) fun v1 σ2 =>
  on_Eq v1 0 (
    some ((-2), σ2)) (
    on_Gt σ2 (2 + 20) 0 fun v3 =>
    on_Lt (v3 - 1) 0 (
      some ((-5), σ2)) (
      on_Rd σ2 (2 + 21) 60 (v3 - 1) fun v4 =>
      on_Cl (pf_X9_netBelow 2 v4 σ2) fun v5 σ6 =>
      on_Eq v5 (-1) (
        pf_X11_undo_88 (v3 - 1) σ6) (
        on_Cp σ6 (2 + 23) 240 ((v3 - 1) * 4) (2 + 18) 8 (v5 * 4) 4 fun σ7 =>
        pf_X11_undo_88 (v3 - 1) σ7)))
set_option maxRecDepth 100000 in
set_option maxHeartbeats 4000000 in
theorem gb_X11_undo_88 {E : on_E} {z n : Nat} (X : on_X) (hN : 100 ≤ n) (l1 : Int) (σ : on_S) : on_G X E cX11_undo RX11 (some .int) 1 26 3 z n σ (pf_X11_undo_88 l1 σ) 88 [some (.ref (z + 0)), some (.int (on_i l1)), none] [] := by
  rw [pf_X11_undo_88]
  refine on_al0 (tk_X11_undo 46 rfl) ?_
  refine fg_11_2 hN kw_2_181 (tk_X11_undo 47 rfl) ?_
  refine fg_9_14 (on_Sb2 hN) kw_1_198 (tk_X11_undo 48 rfl) ?_
  refine on_il1 (tk_X11_undo 49 rfl) ?_
  refine fp_2_0 (on_Sb2 hN) kw_1_136 (tk_X11_undo 50 rfl) fun σ8 => ?_
  refine on_il1 (tk_X11_undo 51 rfl) ?_
  exact on_iret (tk_X11_undo 52 rfl)
set_option maxRecDepth 100000 in
set_option maxHeartbeats 4000000 in
theorem ct_X11_undo {E : on_E} {z n : Nat} (hN : 100 ≤ n) {σ : on_S} : on_Sp E yX11_undo cX11_undo 3 (some .int) 1 26 z n [.ref (z + 0)] σ (pf_X11_undo  σ) := by
  refine on_met [some (.ref (z + 0)), none, none] (by decide) rfl rfl (fun X => ?_)
  rw [pf_X11_undo]
  refine on_al0 (tk_X11_undo 0 rfl) ?_
  refine fg_11_2 hN kw_2_181 (tk_X11_undo 1 rfl) ?_
  refine on_cV0z 9 ms_X9_isThere kw_4_152 rfl rfl (ltS_0 (on_Sb2 hN)) (shS_0 (on_Sb2 hN)) (ct_X9_isThere hN (on_Sb2 hN)) rfl (tk_X11_undo 2 rfl) fun v1 σ2 => ?_
  refine on_if_ne (tk_X11_undo 3 rfl) (tgt := 13) (by decide) ?_ ?_
  · refine on_bipush (tk_X11_undo 4 rfl) bp_m2 ?_
    exact on_iret (tk_X11_undo 5 rfl)
  · refine on_al0 (tk_X11_undo 6 rfl) ?_
    refine fg_11_2 hN kw_2_181 (tk_X11_undo 7 rfl) ?_
    refine fg_9_14 (on_Sb2 hN) kw_1_198 (tk_X11_undo 8 rfl) ?_
    refine fg_2_0 (on_Sb2 hN) kw_1_136 (tk_X11_undo 9 rfl) fun v3 => ?_
    refine on_iconst (tk_X11_undo 10 rfl) ?_
    refine on_isub (tk_X11_undo 11 rfl) ?_
    refine on_is1 rfl (tk_X11_undo 12 rfl) ?_
    refine on_il1 (tk_X11_undo 13 rfl) ?_
    refine on_if_ge (tk_X11_undo 14 rfl) (tgt := 33) (by decide) ?_ ?_
    · refine on_bipush (tk_X11_undo 15 rfl) bp_m5 ?_
      exact on_iret (tk_X11_undo 16 rfl)
    · refine on_al0 (tk_X11_undo 17 rfl) ?_
      refine fg_11_2 hN kw_2_181 (tk_X11_undo 18 rfl) ?_
      refine on_al0 (tk_X11_undo 19 rfl) ?_
      refine fg_11_2 hN kw_2_181 (tk_X11_undo 20 rfl) ?_
      refine fg_9_14 (on_Sb2 hN) kw_1_198 (tk_X11_undo 21 rfl) ?_
      refine fg_2_1 (on_Sb2 hN) kw_1_138 (tk_X11_undo 22 rfl) ?_
      refine on_il1 (tk_X11_undo 23 rfl) ?_
      refine on_iald (ltS_21 (on_Sb2 hN)) (shS_21 (on_Sb2 hN)) (tk_X11_undo 24 rfl) fun v4 => ?_
      refine on_cV1i 9 ms_X9_netBelow kw_4_100 rfl rfl (ltS_0 (on_Sb2 hN)) (shS_0 (on_Sb2 hN)) (ct_X9_netBelow hN (on_Sb2 hN)) rfl (tk_X11_undo 25 rfl) fun v5 σ6 => ?_
      refine on_is2 rfl (tk_X11_undo 26 rfl) ?_
      refine on_il2 (tk_X11_undo 27 rfl) ?_
      refine on_iconst (tk_X11_undo 28 rfl) ?_
      refine on_icmp_eq (tk_X11_undo 29 rfl) (tgt := 88) (by decide) ?_ ?_
      · refine on_al0 (tk_X11_undo 30 rfl) ?_
        refine fg_11_2 hN kw_2_181 (tk_X11_undo 31 rfl) ?_
        refine fg_9_14 (on_Sb2 hN) kw_1_198 (tk_X11_undo 32 rfl) ?_
        refine fg_2_3 (on_Sb2 hN) kw_1_142 (tk_X11_undo 33 rfl) ?_
        refine on_il1 (tk_X11_undo 34 rfl) ?_
        refine on_iconst (tk_X11_undo 35 rfl) ?_
        refine on_imul (tk_X11_undo 36 rfl) ?_
        refine on_al0 (tk_X11_undo 37 rfl) ?_
        refine fg_11_2 hN kw_2_181 (tk_X11_undo 38 rfl) ?_
        refine fg_9_13 (on_Sb2 hN) kw_1_195 (tk_X11_undo 39 rfl) ?_
        refine fg_4_4 (on_Sb2 hN) kw_1_108 (tk_X11_undo 40 rfl) ?_
        refine on_il2 (tk_X11_undo 41 rfl) ?_
        refine on_iconst (tk_X11_undo 42 rfl) ?_
        refine on_imul (tk_X11_undo 43 rfl) ?_
        refine on_iconst (tk_X11_undo 44 rfl) ?_
        refine on_acpi kw_4_156 kwA_n kwA_s kwA_i (ltS_23 (on_Sb2 hN)) (ltS_18 (on_Sb2 hN)) (shS_23 (on_Sb2 hN)) (shS_18 (on_Sb2 hN)) rfl (tk_X11_undo 45 rfl) fun σ7 => ?_
        refine on_dr2 ?_
        exact gb_X11_undo_88 X  hN _ _
      · refine on_dr2 ?_
        exact gb_X11_undo_88 X  hN _ _
def tb_X11_led : List (Nat × Nat × Nat × Instr) := [(0, 1, 1, .aload_n 0), (1, 3, 4, .getfield 16), (4, 3, 7, .invokevirtual 243), (7, 3, 10, .ifCond .eq 12), (10, 1, 11, .iload_n 2), (11, 3, 14, .ifCond .lt 8), (14, 1, 15, .iload_n 2), (15, 1, 16, .iconst 2), (16, 3, 19, .if_icmp .le 6), (19, 2, 21, .bipush (-2)), (21, 1, 22, .ireturn), (22, 1, 23, .iload_n 1), (23, 3, 26, .ifCond .lt 17), (26, 1, 27, .iload_n 1), (27, 1, 28, .aload_n 0), (28, 3, 31, .getfield 16), (31, 3, 34, .getfield 221), (34, 3, 37, .getfield 225), (37, 3, 40, .if_icmp .lt 5), (40, 1, 41, .iconst (-1)), (41, 1, 42, .ireturn), (42, 1, 43, .iload_n 2), (43, 3, 46, .ifCond .ne 16), (46, 1, 47, .aload_n 0), (47, 3, 50, .getfield 16), (50, 3, 53, .getfield 221), (53, 3, 56, .getfield 247), (56, 1, 57, .iload_n 1), (57, 1, 58, .iaload), (58, 1, 59, .ireturn), (59, 1, 60, .aload_n 0), (60, 3, 63, .getfield 16), (63, 3, 66, .getfield 221), (66, 3, 69, .getfield 257), (69, 1, 70, .iload_n 1), (70, 1, 71, .iaload), (71, 1, 72, .istore_n 3), (72, 1, 73, .iload_n 2), (73, 1, 74, .iconst 1), (74, 3, 77, .if_icmp .ne 14), (77, 1, 78, .iload_n 3), (78, 1, 79, .iconst (-1)), (79, 3, 82, .if_icmp .ne 7), (82, 1, 83, .iconst 1), (83, 3, 86, .goto 4), (86, 1, 87, .iconst 0), (87, 1, 88, .ireturn), (88, 1, 89, .iload_n 3), (89, 1, 90, .ireturn)]
set_option maxRecDepth 100000 in
theorem tk_X11_led (k : Nat) {pc n pc2 : Nat} {i : Instr} (hk : tb_X11_led[k]? = some (pc, n, pc2, i)) : on_dq cX11_led pc n pc2 i := on_ta (by decide +kernel) k hk
theorem ms_X11_led : on_Mv yX11_led cX11_led 4 (some .int) 2 := ⟨kw_4_160, kw_4_158, kw_4_159, kw_1_1, by decide, by decide, by decide +kernel⟩
def pf_X11_led (p0 : Int) (p1 : Int) (σ : on_S) : Option on_O :=
  on_Cl (pf_X9_isThere 2 σ) fun v1 σ2 =>
  on_Eq v1 0 (
    some ((-2), σ2)) (
    on_Lt p1 0 (
      some ((-2), σ2)) (
      on_Le p1 2 (
        on_Lt p0 0 (
          some ((-1), σ2)) (
          on_Gt σ2 (2 + 20) 0 fun v3 =>
          on_Lt p0 v3 (
            on_Eq p1 0 (
              on_Rd σ2 (2 + 21) 60 p0 fun v4 =>
              some (v4, σ2)) (
              on_Rd σ2 (2 + 22) 60 p0 fun v5 =>
              on_Eq p1 1 (
                on_Eq v5 (-1) (
                  some (1, σ2)) (
                  some (0, σ2))) (
                some (v5, σ2)))) (
            some ((-1), σ2)))) (
        some ((-2), σ2))))
set_option maxRecDepth 100000 in
set_option maxHeartbeats 4000000 in
theorem ct_X11_led {E : on_E} {z n : Nat} {p0 : Int} {p1 : Int} (hN : 100 ≤ n) {σ : on_S} : on_Sp E yX11_led cX11_led 4 (some .int) 1 20 z n [.ref (z + 0), .int (on_i p0), .int (on_i p1)] σ (pf_X11_led p0 p1 σ) := by
  refine on_met [some (.ref (z + 0)), some (.int (on_i p0)), some (.int (on_i p1)), none] (by decide) rfl rfl (fun X => ?_)
  rw [pf_X11_led]
  refine on_al0 (tk_X11_led 0 rfl) ?_
  refine fg_11_2 hN kw_2_181 (tk_X11_led 1 rfl) ?_
  refine on_cV0z 9 ms_X9_isThere kw_4_152 rfl rfl (ltS_0 (on_Sb2 hN)) (shS_0 (on_Sb2 hN)) (ct_X9_isThere hN (on_Sb2 hN)) rfl (tk_X11_led 2 rfl) fun v1 σ2 => ?_
  refine on_if_eq (tk_X11_led 3 rfl) (tgt := 19) (by decide) ?_ ?_
  · refine on_il2 (tk_X11_led 4 rfl) ?_
    refine on_if_lt (tk_X11_led 5 rfl) (tgt := 19) (by decide) ?_ ?_
    · refine on_il2 (tk_X11_led 6 rfl) ?_
      refine on_iconst (tk_X11_led 7 rfl) ?_
      refine on_icmp_le (tk_X11_led 8 rfl) (tgt := 22) (by decide) ?_ ?_
      · refine on_bipush (tk_X11_led 9 rfl) bp_m2 ?_
        exact on_iret (tk_X11_led 10 rfl)
      · refine on_il1 (tk_X11_led 11 rfl) ?_
        refine on_if_lt (tk_X11_led 12 rfl) (tgt := 40) (by decide) ?_ ?_
        · refine on_il1 (tk_X11_led 13 rfl) ?_
          refine on_al0 (tk_X11_led 14 rfl) ?_
          refine fg_11_2 hN kw_2_181 (tk_X11_led 15 rfl) ?_
          refine fg_9_14 (on_Sb2 hN) kw_1_198 (tk_X11_led 16 rfl) ?_
          refine fg_2_0 (on_Sb2 hN) kw_1_136 (tk_X11_led 17 rfl) fun v3 => ?_
          refine on_icmp_lt (tk_X11_led 18 rfl) (tgt := 42) (by decide) ?_ ?_
          · refine on_iconst (tk_X11_led 19 rfl) ?_
            exact on_iret (tk_X11_led 20 rfl)
          · refine on_il2 (tk_X11_led 21 rfl) ?_
            refine on_if_ne (tk_X11_led 22 rfl) (tgt := 59) (by decide) ?_ ?_
            · refine on_al0 (tk_X11_led 23 rfl) ?_
              refine fg_11_2 hN kw_2_181 (tk_X11_led 24 rfl) ?_
              refine fg_9_14 (on_Sb2 hN) kw_1_198 (tk_X11_led 25 rfl) ?_
              refine fg_2_1 (on_Sb2 hN) kw_1_138 (tk_X11_led 26 rfl) ?_
              refine on_il1 (tk_X11_led 27 rfl) ?_
              refine on_iald (ltS_21 (on_Sb2 hN)) (shS_21 (on_Sb2 hN)) (tk_X11_led 28 rfl) fun v4 => ?_
              exact on_iret (tk_X11_led 29 rfl)
            · refine on_al0 (tk_X11_led 30 rfl) ?_
              refine fg_11_2 hN kw_2_181 (tk_X11_led 31 rfl) ?_
              refine fg_9_14 (on_Sb2 hN) kw_1_198 (tk_X11_led 32 rfl) ?_
              refine fg_2_2 (on_Sb2 hN) kw_1_140 (tk_X11_led 33 rfl) ?_
              refine on_il1 (tk_X11_led 34 rfl) ?_
              refine on_iald (ltS_22 (on_Sb2 hN)) (shS_22 (on_Sb2 hN)) (tk_X11_led 35 rfl) fun v5 => ?_
              refine on_is3 rfl (tk_X11_led 36 rfl) ?_
              refine on_il2 (tk_X11_led 37 rfl) ?_
              refine on_iconst (tk_X11_led 38 rfl) ?_
              refine on_icmp_ne (tk_X11_led 39 rfl) (tgt := 88) (by decide) ?_ ?_
              · refine on_il3 (tk_X11_led 40 rfl) ?_
                refine on_iconst (tk_X11_led 41 rfl) ?_
                refine on_icmp_ne (tk_X11_led 42 rfl) (tgt := 86) (by decide) ?_ ?_
                · refine on_iconst (tk_X11_led 43 rfl) ?_
                  refine on_goto (tk_X11_led 44 rfl) (tgt := 87) (by decide) ?_
                  exact on_iret (tk_X11_led 46 rfl)
                · refine on_iconst (tk_X11_led 45 rfl) ?_
                  exact on_iret (tk_X11_led 46 rfl)
              · refine on_il3 (tk_X11_led 47 rfl) ?_
                exact on_iret (tk_X11_led 48 rfl)
        · refine on_iconst (tk_X11_led 19 rfl) ?_
          exact on_iret (tk_X11_led 20 rfl)
    · refine on_bipush (tk_X11_led 9 rfl) bp_m2 ?_
      exact on_iret (tk_X11_led 10 rfl)
  · refine on_bipush (tk_X11_led 9 rfl) bp_m2 ?_
    exact on_iret (tk_X11_led 10 rfl)
def tb_X11_lasts : List (Nat × Nat × Nat × Instr) := [(0, 1, 1, .aload_n 0), (1, 3, 4, .getfield 16), (4, 1, 5, .iload_n 1), (5, 3, 8, .invokevirtual 138), (8, 3, 11, .ifCond .eq 14), (11, 1, 12, .iload_n 2), (12, 1, 13, .iconst 1), (13, 3, 16, .if_icmp .lt 9), (16, 1, 17, .iload_n 2), (17, 2, 19, .bipush 99), (19, 3, 22, .if_icmp .le 6), (22, 2, 24, .bipush (-2)), (24, 1, 25, .ireturn), (25, 1, 26, .aload_n 0), (26, 3, 29, .getfield 70), (29, 1, 30, .iload_n 1), (30, 1, 31, .iload_n 2), (31, 1, 32, .aload_n 0), (32, 3, 35, .getfield 16), (35, 1, 36, .iload_n 1), (36, 3, 39, .invokevirtual 210), (39, 1, 40, .imul), (40, 3, 43, .invokevirtual 260), (43, 1, 44, .ireturn)]
set_option maxRecDepth 100000 in
theorem tk_X11_lasts (k : Nat) {pc n pc2 : Nat} {i : Instr} (hk : tb_X11_lasts[k]? = some (pc, n, pc2, i)) : on_dq cX11_lasts pc n pc2 i := on_ta (by decide +kernel) k hk
theorem ms_X11_lasts : on_Mv yX11_lasts cX11_lasts 3 (some .int) 2 := ⟨kw_4_164, kw_4_162, kw_4_163, kw_1_1, by decide, by decide, by decide +kernel⟩
def pf_X11_lasts (p0 : Int) (p1 : Int) (σ : on_S) : Option on_O :=
  on_Cl (pf_X9_hasNet 2 p0 σ) fun v1 σ2 =>
  on_Eq v1 0 (
    some ((-2), σ2)) (
    on_Lt p1 1 (
      some ((-2), σ2)) (
      on_Le p1 99 (
        on_Cl (pf_X9_storeyOf 2 p0 σ2) fun v3 σ4 =>
        on_Cl (pf_X5_jumpsHeld p0 (p1 * v3) σ4) fun v5 σ6 =>
        some (v5, σ6)) (
        some ((-2), σ2))))
set_option maxRecDepth 100000 in
set_option maxHeartbeats 4000000 in
theorem ct_X11_lasts {E : on_E} {z n : Nat} {p0 : Int} {p1 : Int} (hN : 100 ≤ n) {σ : on_S} : on_Sp E yX11_lasts cX11_lasts 3 (some .int) 6 143 z n [.ref (z + 0), .int (on_i p0), .int (on_i p1)] σ (pf_X11_lasts p0 p1 σ) := by
  refine on_met [some (.ref (z + 0)), some (.int (on_i p0)), some (.int (on_i p1))] (by decide) rfl rfl (fun X => ?_)
  rw [pf_X11_lasts]
  refine on_al0 (tk_X11_lasts 0 rfl) ?_
  refine fg_11_2 hN kw_2_181 (tk_X11_lasts 1 rfl) ?_
  refine on_il1 (tk_X11_lasts 2 rfl) ?_
  refine on_cV1z 9 ms_X9_hasNet kw_3_231 rfl rfl (ltS_0 (on_Sb2 hN)) (shS_0 (on_Sb2 hN)) (ct_X9_hasNet hN (on_Sb2 hN)) rfl (tk_X11_lasts 3 rfl) fun v1 σ2 => ?_
  refine on_if_eq (tk_X11_lasts 4 rfl) (tgt := 22) (by decide) ?_ ?_
  · refine on_il2 (tk_X11_lasts 5 rfl) ?_
    refine on_iconst (tk_X11_lasts 6 rfl) ?_
    refine on_icmp_lt (tk_X11_lasts 7 rfl) (tgt := 22) (by decide) ?_ ?_
    · refine on_il2 (tk_X11_lasts 8 rfl) ?_
      refine on_bipush (tk_X11_lasts 9 rfl) bp_99 ?_
      refine on_icmp_le (tk_X11_lasts 10 rfl) (tgt := 25) (by decide) ?_ ?_
      · refine on_bipush (tk_X11_lasts 11 rfl) bp_m2 ?_
        exact on_iret (tk_X11_lasts 12 rfl)
      · refine on_al0 (tk_X11_lasts 13 rfl) ?_
        refine fg_11_10 hN kw_2_189 (tk_X11_lasts 14 rfl) ?_
        refine on_il1 (tk_X11_lasts 15 rfl) ?_
        refine on_il2 (tk_X11_lasts 16 rfl) ?_
        refine on_al0 (tk_X11_lasts 17 rfl) ?_
        refine fg_11_2 hN kw_2_181 (tk_X11_lasts 18 rfl) ?_
        refine on_il1 (tk_X11_lasts 19 rfl) ?_
        refine on_cV1i 9 ms_X9_storeyOf kw_4_108 rfl rfl (ltS_0 (on_Sb2 hN)) (shS_0 (on_Sb2 hN)) (ct_X9_storeyOf hN (on_Sb2 hN)) rfl (tk_X11_lasts 20 rfl) fun v3 σ4 => ?_
        refine on_imul (tk_X11_lasts 21 rfl) ?_
        refine on_cV2i 5 ms_X5_jumpsHeld kw_4_165 rfl rfl (ltc_65 hN) sh_65 (ct_X5_jumpsHeld hN) rfl (tk_X11_lasts 22 rfl) fun v5 σ6 => ?_
        exact on_iret (tk_X11_lasts 23 rfl)
    · refine on_bipush (tk_X11_lasts 11 rfl) bp_m2 ?_
      exact on_iret (tk_X11_lasts 12 rfl)
  · refine on_bipush (tk_X11_lasts 11 rfl) bp_m2 ?_
    exact on_iret (tk_X11_lasts 12 rfl)
def tb_X11_stand : List (Nat × Nat × Nat × Instr) := [(0, 1, 1, .aload_n 0), (1, 3, 4, .getfield 16), (4, 1, 5, .iload_n 1), (5, 3, 8, .invokevirtual 119), (8, 3, 11, .ifCond .ne 6), (11, 2, 13, .bipush (-2)), (13, 1, 14, .ireturn), (14, 1, 15, .aload_n 0), (15, 3, 18, .getfield 16), (18, 1, 19, .iload_n 1), (19, 3, 22, .invokevirtual 263), (22, 2, 24, .istore 4), (24, 1, 25, .iload_n 2), (25, 1, 26, .iconst (-1)), (26, 3, 29, .if_icmp .ne 14), (29, 1, 30, .aload_n 0), (30, 3, 33, .getfield 16), (33, 1, 34, .iload_n 1), (34, 3, 37, .invokevirtual 266), (37, 2, 39, .iload 4), (39, 1, 40, .ireturn), (40, 1, 41, .aload_n 0), (41, 3, 44, .getfield 16), (44, 1, 45, .iload_n 2), (45, 1, 46, .iload_n 3), (46, 3, 49, .invokevirtual 163), (49, 3, 52, .ifCond .ne 6), (52, 2, 54, .bipush (-2)), (54, 1, 55, .ireturn), (55, 1, 56, .aload_n 0), (56, 3, 59, .getfield 16), (59, 3, 62, .getfield 141), (62, 3, 65, .getfield 170), (65, 1, 66, .iload_n 2), (66, 1, 67, .iconst 4), (67, 1, 68, .imul), (68, 1, 69, .iload_n 3), (69, 1, 70, .iadd), (70, 1, 71, .iaload), (71, 2, 73, .istore 5), (73, 2, 75, .iload 5), (75, 1, 76, .iconst (-1)), (76, 3, 79, .if_icmp .eq 12), (79, 2, 81, .iload 5), (81, 1, 82, .iload_n 1), (82, 3, 85, .if_icmp .eq 6), (85, 2, 87, .bipush (-2)), (87, 1, 88, .ireturn), (88, 1, 89, .aload_n 0), (89, 3, 92, .getfield 16), (92, 1, 93, .iload_n 1), (93, 3, 96, .invokevirtual 266), (96, 1, 97, .aload_n 0), (97, 3, 100, .getfield 16), (100, 1, 101, .iload_n 1), (101, 1, 102, .iload_n 2), (102, 1, 103, .iload_n 3), (103, 3, 106, .invokevirtual 269), (106, 2, 108, .iload 4), (108, 1, 109, .ireturn)]
set_option maxRecDepth 100000 in
theorem tk_X11_stand (k : Nat) {pc n pc2 : Nat} {i : Instr} (hk : tb_X11_stand[k]? = some (pc, n, pc2, i)) : on_dq cX11_stand pc n pc2 i := on_ta (by decide +kernel) k hk
theorem ms_X11_stand : on_Mv yX11_stand cX11_stand 6 (some .int) 3 := ⟨kw_4_184, kw_4_182, kw_4_183, kw_1_1, by decide, by decide, by decide +kernel⟩
def pf_X11_stand_88 (l1 : Int) (l2 : Int) (l3 : Int) (l4 : Int) (σ : on_S) : Option on_O :=
  on_Cl (pf_X9_takeAway 2 l1 σ) fun _ σ11 =>
  on_Cl (pf_X9_putAt 2 l1 l2 l3 σ11) fun _ σ13 =>
  some (l4, σ13)
def pf_X11_stand (p0 : Int) (p1 : Int) (p2 : Int) (σ : on_S) : Option on_O :=
  on_Cl (pf_X9_hasMan 2 p0 σ) fun v1 σ2 =>
  on_Eq v1 0 (
    some ((-2), σ2)) (
    on_Cl (pf_X9_placeOf 2 p0 σ2) fun v3 σ4 =>
    on_Eq p1 (-1) (
      on_Cl (pf_X9_takeAway 2 p0 σ4) fun _ σ6 =>
      some (v3, σ6)) (
      on_Cl (pf_X9_hasCorner 2 p1 p2 σ4) fun v7 σ8 =>
      on_Eq v7 0 (
        some ((-2), σ8)) (
        on_Rd σ8 (2 + 19) 8 ((p1 * 4) + p2) fun v9 =>
        on_Eq v9 (-1) (
          pf_X11_stand_88 p0 p1 p2 v3 σ8) (
          on_Eq v9 p0 (
            pf_X11_stand_88 p0 p1 p2 v3 σ8) (
            some ((-2), σ8))))))
set_option maxRecDepth 100000 in
set_option maxHeartbeats 4000000 in
theorem gb_X11_stand_88 {E : on_E} {z n : Nat} (X : on_X) (hN : 100 ≤ n) (l1 : Int) (l2 : Int) (l3 : Int) (l4 : Int) (σ : on_S) : on_G X E cX11_stand RX11 (some .int) 2 43 6 z n σ (pf_X11_stand_88 l1 l2 l3 l4 σ) 88 [some (.ref (z + 0)), some (.int (on_i l1)), some (.int (on_i l2)), some (.int (on_i l3)), some (.int (on_i l4)), none] [] := by
  rw [pf_X11_stand_88]
  refine on_al0 (tk_X11_stand 48 rfl) ?_
  refine fg_11_2 hN kw_2_181 (tk_X11_stand 49 rfl) ?_
  refine on_il1 (tk_X11_stand 50 rfl) ?_
  refine on_cV1v 9 ms_X9_takeAway kw_4_189 rfl rfl (ltS_0 (on_Sb2 hN)) (shS_0 (on_Sb2 hN)) (ct_X9_takeAway hN (on_Sb2 hN)) rfl (tk_X11_stand 51 rfl) fun v10 σ11 => ?_
  refine on_al0 (tk_X11_stand 52 rfl) ?_
  refine fg_11_2 hN kw_2_181 (tk_X11_stand 53 rfl) ?_
  refine on_il1 (tk_X11_stand 54 rfl) ?_
  refine on_il2 (tk_X11_stand 55 rfl) ?_
  refine on_il3 (tk_X11_stand 56 rfl) ?_
  refine on_cV3v 9 ms_X9_putAt kw_4_193 rfl rfl (ltS_0 (on_Sb2 hN)) (shS_0 (on_Sb2 hN)) (ct_X9_putAt hN (on_Sb2 hN)) rfl (tk_X11_stand 57 rfl) fun v12 σ13 => ?_
  refine on_il4 (tk_X11_stand 58 rfl) ?_
  exact on_iret (tk_X11_stand 59 rfl)
set_option maxRecDepth 100000 in
set_option maxHeartbeats 4000000 in
theorem ct_X11_stand {E : on_E} {z n : Nat} {p0 : Int} {p1 : Int} {p2 : Int} (hN : 100 ≤ n) {σ : on_S} : on_Sp E yX11_stand cX11_stand 6 (some .int) 2 43 z n [.ref (z + 0), .int (on_i p0), .int (on_i p1), .int (on_i p2)] σ (pf_X11_stand p0 p1 p2 σ) := by
  refine on_met [some (.ref (z + 0)), some (.int (on_i p0)), some (.int (on_i p1)), some (.int (on_i p2)), none, none] (by decide) rfl rfl (fun X => ?_)
  rw [pf_X11_stand]
  refine on_al0 (tk_X11_stand 0 rfl) ?_
  refine fg_11_2 hN kw_2_181 (tk_X11_stand 1 rfl) ?_
  refine on_il1 (tk_X11_stand 2 rfl) ?_
  refine on_cV1z 9 ms_X9_hasMan kw_3_223 rfl rfl (ltS_0 (on_Sb2 hN)) (shS_0 (on_Sb2 hN)) (ct_X9_hasMan hN (on_Sb2 hN)) rfl (tk_X11_stand 3 rfl) fun v1 σ2 => ?_
  refine on_if_ne (tk_X11_stand 4 rfl) (tgt := 14) (by decide) ?_ ?_
  · refine on_bipush (tk_X11_stand 5 rfl) bp_m2 ?_
    exact on_iret (tk_X11_stand 6 rfl)
  · refine on_al0 (tk_X11_stand 7 rfl) ?_
    refine fg_11_2 hN kw_2_181 (tk_X11_stand 8 rfl) ?_
    refine on_il1 (tk_X11_stand 9 rfl) ?_
    refine on_cV1i 9 ms_X9_placeOf kw_4_185 rfl rfl (ltS_0 (on_Sb2 hN)) (shS_0 (on_Sb2 hN)) (ct_X9_placeOf hN (on_Sb2 hN)) rfl (tk_X11_stand 10 rfl) fun v3 σ4 => ?_
    refine on_is4 rfl (tk_X11_stand 11 rfl) ?_
    refine on_il2 (tk_X11_stand 12 rfl) ?_
    refine on_iconst (tk_X11_stand 13 rfl) ?_
    refine on_icmp_ne (tk_X11_stand 14 rfl) (tgt := 40) (by decide) ?_ ?_
    · refine on_al0 (tk_X11_stand 15 rfl) ?_
      refine fg_11_2 hN kw_2_181 (tk_X11_stand 16 rfl) ?_
      refine on_il1 (tk_X11_stand 17 rfl) ?_
      refine on_cV1v 9 ms_X9_takeAway kw_4_189 rfl rfl (ltS_0 (on_Sb2 hN)) (shS_0 (on_Sb2 hN)) (ct_X9_takeAway hN (on_Sb2 hN)) rfl (tk_X11_stand 18 rfl) fun v5 σ6 => ?_
      refine on_il4 (tk_X11_stand 19 rfl) ?_
      exact on_iret (tk_X11_stand 20 rfl)
    · refine on_al0 (tk_X11_stand 21 rfl) ?_
      refine fg_11_2 hN kw_2_181 (tk_X11_stand 22 rfl) ?_
      refine on_il2 (tk_X11_stand 23 rfl) ?_
      refine on_il3 (tk_X11_stand 24 rfl) ?_
      refine on_cV2z 9 ms_X9_hasCorner kw_4_39 rfl rfl (ltS_0 (on_Sb2 hN)) (shS_0 (on_Sb2 hN)) (ct_X9_hasCorner hN (on_Sb2 hN)) rfl (tk_X11_stand 25 rfl) fun v7 σ8 => ?_
      refine on_if_ne (tk_X11_stand 26 rfl) (tgt := 55) (by decide) ?_ ?_
      · refine on_bipush (tk_X11_stand 27 rfl) bp_m2 ?_
        exact on_iret (tk_X11_stand 28 rfl)
      · refine on_al0 (tk_X11_stand 29 rfl) ?_
        refine fg_11_2 hN kw_2_181 (tk_X11_stand 30 rfl) ?_
        refine fg_9_13 (on_Sb2 hN) kw_1_195 (tk_X11_stand 31 rfl) ?_
        refine fg_4_5 (on_Sb2 hN) kw_1_112 (tk_X11_stand 32 rfl) ?_
        refine on_il2 (tk_X11_stand 33 rfl) ?_
        refine on_iconst (tk_X11_stand 34 rfl) ?_
        refine on_imul (tk_X11_stand 35 rfl) ?_
        refine on_il3 (tk_X11_stand 36 rfl) ?_
        refine on_iadd (tk_X11_stand 37 rfl) ?_
        refine on_iald (ltS_19 (on_Sb2 hN)) (shS_19 (on_Sb2 hN)) (tk_X11_stand 38 rfl) fun v9 => ?_
        refine on_is5 rfl (tk_X11_stand 39 rfl) ?_
        refine on_il5 (tk_X11_stand 40 rfl) ?_
        refine on_iconst (tk_X11_stand 41 rfl) ?_
        refine on_icmp_eq (tk_X11_stand 42 rfl) (tgt := 88) (by decide) ?_ ?_
        · refine on_il5 (tk_X11_stand 43 rfl) ?_
          refine on_il1 (tk_X11_stand 44 rfl) ?_
          refine on_icmp_eq (tk_X11_stand 45 rfl) (tgt := 88) (by decide) ?_ ?_
          · refine on_bipush (tk_X11_stand 46 rfl) bp_m2 ?_
            exact on_iret (tk_X11_stand 47 rfl)
          · refine on_dr5 ?_
            exact gb_X11_stand_88 X  hN _ _ _ _ _
        · refine on_dr5 ?_
          exact gb_X11_stand_88 X  hN _ _ _ _ _
def tb_X11_change : List (Nat × Nat × Nat × Instr) := [(0, 1, 1, .aload_n 0), (1, 3, 4, .getfield 16), (4, 1, 5, .iload_n 1), (5, 1, 6, .iload_n 2), (6, 3, 9, .invokevirtual 189), (9, 3, 12, .ifCond .ne 6), (12, 2, 14, .bipush (-2)), (14, 1, 15, .ireturn), (15, 1, 16, .aload_n 0), (16, 3, 19, .getfield 16), (19, 1, 20, .iload_n 1), (20, 1, 21, .iload_n 2), (21, 3, 24, .invokevirtual 273), (24, 1, 25, .iconst 0), (25, 1, 26, .ireturn)]
set_option maxRecDepth 100000 in
theorem tk_X11_change (k : Nat) {pc n pc2 : Nat} {i : Instr} (hk : tb_X11_change[k]? = some (pc, n, pc2, i)) : on_dq cX11_change pc n pc2 i := on_ta (by decide +kernel) k hk
theorem ms_X11_change : on_Mv yX11_change cX11_change 3 (some .int) 2 := ⟨kw_4_197, kw_4_195, kw_4_196, kw_1_1, by decide, by decide, by decide +kernel⟩
def pf_X11_change (p0 : Int) (p1 : Int) (σ : on_S) : Option on_O :=
  on_Cl (pf_X9_hasTwoMen 2 p0 p1 σ) fun v1 σ2 =>
  on_Eq v1 0 (
    some ((-2), σ2)) (
    on_Cl (pf_X9_swapPlaces 2 p0 p1 σ2) fun _ σ4 =>
    some (0, σ4))
set_option maxRecDepth 100000 in
set_option maxHeartbeats 4000000 in
theorem ct_X11_change {E : on_E} {z n : Nat} {p0 : Int} {p1 : Int} (hN : 100 ≤ n) {σ : on_S} : on_Sp E yX11_change cX11_change 3 (some .int) 2 49 z n [.ref (z + 0), .int (on_i p0), .int (on_i p1)] σ (pf_X11_change p0 p1 σ) := by
  refine on_met [some (.ref (z + 0)), some (.int (on_i p0)), some (.int (on_i p1))] (by decide) rfl rfl (fun X => ?_)
  rw [pf_X11_change]
  refine on_al0 (tk_X11_change 0 rfl) ?_
  refine fg_11_2 hN kw_2_181 (tk_X11_change 1 rfl) ?_
  refine on_il1 (tk_X11_change 2 rfl) ?_
  refine on_il2 (tk_X11_change 3 rfl) ?_
  refine on_cV2z 9 ms_X9_hasTwoMen kw_4_61 rfl rfl (ltS_0 (on_Sb2 hN)) (shS_0 (on_Sb2 hN)) (ct_X9_hasTwoMen hN (on_Sb2 hN)) rfl (tk_X11_change 4 rfl) fun v1 σ2 => ?_
  refine on_if_ne (tk_X11_change 5 rfl) (tgt := 15) (by decide) ?_ ?_
  · refine on_bipush (tk_X11_change 6 rfl) bp_m2 ?_
    exact on_iret (tk_X11_change 7 rfl)
  · refine on_al0 (tk_X11_change 8 rfl) ?_
    refine fg_11_2 hN kw_2_181 (tk_X11_change 9 rfl) ?_
    refine on_il1 (tk_X11_change 10 rfl) ?_
    refine on_il2 (tk_X11_change 11 rfl) ?_
    refine on_cV2v 9 ms_X9_swapPlaces kw_4_198 rfl rfl (ltS_0 (on_Sb2 hN)) (shS_0 (on_Sb2 hN)) (ct_X9_swapPlaces hN (on_Sb2 hN)) rfl (tk_X11_change 12 rfl) fun v3 σ4 => ?_
    refine on_iconst (tk_X11_change 13 rfl) ?_
    exact on_iret (tk_X11_change 14 rfl)
def tb_X11_standingRefused : List (Nat × Nat × Nat × Instr) := [(0, 1, 1, .aload_n 0), (1, 3, 4, .getfield 16), (4, 1, 5, .iload_n 1), (5, 3, 8, .invokevirtual 138), (8, 3, 11, .ifCond .ne 6), (11, 2, 13, .bipush (-2)), (13, 1, 14, .ireturn), (14, 1, 15, .aload_n 0), (15, 3, 18, .getfield 16), (18, 3, 21, .getfield 122), (21, 3, 24, .getfield 287), (24, 1, 25, .iconst 4), (25, 3, 28, .if_icmp .ge 8), (28, 2, 30, .bipush (-6)), (30, 3, 33, .goto 4), (33, 1, 34, .iconst 0), (34, 1, 35, .ireturn)]
set_option maxRecDepth 100000 in
theorem tk_X11_standingRefused (k : Nat) {pc n pc2 : Nat} {i : Instr} (hk : tb_X11_standingRefused[k]? = some (pc, n, pc2, i)) : on_dq cX11_standingRefused pc n pc2 i := on_ta (by decide +kernel) k hk
theorem ms_X11_standingRefused : on_Mv yX11_standingRefused cX11_standingRefused 2 (some .int) 1 := ⟨kw_4_211, kw_4_210, (on_mp (q := (yX11_standingRefused, 12)) (by decide +kernel)), kw_1_1, by decide, by decide, by decide +kernel⟩
def pf_X11_standingRefused (p0 : Int) (σ : on_S) : Option on_O :=
  on_Cl (pf_X9_hasNet 2 p0 σ) fun v1 σ2 =>
  on_Eq v1 0 (
    some ((-2), σ2)) (
    on_Gt σ2 (2 + 8) 0 fun v3 =>
    on_Lt v3 4 (
      some ((-6), σ2)) (
      some (0, σ2)))
set_option maxRecDepth 100000 in
set_option maxHeartbeats 4000000 in
theorem ct_X11_standingRefused {E : on_E} {z n : Nat} {p0 : Int} (hN : 100 ≤ n) {σ : on_S} : on_Sp E yX11_standingRefused cX11_standingRefused 2 (some .int) 1 21 z n [.ref (z + 0), .int (on_i p0)] σ (pf_X11_standingRefused p0 σ) := by
  refine on_met [some (.ref (z + 0)), some (.int (on_i p0))] (by decide) rfl rfl (fun X => ?_)
  rw [pf_X11_standingRefused]
  refine on_al0 (tk_X11_standingRefused 0 rfl) ?_
  refine fg_11_2 hN kw_2_181 (tk_X11_standingRefused 1 rfl) ?_
  refine on_il1 (tk_X11_standingRefused 2 rfl) ?_
  refine on_cV1z 9 ms_X9_hasNet kw_3_231 rfl rfl (ltS_0 (on_Sb2 hN)) (shS_0 (on_Sb2 hN)) (ct_X9_hasNet hN (on_Sb2 hN)) rfl (tk_X11_standingRefused 3 rfl) fun v1 σ2 => ?_
  refine on_if_ne (tk_X11_standingRefused 4 rfl) (tgt := 14) (by decide) ?_ ?_
  · refine on_bipush (tk_X11_standingRefused 5 rfl) bp_m2 ?_
    exact on_iret (tk_X11_standingRefused 6 rfl)
  · refine on_al0 (tk_X11_standingRefused 7 rfl) ?_
    refine fg_11_2 hN kw_2_181 (tk_X11_standingRefused 8 rfl) ?_
    refine fg_9_12 (on_Sb2 hN) kw_1_188 (tk_X11_standingRefused 9 rfl) ?_
    refine fg_3_0 (on_Sb2 hN) kw_1_47 (tk_X11_standingRefused 10 rfl) fun v3 => ?_
    refine on_iconst (tk_X11_standingRefused 11 rfl) ?_
    refine on_icmp_ge (tk_X11_standingRefused 12 rfl) (tgt := 33) (by decide) ?_ ?_
    · refine on_bipush (tk_X11_standingRefused 13 rfl) bp_m6 ?_
      refine on_goto (tk_X11_standingRefused 14 rfl) (tgt := 34) (by decide) ?_
      exact on_iret (tk_X11_standingRefused 16 rfl)
    · refine on_iconst (tk_X11_standingRefused 15 rfl) ?_
      exact on_iret (tk_X11_standingRefused 16 rfl)
def tb_X11_best : List (Nat × Nat × Nat × Instr) := [(0, 1, 1, .aload_n 0), (1, 1, 2, .iload_n 1), (2, 3, 5, .invokevirtual 277), (5, 1, 6, .istore_n 2), (6, 1, 7, .iload_n 2), (7, 3, 10, .ifCond .eq 5), (10, 1, 11, .iload_n 2), (11, 1, 12, .ireturn), (12, 1, 13, .aload_n 0), (13, 3, 16, .getfield 47), (16, 1, 17, .iload_n 1), (17, 1, 18, .aload_n 0), (18, 3, 21, .getfield 16), (21, 3, 24, .getfield 141), (24, 3, 27, .getfield 145), (27, 1, 28, .iload_n 1), (28, 1, 29, .iaload), (29, 3, 32, .invokevirtual 280), (32, 1, 33, .aload_n 0), (33, 3, 36, .getfield 47), (36, 3, 39, .invokevirtual 283), (39, 1, 40, .ireturn)]
set_option maxRecDepth 100000 in
theorem tk_X11_best (k : Nat) {pc n pc2 : Nat} {i : Instr} (hk : tb_X11_best[k]? = some (pc, n, pc2, i)) : on_dq cX11_best pc n pc2 i := on_ta (by decide +kernel) k hk
theorem ms_X11_best : on_Mv yX11_best cX11_best 3 (some .int) 1 := ⟨kw_4_207, kw_4_205, kw_4_206, kw_1_1, by decide, by decide, by decide +kernel⟩
def pf_X11_best (p0 : Int) (σ : on_S) : Option on_O :=
  on_Cl (pf_X11_standingRefused p0 σ) fun v1 σ2 =>
  on_Eq v1 0 (
    on_Rd σ2 (2 + 15) 2 p0 fun v3 =>
    on_Cl (pf_X7_prepare p0 v3 σ2) fun _ σ5 =>
    on_Cl (pf_X7_mostCarried σ5) fun v6 σ7 =>
    some (v6, σ7)) (
    some (v1, σ2))
set_option maxRecDepth 100000 in
set_option maxHeartbeats 4000000 in
theorem ct_X11_best {E : on_E} {z n : Nat} {p0 : Int} (hN : 100 ≤ n) {σ : on_S} : on_Sp E yX11_best cX11_best 3 (some .int) 4 96 z n [.ref (z + 0), .int (on_i p0)] σ (pf_X11_best p0 σ) := by
  refine on_met [some (.ref (z + 0)), some (.int (on_i p0)), none] (by decide) rfl rfl (fun X => ?_)
  rw [pf_X11_best]
  refine on_al0 (tk_X11_best 0 rfl) ?_
  refine on_il1 (tk_X11_best 1 rfl) ?_
  refine on_cV1i 11 ms_X11_standingRefused kw_4_208 rfl rfl (ltc_0 hN) sh_0 (ct_X11_standingRefused hN) rfl (tk_X11_best 2 rfl) fun v1 σ2 => ?_
  refine on_is2 rfl (tk_X11_best 3 rfl) ?_
  refine on_il2 (tk_X11_best 4 rfl) ?_
  refine on_if_eq (tk_X11_best 5 rfl) (tgt := 12) (by decide) ?_ ?_
  · refine on_il2 (tk_X11_best 6 rfl) ?_
    exact on_iret (tk_X11_best 7 rfl)
  · refine on_al0 (tk_X11_best 8 rfl) ?_
    refine fg_11_7 hN kw_2_186 (tk_X11_best 9 rfl) ?_
    refine on_il1 (tk_X11_best 10 rfl) ?_
    refine on_al0 (tk_X11_best 11 rfl) ?_
    refine fg_11_2 hN kw_2_181 (tk_X11_best 12 rfl) ?_
    refine fg_9_13 (on_Sb2 hN) kw_1_195 (tk_X11_best 13 rfl) ?_
    refine fg_4_1 (on_Sb2 hN) kw_1_93 (tk_X11_best 14 rfl) ?_
    refine on_il1 (tk_X11_best 15 rfl) ?_
    refine on_iald (ltS_15 (on_Sb2 hN)) (shS_15 (on_Sb2 hN)) (tk_X11_best 16 rfl) fun v3 => ?_
    refine on_cV2v 7 ms_X7_prepare kw_4_212 rfl rfl (ltc_55 hN) sh_55 (ct_X7_prepare hN) rfl (tk_X11_best 17 rfl) fun v4 σ5 => ?_
    refine on_al0 (tk_X11_best 18 rfl) ?_
    refine fg_11_7 hN kw_2_186 (tk_X11_best 19 rfl) ?_
    refine on_cV0i 7 ms_X7_mostCarried kw_4_219 rfl rfl (ltc_55 hN) sh_55 (ct_X7_mostCarried hN) rfl (tk_X11_best 20 rfl) fun v6 σ7 => ?_
    exact on_iret (tk_X11_best 21 rfl)
def tb_X11_post : List (Nat × Nat × Nat × Instr) := [(0, 1, 1, .aload_n 0), (1, 3, 4, .getfield 16), (4, 1, 5, .iload_n 1), (5, 1, 6, .iload_n 2), (6, 3, 9, .invokevirtual 163), (9, 3, 12, .ifCond .ne 6), (12, 2, 14, .bipush (-2)), (14, 1, 15, .ireturn), (15, 1, 16, .aload_n 0), (16, 1, 17, .iload_n 1), (17, 3, 20, .invokevirtual 277), (20, 1, 21, .istore_n 3), (21, 1, 22, .iload_n 3), (22, 3, 25, .ifCond .eq 5), (25, 1, 26, .iload_n 3), (26, 1, 27, .ireturn), (27, 1, 28, .aload_n 0), (28, 3, 31, .getfield 47), (31, 1, 32, .iload_n 1), (32, 1, 33, .aload_n 0), (33, 3, 36, .getfield 16), (36, 3, 39, .getfield 141), (39, 3, 42, .getfield 145), (42, 1, 43, .iload_n 1), (43, 1, 44, .iaload), (44, 3, 47, .invokevirtual 280), (47, 1, 48, .aload_n 0), (48, 3, 51, .getfield 47), (51, 3, 54, .invokevirtual 288), (54, 1, 55, .iload_n 2), (55, 3, 58, .invokestatic 291), (58, 1, 59, .ireturn)]
set_option maxRecDepth 100000 in
theorem tk_X11_post (k : Nat) {pc n pc2 : Nat} {i : Instr} (hk : tb_X11_post[k]? = some (pc, n, pc2, i)) : on_dq cX11_post pc n pc2 i := on_ta (by decide +kernel) k hk
theorem ms_X11_post : on_Mv yX11_post cX11_post 4 (some .int) 2 := ⟨kw_5_3, kw_5_1, kw_5_2, kw_1_1, by decide, by decide, by decide +kernel⟩
def pf_X11_post (p0 : Int) (p1 : Int) (σ : on_S) : Option on_O :=
  on_Cl (pf_X9_hasCorner 2 p0 p1 σ) fun v1 σ2 =>
  on_Eq v1 0 (
    some ((-2), σ2)) (
    on_Cl (pf_X11_standingRefused p0 σ2) fun v3 σ4 =>
    on_Eq v3 0 (
      on_Rd σ4 (2 + 15) 2 p0 fun v5 =>
      on_Cl (pf_X7_prepare p0 v5 σ4) fun _ σ7 =>
      on_Cl (pf_X7_firstBest σ7) fun v8 σ9 =>
      on_Cl (pf_X7_manOf v8 p1 σ9) fun v10 σ11 =>
      some (v10, σ11)) (
      some (v3, σ4)))
set_option maxRecDepth 100000 in
set_option maxHeartbeats 4000000 in
theorem ct_X11_post {E : on_E} {z n : Nat} {p0 : Int} {p1 : Int} (hN : 100 ≤ n) {σ : on_S} : on_Sp E yX11_post cX11_post 4 (some .int) 3 76 z n [.ref (z + 0), .int (on_i p0), .int (on_i p1)] σ (pf_X11_post p0 p1 σ) := by
  refine on_met [some (.ref (z + 0)), some (.int (on_i p0)), some (.int (on_i p1)), none] (by decide) rfl rfl (fun X => ?_)
  rw [pf_X11_post]
  refine on_al0 (tk_X11_post 0 rfl) ?_
  refine fg_11_2 hN kw_2_181 (tk_X11_post 1 rfl) ?_
  refine on_il1 (tk_X11_post 2 rfl) ?_
  refine on_il2 (tk_X11_post 3 rfl) ?_
  refine on_cV2z 9 ms_X9_hasCorner kw_4_39 rfl rfl (ltS_0 (on_Sb2 hN)) (shS_0 (on_Sb2 hN)) (ct_X9_hasCorner hN (on_Sb2 hN)) rfl (tk_X11_post 4 rfl) fun v1 σ2 => ?_
  refine on_if_ne (tk_X11_post 5 rfl) (tgt := 15) (by decide) ?_ ?_
  · refine on_bipush (tk_X11_post 6 rfl) bp_m2 ?_
    exact on_iret (tk_X11_post 7 rfl)
  · refine on_al0 (tk_X11_post 8 rfl) ?_
    refine on_il1 (tk_X11_post 9 rfl) ?_
    refine on_cV1i 11 ms_X11_standingRefused kw_4_208 rfl rfl (ltc_0 hN) sh_0 (ct_X11_standingRefused hN) rfl (tk_X11_post 10 rfl) fun v3 σ4 => ?_
    refine on_is3 rfl (tk_X11_post 11 rfl) ?_
    refine on_il3 (tk_X11_post 12 rfl) ?_
    refine on_if_eq (tk_X11_post 13 rfl) (tgt := 27) (by decide) ?_ ?_
    · refine on_il3 (tk_X11_post 14 rfl) ?_
      exact on_iret (tk_X11_post 15 rfl)
    · refine on_al0 (tk_X11_post 16 rfl) ?_
      refine fg_11_7 hN kw_2_186 (tk_X11_post 17 rfl) ?_
      refine on_il1 (tk_X11_post 18 rfl) ?_
      refine on_al0 (tk_X11_post 19 rfl) ?_
      refine fg_11_2 hN kw_2_181 (tk_X11_post 20 rfl) ?_
      refine fg_9_13 (on_Sb2 hN) kw_1_195 (tk_X11_post 21 rfl) ?_
      refine fg_4_1 (on_Sb2 hN) kw_1_93 (tk_X11_post 22 rfl) ?_
      refine on_il1 (tk_X11_post 23 rfl) ?_
      refine on_iald (ltS_15 (on_Sb2 hN)) (shS_15 (on_Sb2 hN)) (tk_X11_post 24 rfl) fun v5 => ?_
      refine on_cV2v 7 ms_X7_prepare kw_4_212 rfl rfl (ltc_55 hN) sh_55 (ct_X7_prepare hN) rfl (tk_X11_post 25 rfl) fun v6 σ7 => ?_
      refine on_al0 (tk_X11_post 26 rfl) ?_
      refine fg_11_7 hN kw_2_186 (tk_X11_post 27 rfl) ?_
      refine on_cV0i 7 ms_X7_firstBest kw_5_4 rfl rfl (ltc_55 hN) sh_55 (ct_X7_firstBest hN) rfl (tk_X11_post 28 rfl) fun v8 σ9 => ?_
      refine on_il2 (tk_X11_post 29 rfl) ?_
      refine on_cS2i ms_X7_manOf kw_5_5 (ct_X7_manOf hN) rfl (tk_X11_post 30 rfl) fun v10 σ11 => ?_
      exact on_iret (tk_X11_post 31 rfl)
def tb_X11_rows : List (Nat × Nat × Nat × Instr) := [(0, 1, 1, .iload_n 2), (1, 3, 4, .ifCond .ge 6), (4, 2, 6, .bipush (-2)), (6, 1, 7, .ireturn), (7, 1, 8, .aload_n 0), (8, 1, 9, .iload_n 1), (9, 3, 12, .invokevirtual 277), (12, 1, 13, .istore_n 3), (13, 1, 14, .iload_n 3), (14, 3, 17, .ifCond .eq 5), (17, 1, 18, .iload_n 3), (18, 1, 19, .ireturn), (19, 1, 20, .aload_n 0), (20, 3, 23, .getfield 47), (23, 1, 24, .iload_n 1), (24, 1, 25, .aload_n 0), (25, 3, 28, .getfield 16), (28, 3, 31, .getfield 141), (31, 3, 34, .getfield 145), (34, 1, 35, .iload_n 1), (35, 1, 36, .iaload), (36, 3, 39, .invokevirtual 280), (39, 1, 40, .aload_n 0), (40, 3, 43, .getfield 47), (43, 1, 44, .iload_n 2), (44, 3, 47, .invokevirtual 294), (47, 1, 48, .ireturn)]
set_option maxRecDepth 100000 in
theorem tk_X11_rows (k : Nat) {pc n pc2 : Nat} {i : Instr} (hk : tb_X11_rows[k]? = some (pc, n, pc2, i)) : on_dq cX11_rows pc n pc2 i := on_ta (by decide +kernel) k hk
theorem ms_X11_rows : on_Mv yX11_rows cX11_rows 4 (some .int) 2 := ⟨kw_5_9, kw_5_7, kw_5_8, kw_1_1, by decide, by decide, by decide +kernel⟩
def pf_X11_rows (p0 : Int) (p1 : Int) (σ : on_S) : Option on_O :=
  on_Lt p1 0 (
    some ((-2), σ)) (
    on_Cl (pf_X11_standingRefused p0 σ) fun v1 σ2 =>
    on_Eq v1 0 (
      on_Rd σ2 (2 + 15) 2 p0 fun v3 =>
      on_Cl (pf_X7_prepare p0 v3 σ2) fun _ σ5 =>
      on_Cl (pf_X7_rowsCarrying p1 σ5) fun v6 σ7 =>
      some (v6, σ7)) (
      some (v1, σ2)))
set_option maxRecDepth 100000 in
set_option maxHeartbeats 4000000 in
theorem ct_X11_rows {E : on_E} {z n : Nat} {p0 : Int} {p1 : Int} (hN : 100 ≤ n) {σ : on_S} : on_Sp E yX11_rows cX11_rows 4 (some .int) 3 76 z n [.ref (z + 0), .int (on_i p0), .int (on_i p1)] σ (pf_X11_rows p0 p1 σ) := by
  refine on_met [some (.ref (z + 0)), some (.int (on_i p0)), some (.int (on_i p1)), none] (by decide) rfl rfl (fun X => ?_)
  rw [pf_X11_rows]
  refine on_il2 (tk_X11_rows 0 rfl) ?_
  refine on_if_ge (tk_X11_rows 1 rfl) (tgt := 7) (by decide) ?_ ?_
  · refine on_bipush (tk_X11_rows 2 rfl) bp_m2 ?_
    exact on_iret (tk_X11_rows 3 rfl)
  · refine on_al0 (tk_X11_rows 4 rfl) ?_
    refine on_il1 (tk_X11_rows 5 rfl) ?_
    refine on_cV1i 11 ms_X11_standingRefused kw_4_208 rfl rfl (ltc_0 hN) sh_0 (ct_X11_standingRefused hN) rfl (tk_X11_rows 6 rfl) fun v1 σ2 => ?_
    refine on_is3 rfl (tk_X11_rows 7 rfl) ?_
    refine on_il3 (tk_X11_rows 8 rfl) ?_
    refine on_if_eq (tk_X11_rows 9 rfl) (tgt := 19) (by decide) ?_ ?_
    · refine on_il3 (tk_X11_rows 10 rfl) ?_
      exact on_iret (tk_X11_rows 11 rfl)
    · refine on_al0 (tk_X11_rows 12 rfl) ?_
      refine fg_11_7 hN kw_2_186 (tk_X11_rows 13 rfl) ?_
      refine on_il1 (tk_X11_rows 14 rfl) ?_
      refine on_al0 (tk_X11_rows 15 rfl) ?_
      refine fg_11_2 hN kw_2_181 (tk_X11_rows 16 rfl) ?_
      refine fg_9_13 (on_Sb2 hN) kw_1_195 (tk_X11_rows 17 rfl) ?_
      refine fg_4_1 (on_Sb2 hN) kw_1_93 (tk_X11_rows 18 rfl) ?_
      refine on_il1 (tk_X11_rows 19 rfl) ?_
      refine on_iald (ltS_15 (on_Sb2 hN)) (shS_15 (on_Sb2 hN)) (tk_X11_rows 20 rfl) fun v3 => ?_
      refine on_cV2v 7 ms_X7_prepare kw_4_212 rfl rfl (ltc_55 hN) sh_55 (ct_X7_prepare hN) rfl (tk_X11_rows 21 rfl) fun v4 σ5 => ?_
      refine on_al0 (tk_X11_rows 22 rfl) ?_
      refine fg_11_7 hN kw_2_186 (tk_X11_rows 23 rfl) ?_
      refine on_il2 (tk_X11_rows 24 rfl) ?_
      refine on_cV1i 7 ms_X7_rowsCarrying kw_5_10 rfl rfl (ltc_55 hN) sh_55 (ct_X7_rowsCarrying hN) rfl (tk_X11_rows 25 rfl) fun v6 σ7 => ?_
      exact on_iret (tk_X11_rows 26 rfl)
def tb_X11_safe : List (Nat × Nat × Nat × Instr) := [(0, 1, 1, .aload_n 0), (1, 3, 4, .getfield 16), (4, 3, 7, .invokevirtual 243), (7, 3, 10, .ifCond .ne 6), (10, 2, 12, .bipush (-2)), (12, 1, 13, .ireturn), (13, 1, 14, .aload_n 0), (14, 3, 17, .getfield 56), (17, 3, 20, .invokevirtual 297), (20, 1, 21, .aload_n 0), (21, 3, 24, .getfield 56), (24, 3, 27, .getfield 300), (27, 1, 28, .ireturn)]
set_option maxRecDepth 100000 in
theorem tk_X11_safe (k : Nat) {pc n pc2 : Nat} {i : Instr} (hk : tb_X11_safe[k]? = some (pc, n, pc2, i)) : on_dq cX11_safe pc n pc2 i := on_ta (by decide +kernel) k hk
theorem ms_X11_safe : on_Mv yX11_safe cX11_safe 1 (some .int) 0 := ⟨kw_5_17, kw_5_15, kw_5_16, kw_1_1, by decide, by decide, by decide +kernel⟩
def pf_X11_safe (σ : on_S) : Option on_O :=
  on_Cl (pf_X9_isThere 2 σ) fun v1 σ2 =>
  on_Eq v1 0 (
    some ((-2), σ2)) (
    on_Cl (pf_X1_seek σ2) fun _ σ4 =>
    on_Gt σ4 59 5 fun v5 =>
    some (v5, σ4))
set_option maxRecDepth 100000 in
set_option maxHeartbeats 4000000 in
theorem ct_X11_safe {E : on_E} {z n : Nat} (hN : 100 ≤ n) {σ : on_S} : on_Sp E yX11_safe cX11_safe 1 (some .int) 4 100 z n [.ref (z + 0)] σ (pf_X11_safe  σ) := by
  refine on_met [some (.ref (z + 0))] (by decide) rfl rfl (fun X => ?_)
  rw [pf_X11_safe]
  refine on_al0 (tk_X11_safe 0 rfl) ?_
  refine fg_11_2 hN kw_2_181 (tk_X11_safe 1 rfl) ?_
  refine on_cV0z 9 ms_X9_isThere kw_4_152 rfl rfl (ltS_0 (on_Sb2 hN)) (shS_0 (on_Sb2 hN)) (ct_X9_isThere hN (on_Sb2 hN)) rfl (tk_X11_safe 2 rfl) fun v1 σ2 => ?_
  refine on_if_ne (tk_X11_safe 3 rfl) (tgt := 13) (by decide) ?_ ?_
  · refine on_bipush (tk_X11_safe 4 rfl) bp_m2 ?_
    exact on_iret (tk_X11_safe 5 rfl)
  · refine on_al0 (tk_X11_safe 6 rfl) ?_
    refine fg_11_8 hN kw_2_187 (tk_X11_safe 7 rfl) ?_
    refine on_cV0v 1 ms_X1_seek kw_5_18 rfl rfl (ltc_59 hN) sh_59 (ct_X1_seek hN) rfl (tk_X11_safe 8 rfl) fun v3 σ4 => ?_
    refine on_al0 (tk_X11_safe 9 rfl) ?_
    refine fg_11_8 hN kw_2_187 (tk_X11_safe 10 rfl) ?_
    refine fg_1_5 hN kw_2_73 (tk_X11_safe 11 rfl) fun v5 => ?_
    exact on_iret (tk_X11_safe 12 rfl)
def tb_X11_placed : List (Nat × Nat × Nat × Instr) := [(0, 1, 1, .aload_n 0), (1, 3, 4, .getfield 16), (4, 1, 5, .iload_n 1), (5, 1, 6, .iload_n 2), (6, 3, 9, .invokevirtual 163), (9, 3, 12, .ifCond .ne 6), (12, 2, 14, .bipush (-2)), (14, 1, 15, .ireturn), (15, 1, 16, .aload_n 0), (16, 3, 19, .getfield 56), (19, 3, 22, .invokevirtual 297), (22, 1, 23, .iload_n 1), (23, 3, 26, .ifCond .ne 13), (26, 1, 27, .aload_n 0), (27, 3, 30, .getfield 56), (30, 3, 33, .getfield 303), (33, 3, 36, .goto 10), (36, 1, 37, .aload_n 0), (37, 3, 40, .getfield 56), (40, 3, 43, .getfield 306), (43, 1, 44, .istore_n 3), (44, 1, 45, .iload_n 3), (45, 1, 46, .iconst (-1)), (46, 3, 49, .if_icmp .ne 7), (49, 1, 50, .iconst (-1)), (50, 3, 53, .goto 8), (53, 1, 54, .iload_n 3), (54, 1, 55, .iload_n 2), (55, 3, 58, .invokestatic 291), (58, 1, 59, .ireturn)]
set_option maxRecDepth 100000 in
theorem tk_X11_placed (k : Nat) {pc n pc2 : Nat} {i : Instr} (hk : tb_X11_placed[k]? = some (pc, n, pc2, i)) : on_dq cX11_placed pc n pc2 i := on_ta (by decide +kernel) k hk
theorem ms_X11_placed : on_Mv yX11_placed cX11_placed 4 (some .int) 2 := ⟨kw_5_62, kw_5_60, kw_5_61, kw_1_1, by decide, by decide, by decide +kernel⟩
def pf_X11_placed_43 (l2 : Int) (s0 : Int) (σ : on_S) : Option on_O :=
  on_Eq s0 (-1) (
    some ((-1), σ)) (
    on_Cl (pf_X7_manOf s0 l2 σ) fun v6 σ7 =>
    some (v6, σ7))
def pf_X11_placed (p0 : Int) (p1 : Int) (σ : on_S) : Option on_O :=
  on_Cl (pf_X9_hasCorner 2 p0 p1 σ) fun v1 σ2 =>
  on_Eq v1 0 (
    some ((-2), σ2)) (
    on_Cl (pf_X1_seek σ2) fun _ σ4 =>
    on_Eq p0 0 (
      on_Gt σ4 59 7 fun v5 =>
      pf_X11_placed_43 p1 v5 σ4) (
      on_Gt σ4 59 8 fun v8 =>
      pf_X11_placed_43 p1 v8 σ4))
set_option maxRecDepth 100000 in
set_option maxHeartbeats 4000000 in
theorem gb_X11_placed_43 {E : on_E} {z n : Nat} (X : on_X) (hN : 100 ≤ n) (l2 : Int) (s0 : Int) (σ : on_S) : on_G X E cX11_placed RX11 (some .int) 4 100 4 z n σ (pf_X11_placed_43 l2 s0 σ) 43 [none, none, some (.int (on_i l2)), none] [.int (on_i s0)] := by
  rw [pf_X11_placed_43]
  refine on_is3 rfl (tk_X11_placed 20 rfl) ?_
  refine on_il3 (tk_X11_placed 21 rfl) ?_
  refine on_iconst (tk_X11_placed 22 rfl) ?_
  refine on_icmp_ne (tk_X11_placed 23 rfl) (tgt := 53) (by decide) ?_ ?_
  · refine on_iconst (tk_X11_placed 24 rfl) ?_
    refine on_goto (tk_X11_placed 25 rfl) (tgt := 58) (by decide) ?_
    exact on_iret (tk_X11_placed 29 rfl)
  · refine on_il3 (tk_X11_placed 26 rfl) ?_
    refine on_il2 (tk_X11_placed 27 rfl) ?_
    refine on_cS2i ms_X7_manOf kw_5_5 (ct_X7_manOf hN) rfl (tk_X11_placed 28 rfl) fun v6 σ7 => ?_
    exact on_iret (tk_X11_placed 29 rfl)
set_option maxRecDepth 100000 in
set_option maxHeartbeats 4000000 in
theorem ct_X11_placed {E : on_E} {z n : Nat} {p0 : Int} {p1 : Int} (hN : 100 ≤ n) {σ : on_S} : on_Sp E yX11_placed cX11_placed 4 (some .int) 4 100 z n [.ref (z + 0), .int (on_i p0), .int (on_i p1)] σ (pf_X11_placed p0 p1 σ) := by
  refine on_met [some (.ref (z + 0)), some (.int (on_i p0)), some (.int (on_i p1)), none] (by decide) rfl rfl (fun X => ?_)
  rw [pf_X11_placed]
  refine on_al0 (tk_X11_placed 0 rfl) ?_
  refine fg_11_2 hN kw_2_181 (tk_X11_placed 1 rfl) ?_
  refine on_il1 (tk_X11_placed 2 rfl) ?_
  refine on_il2 (tk_X11_placed 3 rfl) ?_
  refine on_cV2z 9 ms_X9_hasCorner kw_4_39 rfl rfl (ltS_0 (on_Sb2 hN)) (shS_0 (on_Sb2 hN)) (ct_X9_hasCorner hN (on_Sb2 hN)) rfl (tk_X11_placed 4 rfl) fun v1 σ2 => ?_
  refine on_if_ne (tk_X11_placed 5 rfl) (tgt := 15) (by decide) ?_ ?_
  · refine on_bipush (tk_X11_placed 6 rfl) bp_m2 ?_
    exact on_iret (tk_X11_placed 7 rfl)
  · refine on_al0 (tk_X11_placed 8 rfl) ?_
    refine fg_11_8 hN kw_2_187 (tk_X11_placed 9 rfl) ?_
    refine on_cV0v 1 ms_X1_seek kw_5_18 rfl rfl (ltc_59 hN) sh_59 (ct_X1_seek hN) rfl (tk_X11_placed 10 rfl) fun v3 σ4 => ?_
    refine on_il1 (tk_X11_placed 11 rfl) ?_
    refine on_if_ne (tk_X11_placed 12 rfl) (tgt := 36) (by decide) ?_ ?_
    · refine on_al0 (tk_X11_placed 13 rfl) ?_
      refine fg_11_8 hN kw_2_187 (tk_X11_placed 14 rfl) ?_
      refine fg_1_7 hN kw_2_77 (tk_X11_placed 15 rfl) fun v5 => ?_
      refine on_goto (tk_X11_placed 16 rfl) (tgt := 43) (by decide) ?_
      refine on_dr0 ?_
      refine on_dr1 ?_
      exact gb_X11_placed_43 X  hN _ _ _
    · refine on_al0 (tk_X11_placed 17 rfl) ?_
      refine fg_11_8 hN kw_2_187 (tk_X11_placed 18 rfl) ?_
      refine fg_1_8 hN kw_2_79 (tk_X11_placed 19 rfl) fun v8 => ?_
      refine on_dr0 ?_
      refine on_dr1 ?_
      exact gb_X11_placed_43 X  hN _ _ _
