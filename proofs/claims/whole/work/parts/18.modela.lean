def tb_X12_in : List (Nat × Nat × Nat × Instr) := [(0, 1, 1, .lload_n 0), (1, 1, 2, .lload_n 2), (2, 1, 3, .lcmp), (3, 3, 6, .ifCond .lt 14), (6, 1, 7, .lload_n 0), (7, 2, 9, .lload 4), (9, 1, 10, .lcmp), (10, 3, 13, .ifCond .gt 7), (13, 1, 14, .iconst 1), (14, 3, 17, .goto 4), (17, 1, 18, .iconst 0), (18, 1, 19, .ireturn)]
set_option maxRecDepth 100000 in
theorem tk_X12_in (k : Nat) {pc n pc2 : Nat} {i : Instr} (hk : tb_X12_in[k]? = some (pc, n, pc2, i)) : on_dq cX12_in pc n pc2 i := on_ta (by decide +kernel) k hk
theorem ms_X12_in : on_Ms yX12_in cX12_in 6 (some .boolean) 3 := ⟨kw_7_20, kw_7_19, kw_1_13, by decide, by decide, by decide +kernel⟩
def pf_X12_in_17 (σ : on_S) : Option on_O :=
  some (0, σ)
def pf_X12_in (p0 : Int) (p1 : Int) (p2 : Int) (σ : on_S) : Option on_O :=
  on_LtL p0 p1 (
    pf_X12_in_17 σ) (
    on_LeL p0 p2 (
      some (1, σ)) (
      pf_X12_in_17 σ))
set_option maxRecDepth 100000 in
set_option maxHeartbeats 4000000 in
theorem gb_X12_in_17 {E : on_E} {z n : Nat} (X : on_X) (hN : 100 ≤ n) (σ : on_S) : on_G X E cX12_in RX12 (some .boolean) 0 0 6 z n σ (pf_X12_in_17  σ) 17 [none, none, none, none, none, none] [] := by
  rw [pf_X12_in_17]
  refine on_iconst (tk_X12_in 10 rfl) ?_
  exact on_zret0 (tk_X12_in 11 rfl)
set_option maxRecDepth 100000 in
set_option maxHeartbeats 4000000 in
theorem ct_X12_in {E : on_E} {z n : Nat} {p0 : Int} {p1 : Int} {p2 : Int} (hN : 100 ≤ n) {σ : on_S} : on_Sp E yX12_in cX12_in 6 (some .boolean) 0 0 z n [.long (on_l p0), .long (on_l p1), .long (on_l p2)] σ (pf_X12_in p0 p1 p2 σ) := by
  refine on_met [some (.long (on_l p0)), none, some (.long (on_l p1)), none, some (.long (on_l p2)), none] (by decide) rfl rfl (fun X => ?_)
  rw [pf_X12_in]
  refine on_ll0 (tk_X12_in 0 rfl) ?_
  refine on_ll2 (tk_X12_in 1 rfl) ?_
  refine on_lcmp_lt (tk_X12_in 2 rfl) (tk_X12_in 3 rfl) (tgt := 17) (by decide) ?_ ?_
  · refine on_ll0 (tk_X12_in 4 rfl) ?_
    refine on_ll4 (tk_X12_in 5 rfl) ?_
    refine on_lcmp_gt (tk_X12_in 6 rfl) (tk_X12_in 7 rfl) (tgt := 17) (by decide) ?_ ?_
    · refine on_iconst (tk_X12_in 8 rfl) ?_
      refine on_goto (tk_X12_in 9 rfl) (tgt := 18) (by decide) ?_
      exact on_zret1 (tk_X12_in 11 rfl)
    · refine on_dr0 ?_
      refine on_dr2 ?_
      refine on_dr4 ?_
      exact gb_X12_in_17 X  hN _
  · refine on_dr0 ?_
    refine on_dr2 ?_
    refine on_dr4 ?_
    exact gb_X12_in_17 X  hN _
def tb_X12_bits : List (Nat × Nat × Nat × Instr) := [(0, 1, 1, .iconst 0), (1, 1, 2, .istore_n 1), (2, 1, 3, .iconst 0), (3, 1, 4, .istore_n 2), (4, 1, 5, .iload_n 2), (5, 2, 7, .bipush 10), (7, 3, 10, .if_icmp .ge 17), (10, 1, 11, .iload_n 1), (11, 1, 12, .iload_n 0), (12, 1, 13, .iload_n 2), (13, 1, 14, .ishr), (14, 1, 15, .iconst 1), (15, 1, 16, .iand), (16, 1, 17, .iadd), (17, 1, 18, .istore_n 1), (18, 3, 21, .iinc 2 1), (21, 3, 24, .goto (-17)), (24, 1, 25, .iload_n 1), (25, 1, 26, .ireturn)]
set_option maxRecDepth 100000 in
theorem tk_X12_bits (k : Nat) {pc n pc2 : Nat} {i : Instr} (hk : tb_X12_bits[k]? = some (pc, n, pc2, i)) : on_dq cX12_bits pc n pc2 i := on_ta (by decide +kernel) k hk
theorem ms_X12_bits : on_Ms yX12_bits cX12_bits 3 (some .int) 1 := ⟨kw_8_203, kw_8_202, kw_1_13, by decide, by decide, by decide +kernel⟩
def pf_X12_bits_4 : Nat → Int → Int → Int → on_S → Option on_O
  | 0, _, _, _, _ => none
  | nf + 1, l0, l1, l2, σ =>
    on_Lt l2 10 (
      pf_X12_bits_4 nf l0 (l1 + (on_and (on_shr l0 l2) 1)) (l2 + 1) σ) (
      some (l1, σ))
def pf_X12_bits (p0 : Int) (σ : on_S) : Option on_O :=
  pf_X12_bits_4 on_N p0 0 0 σ
set_option maxRecDepth 100000 in
set_option maxHeartbeats 4000000 in
theorem gl_X12_bits_4 {E : on_E} {z n : Nat} (X : on_X) (hN : 100 ≤ n) : ∀ (nf : Nat) (l0 : Int) (l1 : Int) (l2 : Int) (σ : on_S), on_G X E cX12_bits RX12 (some .int) 0 0 3 z n σ (pf_X12_bits_4 nf l0 l1 l2 σ) 4 [some (.int (on_i l0)), some (.int (on_i l1)), some (.int (on_i l2))] [] := by
  intro nf
  induction nf with
  | zero => intro l0 l1 l2 σ; exact on_none
  | succ nf ih =>
    intro l0 l1 l2 σ
    rw [pf_X12_bits_4]
    refine on_il2 (tk_X12_bits 4 rfl) ?_
    refine on_bipush (tk_X12_bits 5 rfl) bp_10 ?_
    refine on_icmp_ge (tk_X12_bits 6 rfl) (tgt := 24) (by decide) ?_ ?_
    · refine on_il1 (tk_X12_bits 7 rfl) ?_
      refine on_il0 (tk_X12_bits 8 rfl) ?_
      refine on_il2 (tk_X12_bits 9 rfl) ?_
      refine on_ishr (tk_X12_bits 10 rfl) ?_
      refine on_iconst (tk_X12_bits 11 rfl) ?_
      refine on_iand (tk_X12_bits 12 rfl) ?_
      refine on_iadd (tk_X12_bits 13 rfl) ?_
      refine on_is1 rfl (tk_X12_bits 14 rfl) ?_
      refine on_inc2 rfl (tk_X12_bits 15 rfl) ?_
      refine on_goto (tk_X12_bits 16 rfl) (tgt := 4) (by decide) ?_
      exact ih _ _ _ _
    · refine on_il1 (tk_X12_bits 17 rfl) ?_
      exact on_iret (tk_X12_bits 18 rfl)
set_option maxRecDepth 100000 in
set_option maxHeartbeats 4000000 in
theorem ct_X12_bits {E : on_E} {z n : Nat} {p0 : Int} (hN : 100 ≤ n) {σ : on_S} : on_Sp E yX12_bits cX12_bits 3 (some .int) 0 0 z n [.int (on_i p0)] σ (pf_X12_bits p0 σ) := by
  refine on_met [some (.int (on_i p0)), none, none] (by decide) rfl rfl (fun X => ?_)
  rw [pf_X12_bits]
  refine on_iconst (tk_X12_bits 0 rfl) ?_
  refine on_is1 rfl (tk_X12_bits 1 rfl) ?_
  refine on_iconst (tk_X12_bits 2 rfl) ?_
  refine on_is2 rfl (tk_X12_bits 3 rfl) ?_
  exact gl_X12_bits_4 X  hN on_N _ _ _ _
def tb_X12_image : List (Nat × Nat × Nat × Instr) := [(0, 1, 1, .iload_n 1), (1, 1, 2, .i2l), (2, 1, 3, .lconst 0), (3, 3, 6, .ldc2_w 86), (6, 3, 9, .invokestatic 88), (9, 3, 12, .ifCond .ne 6), (12, 2, 14, .bipush (-2)), (14, 1, 15, .ireturn), (15, 1, 16, .iconst 0), (16, 1, 17, .istore_n 2), (17, 1, 18, .iload_n 2), (18, 3, 21, .sipush 687), (21, 3, 24, .if_icmp .ge 27), (24, 1, 25, .aload_n 0), (25, 3, 28, .getfield 13), (28, 3, 31, .sipush 687), (31, 1, 32, .iload_n 1), (32, 1, 33, .imul), (33, 1, 34, .iload_n 2), (34, 1, 35, .iadd), (35, 1, 36, .aload_n 0), (36, 3, 39, .getfield 9), (39, 1, 40, .iload_n 2), (40, 1, 41, .iaload), (41, 1, 42, .iastore), (42, 3, 45, .iinc 2 1), (45, 3, 48, .goto (-28)), (48, 1, 49, .aload_n 0), (49, 3, 52, .getfield 16), (52, 1, 53, .iload_n 1), (53, 1, 54, .iconst 1), (54, 1, 55, .bastore), (55, 1, 56, .iconst 0), (56, 1, 57, .ireturn)]
set_option maxRecDepth 100000 in
theorem tk_X12_image (k : Nat) {pc n pc2 : Nat} {i : Instr} (hk : tb_X12_image[k]? = some (pc, n, pc2, i)) : on_dq cX12_image pc n pc2 i := on_ta (by decide +kernel) k hk
theorem ms_X12_image : on_Mv yX12_image cX12_image 3 (some .int) 1 := ⟨kw_7_16, kw_7_14, kw_7_15, kw_1_13, by decide, by decide, by decide +kernel⟩
def pf_X12_image_17 : Nat → Int → Int → on_S → Option on_O
  | 0, _, _, _ => none
  | nf + 1, l1, l2, σ =>
    on_Lt l2 687 (
      on_Rd σ 78 687 l2 fun v3 =>
      on_Wr σ 79 2061 ((687 * l1) + l2) v3 fun σ4 =>
      pf_X12_image_17 nf l1 (l2 + 1) σ4) (
      on_Wr σ 80 3 l1 1 fun σ5 =>
      some (0, σ5))
def pf_X12_image (p0 : Int) (σ : on_S) : Option on_O :=
  on_Ck p0 <|
  on_Cl (pf_X12_in p0 0 2 σ) fun v1 σ2 =>
  on_Eq v1 0 (
    some ((-2), σ2)) (
    pf_X12_image_17 on_N p0 0 σ2)
set_option maxRecDepth 100000 in
set_option maxHeartbeats 4000000 in
theorem gl_X12_image_17 {E : on_E} {z n : Nat} (X : on_X) (hN : 100 ≤ n) : ∀ (nf : Nat) (l1 : Int) (l2 : Int) (σ : on_S), on_G X E cX12_image RX12 (some .int) 1 25 3 z n σ (pf_X12_image_17 nf l1 l2 σ) 17 [some (.ref (z + 77)), some (.int (on_i l1)), some (.int (on_i l2))] [] := by
  intro nf
  induction nf with
  | zero => intro l1 l2 σ; exact on_none
  | succ nf ih =>
    intro l1 l2 σ
    rw [pf_X12_image_17]
    refine on_il2 (tk_X12_image 10 rfl) ?_
    refine on_sipush (tk_X12_image 11 rfl) sp_687 ?_
    refine on_icmp_ge (tk_X12_image 12 rfl) (tgt := 48) (by decide) ?_ ?_
    · refine on_al0 (tk_X12_image 13 rfl) ?_
      refine fg_12_2 hN kw_6_142 (tk_X12_image 14 rfl) ?_
      refine on_sipush (tk_X12_image 15 rfl) sp_687 ?_
      refine on_il1 (tk_X12_image 16 rfl) ?_
      refine on_imul (tk_X12_image 17 rfl) ?_
      refine on_il2 (tk_X12_image 18 rfl) ?_
      refine on_iadd (tk_X12_image 19 rfl) ?_
      refine on_al0 (tk_X12_image 20 rfl) ?_
      refine fg_12_1 hN kw_6_141 (tk_X12_image 21 rfl) ?_
      refine on_il2 (tk_X12_image 22 rfl) ?_
      refine on_iald (ltc_78 hN) sh_78 (tk_X12_image 23 rfl) fun v3 => ?_
      refine on_iast (ltc_79 hN) sh_79 (tk_X12_image 24 rfl) fun σ4 => ?_
      refine on_inc2 rfl (tk_X12_image 25 rfl) ?_
      refine on_goto (tk_X12_image 26 rfl) (tgt := 17) (by decide) ?_
      exact ih _ _ _
    · refine on_al0 (tk_X12_image 27 rfl) ?_
      refine fg_12_3 hN kw_6_143 (tk_X12_image 28 rfl) ?_
      refine on_il1 (tk_X12_image 29 rfl) ?_
      refine on_iconst (tk_X12_image 30 rfl) ?_
      refine on_zast1 (ltc_80 hN) sh_80 (tk_X12_image 31 rfl) fun σ5 => ?_
      refine on_iconst (tk_X12_image 32 rfl) ?_
      exact on_iret (tk_X12_image 33 rfl)
set_option maxRecDepth 100000 in
set_option maxHeartbeats 4000000 in
theorem ct_X12_image {E : on_E} {z n : Nat} {p0 : Int} (hN : 100 ≤ n) {σ : on_S} : on_Sp E yX12_image cX12_image 3 (some .int) 1 25 z n [.ref (z + 77), .int (on_i p0)] σ (pf_X12_image p0 σ) := by
  refine on_met [some (.ref (z + 77)), some (.int (on_i p0)), none] (by decide) rfl rfl (fun X => ?_)
  rw [pf_X12_image]
  refine on_il1 (tk_X12_image 0 rfl) ?_
  refine on_xi2l (tk_X12_image 1 rfl) ?_
  refine on_lconst0 (tk_X12_image 2 rfl) ?_
  refine on_ldc2 (a := 2) kw_7_17 (by decide +kernel) (tk_X12_image 3 rfl) ?_
  refine on_cS3z ms_X12_in kw_7_18 (ct_X12_in hN) rfl (tk_X12_image 4 rfl) fun v1 σ2 => ?_
  refine on_if_ne (tk_X12_image 5 rfl) (tgt := 15) (by decide) ?_ ?_
  · refine on_bipush (tk_X12_image 6 rfl) bp_m2 ?_
    exact on_iret (tk_X12_image 7 rfl)
  · refine on_iconst (tk_X12_image 8 rfl) ?_
    refine on_is2 rfl (tk_X12_image 9 rfl) ?_
    exact gl_X12_image_17 X  hN on_N _ _ _
def tb_X12_back : List (Nat × Nat × Nat × Instr) := [(0, 1, 1, .iload_n 1), (1, 1, 2, .i2l), (2, 1, 3, .lconst 0), (3, 3, 6, .ldc2_w 86), (6, 3, 9, .invokestatic 88), (9, 3, 12, .ifCond .ne 6), (12, 2, 14, .bipush (-2)), (14, 1, 15, .ireturn), (15, 1, 16, .aload_n 0), (16, 3, 19, .getfield 16), (19, 1, 20, .iload_n 1), (20, 1, 21, .baload), (21, 3, 24, .ifCond .ne 6), (24, 2, 26, .bipush (-6)), (26, 1, 27, .ireturn), (27, 1, 28, .iconst 0), (28, 1, 29, .istore_n 2), (29, 1, 30, .iload_n 2), (30, 3, 33, .sipush 687), (33, 3, 36, .if_icmp .ge 27), (36, 1, 37, .aload_n 0), (37, 3, 40, .getfield 9), (40, 1, 41, .iload_n 2), (41, 1, 42, .aload_n 0), (42, 3, 45, .getfield 13), (45, 3, 48, .sipush 687), (48, 1, 49, .iload_n 1), (49, 1, 50, .imul), (50, 1, 51, .iload_n 2), (51, 1, 52, .iadd), (52, 1, 53, .iaload), (53, 1, 54, .iastore), (54, 3, 57, .iinc 2 1), (57, 3, 60, .goto (-28)), (60, 1, 61, .iconst 0), (61, 1, 62, .ireturn)]
set_option maxRecDepth 100000 in
theorem tk_X12_back (k : Nat) {pc n pc2 : Nat} {i : Instr} (hk : tb_X12_back[k]? = some (pc, n, pc2, i)) : on_dq cX12_back pc n pc2 i := on_ta (by decide +kernel) k hk
theorem ms_X12_back : on_Mv yX12_back cX12_back 3 (some .int) 1 := ⟨kw_7_24, kw_7_22, kw_7_23, kw_1_13, by decide, by decide, by decide +kernel⟩
def pf_X12_back_29 : Nat → Int → Int → on_S → Option on_O
  | 0, _, _, _ => none
  | nf + 1, l1, l2, σ =>
    on_Lt l2 687 (
      on_Rd σ 79 2061 ((687 * l1) + l2) fun v4 =>
      on_Wr σ 78 687 l2 v4 fun σ5 =>
      pf_X12_back_29 nf l1 (l2 + 1) σ5) (
      some (0, σ))
def pf_X12_back (p0 : Int) (σ : on_S) : Option on_O :=
  on_Ck p0 <|
  on_Cl (pf_X12_in p0 0 2 σ) fun v1 σ2 =>
  on_Eq v1 0 (
    some ((-2), σ2)) (
    on_Rd σ2 80 3 p0 fun v3 =>
    on_Eq v3 0 (
      some ((-6), σ2)) (
      pf_X12_back_29 on_N p0 0 σ2))
set_option maxRecDepth 100000 in
set_option maxHeartbeats 4000000 in
theorem gl_X12_back_29 {E : on_E} {z n : Nat} (X : on_X) (hN : 100 ≤ n) : ∀ (nf : Nat) (l1 : Int) (l2 : Int) (σ : on_S), on_G X E cX12_back RX12 (some .int) 1 25 3 z n σ (pf_X12_back_29 nf l1 l2 σ) 29 [some (.ref (z + 77)), some (.int (on_i l1)), some (.int (on_i l2))] [] := by
  intro nf
  induction nf with
  | zero => intro l1 l2 σ; exact on_none
  | succ nf ih =>
    intro l1 l2 σ
    rw [pf_X12_back_29]
    refine on_il2 (tk_X12_back 17 rfl) ?_
    refine on_sipush (tk_X12_back 18 rfl) sp_687 ?_
    refine on_icmp_ge (tk_X12_back 19 rfl) (tgt := 60) (by decide) ?_ ?_
    · refine on_al0 (tk_X12_back 20 rfl) ?_
      refine fg_12_1 hN kw_6_141 (tk_X12_back 21 rfl) ?_
      refine on_il2 (tk_X12_back 22 rfl) ?_
      refine on_al0 (tk_X12_back 23 rfl) ?_
      refine fg_12_2 hN kw_6_142 (tk_X12_back 24 rfl) ?_
      refine on_sipush (tk_X12_back 25 rfl) sp_687 ?_
      refine on_il1 (tk_X12_back 26 rfl) ?_
      refine on_imul (tk_X12_back 27 rfl) ?_
      refine on_il2 (tk_X12_back 28 rfl) ?_
      refine on_iadd (tk_X12_back 29 rfl) ?_
      refine on_iald (ltc_79 hN) sh_79 (tk_X12_back 30 rfl) fun v4 => ?_
      refine on_iast (ltc_78 hN) sh_78 (tk_X12_back 31 rfl) fun σ5 => ?_
      refine on_inc2 rfl (tk_X12_back 32 rfl) ?_
      refine on_goto (tk_X12_back 33 rfl) (tgt := 29) (by decide) ?_
      exact ih _ _ _
    · refine on_iconst (tk_X12_back 34 rfl) ?_
      exact on_iret (tk_X12_back 35 rfl)
set_option maxRecDepth 100000 in
set_option maxHeartbeats 4000000 in
theorem ct_X12_back {E : on_E} {z n : Nat} {p0 : Int} (hN : 100 ≤ n) {σ : on_S} : on_Sp E yX12_back cX12_back 3 (some .int) 1 25 z n [.ref (z + 77), .int (on_i p0)] σ (pf_X12_back p0 σ) := by
  refine on_met [some (.ref (z + 77)), some (.int (on_i p0)), none] (by decide) rfl rfl (fun X => ?_)
  rw [pf_X12_back]
  refine on_il1 (tk_X12_back 0 rfl) ?_
  refine on_xi2l (tk_X12_back 1 rfl) ?_
  refine on_lconst0 (tk_X12_back 2 rfl) ?_
  refine on_ldc2 (a := 2) kw_7_17 (by decide +kernel) (tk_X12_back 3 rfl) ?_
  refine on_cS3z ms_X12_in kw_7_18 (ct_X12_in hN) rfl (tk_X12_back 4 rfl) fun v1 σ2 => ?_
  refine on_if_ne (tk_X12_back 5 rfl) (tgt := 15) (by decide) ?_ ?_
  · refine on_bipush (tk_X12_back 6 rfl) bp_m2 ?_
    exact on_iret (tk_X12_back 7 rfl)
  · refine on_al0 (tk_X12_back 8 rfl) ?_
    refine fg_12_3 hN kw_6_143 (tk_X12_back 9 rfl) ?_
    refine on_il1 (tk_X12_back 10 rfl) ?_
    refine on_zald (ltc_80 hN) sh_80 (tk_X12_back 11 rfl) fun v3 => ?_
    refine on_if_ne (tk_X12_back 12 rfl) (tgt := 27) (by decide) ?_ ?_
    · refine on_bipush (tk_X12_back 13 rfl) bp_m6 ?_
      exact on_iret (tk_X12_back 14 rfl)
    · refine on_iconst (tk_X12_back 15 rfl) ?_
      refine on_is2 rfl (tk_X12_back 16 rfl) ?_
      exact gl_X12_back_29 X  hN on_N _ _ _
def tb_X12_isStreet : List (Nat × Nat × Nat × Instr) := [(0, 1, 1, .aload_n 0), (1, 3, 4, .getfield 9), (4, 2, 6, .bipush 7), (6, 1, 7, .iaload), (7, 3, 10, .ifCond .le 7), (10, 1, 11, .iconst 1), (11, 3, 14, .goto 4), (14, 1, 15, .iconst 0), (15, 1, 16, .ireturn)]
set_option maxRecDepth 100000 in
theorem tk_X12_isStreet (k : Nat) {pc n pc2 : Nat} {i : Instr} (hk : tb_X12_isStreet[k]? = some (pc, n, pc2, i)) : on_dq cX12_isStreet pc n pc2 i := on_ta (by decide +kernel) k hk
theorem ms_X12_isStreet : on_Mv yX12_isStreet cX12_isStreet 1 (some .boolean) 0 := ⟨kw_8_76, kw_8_75, (on_mp (q := (yX12_isStreet, 37)) (by decide +kernel)), kw_1_13, by decide, by decide, by decide +kernel⟩
def pf_X12_isStreet (σ : on_S) : Option on_O :=
  on_Rd σ 78 687 7 fun v1 =>
  on_Le v1 0 (
    some (0, σ)) (
    some (1, σ))
set_option maxRecDepth 100000 in
set_option maxHeartbeats 4000000 in
theorem ct_X12_isStreet {E : on_E} {z n : Nat} (hN : 100 ≤ n) {σ : on_S} : on_Sp E yX12_isStreet cX12_isStreet 1 (some .boolean) 0 0 z n [.ref (z + 77)] σ (pf_X12_isStreet  σ) := by
  refine on_met [some (.ref (z + 77))] (by decide) rfl rfl (fun X => ?_)
  rw [pf_X12_isStreet]
  refine on_al0 (tk_X12_isStreet 0 rfl) ?_
  refine fg_12_1 hN kw_6_141 (tk_X12_isStreet 1 rfl) ?_
  refine on_bipush (tk_X12_isStreet 2 rfl) bp_7 ?_
  refine on_iald (ltc_78 hN) sh_78 (tk_X12_isStreet 3 rfl) fun v1 => ?_
  refine on_if_le (tk_X12_isStreet 4 rfl) (tgt := 14) (by decide) ?_ ?_
  · refine on_iconst (tk_X12_isStreet 5 rfl) ?_
    refine on_goto (tk_X12_isStreet 6 rfl) (tgt := 15) (by decide) ?_
    exact on_zret1 (tk_X12_isStreet 8 rfl)
  · refine on_iconst (tk_X12_isStreet 7 rfl) ?_
    exact on_zret0 (tk_X12_isStreet 8 rfl)
def tb_X12_isHouse : List (Nat × Nat × Nat × Instr) := [(0, 1, 1, .iload_n 1), (1, 1, 2, .i2l), (2, 1, 3, .lconst 0), (3, 1, 4, .aload_n 0), (4, 3, 7, .getfield 9), (7, 1, 8, .iconst 0), (8, 1, 9, .iaload), (9, 1, 10, .iconst 1), (10, 1, 11, .isub), (11, 1, 12, .i2l), (12, 3, 15, .invokestatic 88), (15, 1, 16, .ireturn)]
set_option maxRecDepth 100000 in
theorem tk_X12_isHouse (k : Nat) {pc n pc2 : Nat} {i : Instr} (hk : tb_X12_isHouse[k]? = some (pc, n, pc2, i)) : on_dq cX12_isHouse pc n pc2 i := on_ta (by decide +kernel) k hk
theorem ms_X12_isHouse : on_Mv yX12_isHouse cX12_isHouse 2 (some .boolean) 1 := ⟨kw_8_35, kw_8_34, (on_mp (q := (yX12_isHouse, 37)) (by decide +kernel)), kw_1_13, by decide, by decide, by decide +kernel⟩
def pf_X12_isHouse (p0 : Int) (σ : on_S) : Option on_O :=
  on_Ck p0 <|
  on_Rd σ 78 687 0 fun v1 =>
  on_Ck (v1 - 1) <|
  on_Cl (pf_X12_in p0 0 (v1 - 1) σ) fun v2 σ3 =>
  on_Bz v2 σ3
set_option maxRecDepth 100000 in
set_option maxHeartbeats 4000000 in
theorem ct_X12_isHouse {E : on_E} {z n : Nat} {p0 : Int} (hN : 100 ≤ n) {σ : on_S} : on_Sp E yX12_isHouse cX12_isHouse 2 (some .boolean) 1 25 z n [.ref (z + 77), .int (on_i p0)] σ (pf_X12_isHouse p0 σ) := by
  refine on_met [some (.ref (z + 77)), some (.int (on_i p0))] (by decide) rfl rfl (fun X => ?_)
  rw [pf_X12_isHouse]
  refine on_il1 (tk_X12_isHouse 0 rfl) ?_
  refine on_xi2l (tk_X12_isHouse 1 rfl) ?_
  refine on_lconst0 (tk_X12_isHouse 2 rfl) ?_
  refine on_al0 (tk_X12_isHouse 3 rfl) ?_
  refine fg_12_1 hN kw_6_141 (tk_X12_isHouse 4 rfl) ?_
  refine on_iconst (tk_X12_isHouse 5 rfl) ?_
  refine on_iald (ltc_78 hN) sh_78 (tk_X12_isHouse 6 rfl) fun v1 => ?_
  refine on_iconst (tk_X12_isHouse 7 rfl) ?_
  refine on_isub (tk_X12_isHouse 8 rfl) ?_
  refine on_xi2l (tk_X12_isHouse 9 rfl) ?_
  refine on_cS3z ms_X12_in kw_7_18 (ct_X12_in hN) rfl (tk_X12_isHouse 10 rfl) fun v2 σ3 => ?_
  exact on_zret (tk_X12_isHouse 11 rfl)
def tb_X12_isWindow : List (Nat × Nat × Nat × Instr) := [(0, 1, 1, .iload_n 1), (1, 1, 2, .i2l), (2, 1, 3, .lconst 0), (3, 1, 4, .aload_n 0), (4, 3, 7, .getfield 9), (7, 1, 8, .iconst 2), (8, 1, 9, .iaload), (9, 1, 10, .iconst 1), (10, 1, 11, .isub), (11, 1, 12, .i2l), (12, 3, 15, .invokestatic 88), (15, 1, 16, .ireturn)]
set_option maxRecDepth 100000 in
theorem tk_X12_isWindow (k : Nat) {pc n pc2 : Nat} {i : Instr} (hk : tb_X12_isWindow[k]? = some (pc, n, pc2, i)) : on_dq cX12_isWindow pc n pc2 i := on_ta (by decide +kernel) k hk
theorem ms_X12_isWindow : on_Mv yX12_isWindow cX12_isWindow 2 (some .boolean) 1 := ⟨kw_7_149, kw_7_148, (on_mp (q := (yX12_isWindow, 37)) (by decide +kernel)), kw_1_13, by decide, by decide, by decide +kernel⟩
def pf_X12_isWindow (p0 : Int) (σ : on_S) : Option on_O :=
  on_Ck p0 <|
  on_Rd σ 78 687 2 fun v1 =>
  on_Ck (v1 - 1) <|
  on_Cl (pf_X12_in p0 0 (v1 - 1) σ) fun v2 σ3 =>
  on_Bz v2 σ3
set_option maxRecDepth 100000 in
set_option maxHeartbeats 4000000 in
theorem ct_X12_isWindow {E : on_E} {z n : Nat} {p0 : Int} (hN : 100 ≤ n) {σ : on_S} : on_Sp E yX12_isWindow cX12_isWindow 2 (some .boolean) 1 25 z n [.ref (z + 77), .int (on_i p0)] σ (pf_X12_isWindow p0 σ) := by
  refine on_met [some (.ref (z + 77)), some (.int (on_i p0))] (by decide) rfl rfl (fun X => ?_)
  rw [pf_X12_isWindow]
  refine on_il1 (tk_X12_isWindow 0 rfl) ?_
  refine on_xi2l (tk_X12_isWindow 1 rfl) ?_
  refine on_lconst0 (tk_X12_isWindow 2 rfl) ?_
  refine on_al0 (tk_X12_isWindow 3 rfl) ?_
  refine fg_12_1 hN kw_6_141 (tk_X12_isWindow 4 rfl) ?_
  refine on_iconst (tk_X12_isWindow 5 rfl) ?_
  refine on_iald (ltc_78 hN) sh_78 (tk_X12_isWindow 6 rfl) fun v1 => ?_
  refine on_iconst (tk_X12_isWindow 7 rfl) ?_
  refine on_isub (tk_X12_isWindow 8 rfl) ?_
  refine on_xi2l (tk_X12_isWindow 9 rfl) ?_
  refine on_cS3z ms_X12_in kw_7_18 (ct_X12_in hN) rfl (tk_X12_isWindow 10 rfl) fun v2 σ3 => ?_
  exact on_zret (tk_X12_isWindow 11 rfl)
def tb_X12_isMan : List (Nat × Nat × Nat × Instr) := [(0, 1, 1, .iload_n 1), (1, 1, 2, .i2l), (2, 1, 3, .lconst 0), (3, 1, 4, .aload_n 0), (4, 3, 7, .getfield 9), (7, 1, 8, .iconst 3), (8, 1, 9, .iaload), (9, 1, 10, .iconst 1), (10, 1, 11, .isub), (11, 1, 12, .i2l), (12, 3, 15, .invokestatic 88), (15, 1, 16, .ireturn)]
set_option maxRecDepth 100000 in
theorem tk_X12_isMan (k : Nat) {pc n pc2 : Nat} {i : Instr} (hk : tb_X12_isMan[k]? = some (pc, n, pc2, i)) : on_dq cX12_isMan pc n pc2 i := on_ta (by decide +kernel) k hk
theorem ms_X12_isMan : on_Mv yX12_isMan cX12_isMan 2 (some .boolean) 1 := ⟨kw_7_173, kw_7_172, (on_mp (q := (yX12_isMan, 37)) (by decide +kernel)), kw_1_13, by decide, by decide, by decide +kernel⟩
def pf_X12_isMan (p0 : Int) (σ : on_S) : Option on_O :=
  on_Ck p0 <|
  on_Rd σ 78 687 3 fun v1 =>
  on_Ck (v1 - 1) <|
  on_Cl (pf_X12_in p0 0 (v1 - 1) σ) fun v2 σ3 =>
  on_Bz v2 σ3
set_option maxRecDepth 100000 in
set_option maxHeartbeats 4000000 in
theorem ct_X12_isMan {E : on_E} {z n : Nat} {p0 : Int} (hN : 100 ≤ n) {σ : on_S} : on_Sp E yX12_isMan cX12_isMan 2 (some .boolean) 1 25 z n [.ref (z + 77), .int (on_i p0)] σ (pf_X12_isMan p0 σ) := by
  refine on_met [some (.ref (z + 77)), some (.int (on_i p0))] (by decide) rfl rfl (fun X => ?_)
  rw [pf_X12_isMan]
  refine on_il1 (tk_X12_isMan 0 rfl) ?_
  refine on_xi2l (tk_X12_isMan 1 rfl) ?_
  refine on_lconst0 (tk_X12_isMan 2 rfl) ?_
  refine on_al0 (tk_X12_isMan 3 rfl) ?_
  refine fg_12_1 hN kw_6_141 (tk_X12_isMan 4 rfl) ?_
  refine on_iconst (tk_X12_isMan 5 rfl) ?_
  refine on_iald (ltc_78 hN) sh_78 (tk_X12_isMan 6 rfl) fun v1 => ?_
  refine on_iconst (tk_X12_isMan 7 rfl) ?_
  refine on_isub (tk_X12_isMan 8 rfl) ?_
  refine on_xi2l (tk_X12_isMan 9 rfl) ?_
  refine on_cS3z ms_X12_in kw_7_18 (ct_X12_in hN) rfl (tk_X12_isMan 10 rfl) fun v2 σ3 => ?_
  exact on_zret (tk_X12_isMan 11 rfl)
def tb_X12_isNet : List (Nat × Nat × Nat × Instr) := [(0, 1, 1, .lload_n 1), (1, 1, 2, .lconst 0), (2, 1, 3, .aload_n 0), (3, 3, 6, .getfield 9), (6, 1, 7, .iconst 4), (7, 1, 8, .iaload), (8, 1, 9, .iconst 1), (9, 1, 10, .isub), (10, 1, 11, .i2l), (11, 3, 14, .invokestatic 88), (14, 1, 15, .ireturn)]
set_option maxRecDepth 100000 in
theorem tk_X12_isNet (k : Nat) {pc n pc2 : Nat} {i : Instr} (hk : tb_X12_isNet[k]? = some (pc, n, pc2, i)) : on_dq cX12_isNet pc n pc2 i := on_ta (by decide +kernel) k hk
theorem ms_X12_isNet : on_Mv yX12_isNet cX12_isNet 3 (some .boolean) 1 := ⟨kw_7_186, kw_7_185, (on_mp (q := (yX12_isNet, 37)) (by decide +kernel)), kw_1_13, by decide, by decide, by decide +kernel⟩
def pf_X12_isNet (p0 : Int) (σ : on_S) : Option on_O :=
  on_Rd σ 78 687 4 fun v1 =>
  on_Ck (v1 - 1) <|
  on_Cl (pf_X12_in p0 0 (v1 - 1) σ) fun v2 σ3 =>
  on_Bz v2 σ3
set_option maxRecDepth 100000 in
set_option maxHeartbeats 4000000 in
theorem ct_X12_isNet {E : on_E} {z n : Nat} {p0 : Int} (hN : 100 ≤ n) {σ : on_S} : on_Sp E yX12_isNet cX12_isNet 3 (some .boolean) 1 25 z n [.ref (z + 77), .long (on_l p0)] σ (pf_X12_isNet p0 σ) := by
  refine on_met [some (.ref (z + 77)), some (.long (on_l p0)), none] (by decide) rfl rfl (fun X => ?_)
  rw [pf_X12_isNet]
  refine on_ll1 (tk_X12_isNet 0 rfl) ?_
  refine on_lconst0 (tk_X12_isNet 1 rfl) ?_
  refine on_al0 (tk_X12_isNet 2 rfl) ?_
  refine fg_12_1 hN kw_6_141 (tk_X12_isNet 3 rfl) ?_
  refine on_iconst (tk_X12_isNet 4 rfl) ?_
  refine on_iald (ltc_78 hN) sh_78 (tk_X12_isNet 5 rfl) fun v1 => ?_
  refine on_iconst (tk_X12_isNet 6 rfl) ?_
  refine on_isub (tk_X12_isNet 7 rfl) ?_
  refine on_xi2l (tk_X12_isNet 8 rfl) ?_
  refine on_cS3z ms_X12_in kw_7_18 (ct_X12_in hN) rfl (tk_X12_isNet 9 rfl) fun v2 σ3 => ?_
  exact on_zret (tk_X12_isNet 10 rfl)
def tb_X12_isCorner : List (Nat × Nat × Nat × Instr) := [(0, 1, 1, .iload_n 0), (1, 1, 2, .i2l), (2, 1, 3, .lconst 0), (3, 3, 6, .ldc2_w 92), (6, 3, 9, .invokestatic 88), (9, 1, 10, .ireturn)]
set_option maxRecDepth 100000 in
theorem tk_X12_isCorner (k : Nat) {pc n pc2 : Nat} {i : Instr} (hk : tb_X12_isCorner[k]? = some (pc, n, pc2, i)) : on_dq cX12_isCorner pc n pc2 i := on_ta (by decide +kernel) k hk
theorem ms_X12_isCorner : on_Ms yX12_isCorner cX12_isCorner 1 (some .boolean) 1 := ⟨kw_8_7, kw_8_6, kw_1_13, by decide, by decide, by decide +kernel⟩
def pf_X12_isCorner (p0 : Int) (σ : on_S) : Option on_O :=
  on_Ck p0 <|
  on_Cl (pf_X12_in p0 0 3 σ) fun v1 σ2 =>
  on_Bz v1 σ2
set_option maxRecDepth 100000 in
set_option maxHeartbeats 4000000 in
theorem ct_X12_isCorner {E : on_E} {z n : Nat} {p0 : Int} (hN : 100 ≤ n) {σ : on_S} : on_Sp E yX12_isCorner cX12_isCorner 1 (some .boolean) 1 25 z n [.int (on_i p0)] σ (pf_X12_isCorner p0 σ) := by
  refine on_met [some (.int (on_i p0))] (by decide) rfl rfl (fun X => ?_)
  rw [pf_X12_isCorner]
  refine on_il0 (tk_X12_isCorner 0 rfl) ?_
  refine on_xi2l (tk_X12_isCorner 1 rfl) ?_
  refine on_lconst0 (tk_X12_isCorner 2 rfl) ?_
  refine on_ldc2 (a := 3) kw_7_174 (by decide +kernel) (tk_X12_isCorner 3 rfl) ?_
  refine on_cS3z ms_X12_in kw_7_18 (ct_X12_in hN) rfl (tk_X12_isCorner 4 rfl) fun v1 σ2 => ?_
  exact on_zret (tk_X12_isCorner 5 rfl)
def tb_X12_isJumper : List (Nat × Nat × Nat × Instr) := [(0, 1, 1, .iload_n 1), (1, 1, 2, .i2l), (2, 1, 3, .lconst 0), (3, 1, 4, .aload_n 0), (4, 3, 7, .getfield 9), (7, 1, 8, .iconst 5), (8, 1, 9, .iaload), (9, 1, 10, .iconst 1), (10, 1, 11, .isub), (11, 1, 12, .i2l), (12, 3, 15, .invokestatic 88), (15, 1, 16, .ireturn)]
set_option maxRecDepth 100000 in
theorem tk_X12_isJumper (k : Nat) {pc n pc2 : Nat} {i : Instr} (hk : tb_X12_isJumper[k]? = some (pc, n, pc2, i)) : on_dq cX12_isJumper pc n pc2 i := on_ta (by decide +kernel) k hk
theorem ms_X12_isJumper : on_Mv yX12_isJumper cX12_isJumper 2 (some .boolean) 1 := ⟨kw_8_15, kw_8_14, (on_mp (q := (yX12_isJumper, 37)) (by decide +kernel)), kw_1_13, by decide, by decide, by decide +kernel⟩
def pf_X12_isJumper (p0 : Int) (σ : on_S) : Option on_O :=
  on_Ck p0 <|
  on_Rd σ 78 687 5 fun v1 =>
  on_Ck (v1 - 1) <|
  on_Cl (pf_X12_in p0 0 (v1 - 1) σ) fun v2 σ3 =>
  on_Bz v2 σ3
set_option maxRecDepth 100000 in
set_option maxHeartbeats 4000000 in
theorem ct_X12_isJumper {E : on_E} {z n : Nat} {p0 : Int} (hN : 100 ≤ n) {σ : on_S} : on_Sp E yX12_isJumper cX12_isJumper 2 (some .boolean) 1 25 z n [.ref (z + 77), .int (on_i p0)] σ (pf_X12_isJumper p0 σ) := by
  refine on_met [some (.ref (z + 77)), some (.int (on_i p0))] (by decide) rfl rfl (fun X => ?_)
  rw [pf_X12_isJumper]
  refine on_il1 (tk_X12_isJumper 0 rfl) ?_
  refine on_xi2l (tk_X12_isJumper 1 rfl) ?_
  refine on_lconst0 (tk_X12_isJumper 2 rfl) ?_
  refine on_al0 (tk_X12_isJumper 3 rfl) ?_
  refine fg_12_1 hN kw_6_141 (tk_X12_isJumper 4 rfl) ?_
  refine on_iconst (tk_X12_isJumper 5 rfl) ?_
  refine on_iald (ltc_78 hN) sh_78 (tk_X12_isJumper 6 rfl) fun v1 => ?_
  refine on_iconst (tk_X12_isJumper 7 rfl) ?_
  refine on_isub (tk_X12_isJumper 8 rfl) ?_
  refine on_xi2l (tk_X12_isJumper 9 rfl) ?_
  refine on_cS3z ms_X12_in kw_7_18 (ct_X12_in hN) rfl (tk_X12_isJumper 10 rfl) fun v2 σ3 => ?_
  exact on_zret (tk_X12_isJumper 11 rfl)
def tb_X12_houseOf : List (Nat × Nat × Nat × Instr) := [(0, 1, 1, .aload_n 0), (1, 3, 4, .getfield 9), (4, 2, 6, .bipush 8), (6, 1, 7, .iconst 2), (7, 1, 8, .iload_n 1), (8, 1, 9, .imul), (9, 1, 10, .iadd), (10, 1, 11, .iaload), (11, 1, 12, .ireturn)]
set_option maxRecDepth 100000 in
theorem tk_X12_houseOf (k : Nat) {pc n pc2 : Nat} {i : Instr} (hk : tb_X12_houseOf[k]? = some (pc, n, pc2, i)) : on_dq cX12_houseOf pc n pc2 i := on_ta (by decide +kernel) k hk
theorem ms_X12_houseOf : on_Mv yX12_houseOf cX12_houseOf 2 (some .int) 1 := ⟨kw_7_153, kw_7_152, (on_mp (q := (yX12_houseOf, 37)) (by decide +kernel)), kw_1_13, by decide, by decide, by decide +kernel⟩
def pf_X12_houseOf (p0 : Int) (σ : on_S) : Option on_O :=
  on_Rd σ 78 687 (8 + (2 * p0)) fun v1 =>
  some (v1, σ)
set_option maxRecDepth 100000 in
set_option maxHeartbeats 4000000 in
theorem ct_X12_houseOf {E : on_E} {z n : Nat} {p0 : Int} (hN : 100 ≤ n) {σ : on_S} : on_Sp E yX12_houseOf cX12_houseOf 2 (some .int) 0 0 z n [.ref (z + 77), .int (on_i p0)] σ (pf_X12_houseOf p0 σ) := by
  refine on_met [some (.ref (z + 77)), some (.int (on_i p0))] (by decide) rfl rfl (fun X => ?_)
  rw [pf_X12_houseOf]
  refine on_al0 (tk_X12_houseOf 0 rfl) ?_
  refine fg_12_1 hN kw_6_141 (tk_X12_houseOf 1 rfl) ?_
  refine on_bipush (tk_X12_houseOf 2 rfl) bp_8 ?_
  refine on_iconst (tk_X12_houseOf 3 rfl) ?_
  refine on_il1 (tk_X12_houseOf 4 rfl) ?_
  refine on_imul (tk_X12_houseOf 5 rfl) ?_
  refine on_iadd (tk_X12_houseOf 6 rfl) ?_
  refine on_iald (ltc_78 hN) sh_78 (tk_X12_houseOf 7 rfl) fun v1 => ?_
  exact on_iret (tk_X12_houseOf 8 rfl)
def tb_X12_storeyOf : List (Nat × Nat × Nat × Instr) := [(0, 1, 1, .aload_n 0), (1, 3, 4, .getfield 9), (4, 2, 6, .bipush 8), (6, 1, 7, .iconst 2), (7, 1, 8, .iload_n 1), (8, 1, 9, .imul), (9, 1, 10, .iadd), (10, 1, 11, .iconst 1), (11, 1, 12, .iadd), (12, 1, 13, .iaload), (13, 1, 14, .ireturn)]
set_option maxRecDepth 100000 in
theorem tk_X12_storeyOf (k : Nat) {pc n pc2 : Nat} {i : Instr} (hk : tb_X12_storeyOf[k]? = some (pc, n, pc2, i)) : on_dq cX12_storeyOf pc n pc2 i := on_ta (by decide +kernel) k hk
theorem ms_X12_storeyOf : on_Mv yX12_storeyOf cX12_storeyOf 2 (some .int) 1 := ⟨kw_7_157, kw_7_156, (on_mp (q := (yX12_storeyOf, 37)) (by decide +kernel)), kw_1_13, by decide, by decide, by decide +kernel⟩
def pf_X12_storeyOf (p0 : Int) (σ : on_S) : Option on_O :=
  on_Rd σ 78 687 ((8 + (2 * p0)) + 1) fun v1 =>
  some (v1, σ)
set_option maxRecDepth 100000 in
set_option maxHeartbeats 4000000 in
theorem ct_X12_storeyOf {E : on_E} {z n : Nat} {p0 : Int} (hN : 100 ≤ n) {σ : on_S} : on_Sp E yX12_storeyOf cX12_storeyOf 2 (some .int) 0 0 z n [.ref (z + 77), .int (on_i p0)] σ (pf_X12_storeyOf p0 σ) := by
  refine on_met [some (.ref (z + 77)), some (.int (on_i p0))] (by decide) rfl rfl (fun X => ?_)
  rw [pf_X12_storeyOf]
  refine on_al0 (tk_X12_storeyOf 0 rfl) ?_
  refine fg_12_1 hN kw_6_141 (tk_X12_storeyOf 1 rfl) ?_
  refine on_bipush (tk_X12_storeyOf 2 rfl) bp_8 ?_
  refine on_iconst (tk_X12_storeyOf 3 rfl) ?_
  refine on_il1 (tk_X12_storeyOf 4 rfl) ?_
  refine on_imul (tk_X12_storeyOf 5 rfl) ?_
  refine on_iadd (tk_X12_storeyOf 6 rfl) ?_
  refine on_iconst (tk_X12_storeyOf 7 rfl) ?_
  refine on_iadd (tk_X12_storeyOf 8 rfl) ?_
  refine on_iald (ltc_78 hN) sh_78 (tk_X12_storeyOf 9 rfl) fun v1 => ?_
  exact on_iret (tk_X12_storeyOf 10 rfl)
def tb_X12_ofMan : List (Nat × Nat × Nat × Instr) := [(0, 1, 1, .aload_n 0), (1, 3, 4, .getfield 9), (4, 2, 6, .bipush 26), (6, 1, 7, .iconst 4), (7, 1, 8, .iload_n 1), (8, 1, 9, .imul), (9, 1, 10, .iadd), (10, 1, 11, .iload_n 2), (11, 1, 12, .iadd), (12, 1, 13, .iaload), (13, 1, 14, .ireturn)]
set_option maxRecDepth 100000 in
theorem tk_X12_ofMan (k : Nat) {pc n pc2 : Nat} {i : Instr} (hk : tb_X12_ofMan[k]? = some (pc, n, pc2, i)) : on_dq cX12_ofMan pc n pc2 i := on_ta (by decide +kernel) k hk
theorem ms_X12_ofMan : on_Mv yX12_ofMan cX12_ofMan 3 (some .int) 2 := ⟨kw_7_178, kw_7_177, (on_mp (q := (yX12_ofMan, 37)) (by decide +kernel)), kw_1_13, by decide, by decide, by decide +kernel⟩
def pf_X12_ofMan (p0 : Int) (p1 : Int) (σ : on_S) : Option on_O :=
  on_Rd σ 78 687 ((26 + (4 * p0)) + p1) fun v1 =>
  some (v1, σ)
set_option maxRecDepth 100000 in
set_option maxHeartbeats 4000000 in
theorem ct_X12_ofMan {E : on_E} {z n : Nat} {p0 : Int} {p1 : Int} (hN : 100 ≤ n) {σ : on_S} : on_Sp E yX12_ofMan cX12_ofMan 3 (some .int) 0 0 z n [.ref (z + 77), .int (on_i p0), .int (on_i p1)] σ (pf_X12_ofMan p0 p1 σ) := by
  refine on_met [some (.ref (z + 77)), some (.int (on_i p0)), some (.int (on_i p1))] (by decide) rfl rfl (fun X => ?_)
  rw [pf_X12_ofMan]
  refine on_al0 (tk_X12_ofMan 0 rfl) ?_
  refine fg_12_1 hN kw_6_141 (tk_X12_ofMan 1 rfl) ?_
  refine on_bipush (tk_X12_ofMan 2 rfl) bp_26 ?_
  refine on_iconst (tk_X12_ofMan 3 rfl) ?_
  refine on_il1 (tk_X12_ofMan 4 rfl) ?_
  refine on_imul (tk_X12_ofMan 5 rfl) ?_
  refine on_iadd (tk_X12_ofMan 6 rfl) ?_
  refine on_il2 (tk_X12_ofMan 7 rfl) ?_
  refine on_iadd (tk_X12_ofMan 8 rfl) ?_
  refine on_iald (ltc_78 hN) sh_78 (tk_X12_ofMan 9 rfl) fun v1 => ?_
  exact on_iret (tk_X12_ofMan 10 rfl)
def tb_X12_ofNet : List (Nat × Nat × Nat × Instr) := [(0, 1, 1, .aload_n 0), (1, 3, 4, .getfield 9), (4, 2, 6, .bipush 62), (6, 2, 8, .bipush 7), (8, 1, 9, .iload_n 1), (9, 1, 10, .imul), (10, 1, 11, .iadd), (11, 1, 12, .iload_n 2), (12, 1, 13, .iadd), (13, 1, 14, .iaload), (14, 1, 15, .ireturn)]
set_option maxRecDepth 100000 in
theorem tk_X12_ofNet (k : Nat) {pc n pc2 : Nat} {i : Instr} (hk : tb_X12_ofNet[k]? = some (pc, n, pc2, i)) : on_dq cX12_ofNet pc n pc2 i := on_ta (by decide +kernel) k hk
theorem ms_X12_ofNet : on_Mv yX12_ofNet cX12_ofNet 3 (some .int) 2 := ⟨kw_7_165, kw_7_164, (on_mp (q := (yX12_ofNet, 37)) (by decide +kernel)), kw_1_13, by decide, by decide, by decide +kernel⟩
def pf_X12_ofNet (p0 : Int) (p1 : Int) (σ : on_S) : Option on_O :=
  on_Rd σ 78 687 ((62 + (7 * p0)) + p1) fun v1 =>
  some (v1, σ)
set_option maxRecDepth 100000 in
set_option maxHeartbeats 4000000 in
theorem ct_X12_ofNet {E : on_E} {z n : Nat} {p0 : Int} {p1 : Int} (hN : 100 ≤ n) {σ : on_S} : on_Sp E yX12_ofNet cX12_ofNet 3 (some .int) 0 0 z n [.ref (z + 77), .int (on_i p0), .int (on_i p1)] σ (pf_X12_ofNet p0 p1 σ) := by
  refine on_met [some (.ref (z + 77)), some (.int (on_i p0)), some (.int (on_i p1))] (by decide) rfl rfl (fun X => ?_)
  rw [pf_X12_ofNet]
  refine on_al0 (tk_X12_ofNet 0 rfl) ?_
  refine fg_12_1 hN kw_6_141 (tk_X12_ofNet 1 rfl) ?_
  refine on_bipush (tk_X12_ofNet 2 rfl) bp_62 ?_
  refine on_bipush (tk_X12_ofNet 3 rfl) bp_7 ?_
  refine on_il1 (tk_X12_ofNet 4 rfl) ?_
  refine on_imul (tk_X12_ofNet 5 rfl) ?_
  refine on_iadd (tk_X12_ofNet 6 rfl) ?_
  refine on_il2 (tk_X12_ofNet 7 rfl) ?_
  refine on_iadd (tk_X12_ofNet 8 rfl) ?_
  refine on_iald (ltc_78 hN) sh_78 (tk_X12_ofNet 9 rfl) fun v1 => ?_
  exact on_iret (tk_X12_ofNet 10 rfl)
def tb_X12_netAt : List (Nat × Nat × Nat × Instr) := [(0, 1, 1, .iconst 0), (1, 1, 2, .istore_n 2), (2, 1, 3, .iload_n 2), (3, 1, 4, .aload_n 0), (4, 3, 7, .getfield 9), (7, 1, 8, .iconst 4), (8, 1, 9, .iaload), (9, 3, 12, .if_icmp .ge 21), (12, 1, 13, .aload_n 0), (13, 1, 14, .iload_n 2), (14, 1, 15, .iconst 0), (15, 3, 18, .invokevirtual 94), (18, 1, 19, .iload_n 1), (19, 3, 22, .if_icmp .ne 5), (22, 1, 23, .iload_n 2), (23, 1, 24, .ireturn), (24, 3, 27, .iinc 2 1), (27, 3, 30, .goto (-25)), (30, 1, 31, .iconst (-1)), (31, 1, 32, .ireturn)]
set_option maxRecDepth 100000 in
theorem tk_X12_netAt (k : Nat) {pc n pc2 : Nat} {i : Instr} (hk : tb_X12_netAt[k]? = some (pc, n, pc2, i)) : on_dq cX12_netAt pc n pc2 i := on_ta (by decide +kernel) k hk
theorem ms_X12_netAt : on_Mv yX12_netAt cX12_netAt 3 (some .int) 1 := ⟨kw_7_161, kw_7_160, (on_mp (q := (yX12_netAt, 37)) (by decide +kernel)), kw_1_13, by decide, by decide, by decide +kernel⟩
def pf_X12_netAt_2 : Nat → Int → Int → on_S → Option on_O
  | 0, _, _, _ => none
  | nf + 1, l1, l2, σ =>
    on_Rd σ 78 687 4 fun v1 =>
    on_Lt l2 v1 (
      on_Cl (pf_X12_ofNet l2 0 σ) fun v2 σ3 =>
      on_Eq v2 l1 (
        some (l2, σ3)) (
        pf_X12_netAt_2 nf l1 (l2 + 1) σ3)) (
      some ((-1), σ))
def pf_X12_netAt (p0 : Int) (σ : on_S) : Option on_O :=
  pf_X12_netAt_2 on_N p0 0 σ
set_option maxRecDepth 100000 in
set_option maxHeartbeats 4000000 in
theorem gl_X12_netAt_2 {E : on_E} {z n : Nat} (X : on_X) (hN : 100 ≤ n) : ∀ (nf : Nat) (l1 : Int) (l2 : Int) (σ : on_S), on_G X E cX12_netAt RX12 (some .int) 1 22 3 z n σ (pf_X12_netAt_2 nf l1 l2 σ) 2 [some (.ref (z + 77)), some (.int (on_i l1)), some (.int (on_i l2))] [] := by
  intro nf
  induction nf with
  | zero => intro l1 l2 σ; exact on_none
  | succ nf ih =>
    intro l1 l2 σ
    rw [pf_X12_netAt_2]
    refine on_il2 (tk_X12_netAt 2 rfl) ?_
    refine on_al0 (tk_X12_netAt 3 rfl) ?_
    refine fg_12_1 hN kw_6_141 (tk_X12_netAt 4 rfl) ?_
    refine on_iconst (tk_X12_netAt 5 rfl) ?_
    refine on_iald (ltc_78 hN) sh_78 (tk_X12_netAt 6 rfl) fun v1 => ?_
    refine on_icmp_ge (tk_X12_netAt 7 rfl) (tgt := 30) (by decide) ?_ ?_
    · refine on_al0 (tk_X12_netAt 8 rfl) ?_
      refine on_il2 (tk_X12_netAt 9 rfl) ?_
      refine on_iconst (tk_X12_netAt 10 rfl) ?_
      refine on_cV2i 12 ms_X12_ofNet kw_7_162 rfl rfl (ltc_77 hN) sh_77 (ct_X12_ofNet hN) rfl (tk_X12_netAt 11 rfl) fun v2 σ3 => ?_
      refine on_il1 (tk_X12_netAt 12 rfl) ?_
      refine on_icmp_ne (tk_X12_netAt 13 rfl) (tgt := 24) (by decide) ?_ ?_
      · refine on_il2 (tk_X12_netAt 14 rfl) ?_
        exact on_iret (tk_X12_netAt 15 rfl)
      · refine on_inc2 rfl (tk_X12_netAt 16 rfl) ?_
        refine on_goto (tk_X12_netAt 17 rfl) (tgt := 2) (by decide) ?_
        exact ih _ _ _
    · refine on_iconst (tk_X12_netAt 18 rfl) ?_
      exact on_iret (tk_X12_netAt 19 rfl)
set_option maxRecDepth 100000 in
set_option maxHeartbeats 4000000 in
theorem ct_X12_netAt {E : on_E} {z n : Nat} {p0 : Int} (hN : 100 ≤ n) {σ : on_S} : on_Sp E yX12_netAt cX12_netAt 3 (some .int) 1 22 z n [.ref (z + 77), .int (on_i p0)] σ (pf_X12_netAt p0 σ) := by
  refine on_met [some (.ref (z + 77)), some (.int (on_i p0)), none] (by decide) rfl rfl (fun X => ?_)
  rw [pf_X12_netAt]
  refine on_iconst (tk_X12_netAt 0 rfl) ?_
  refine on_is2 rfl (tk_X12_netAt 1 rfl) ?_
  exact gl_X12_netAt_2 X  hN on_N _ _ _
def tb_X12_manAt : List (Nat × Nat × Nat × Instr) := [(0, 1, 1, .iconst 0), (1, 1, 2, .istore_n 3), (2, 1, 3, .iload_n 3), (3, 1, 4, .aload_n 0), (4, 3, 7, .getfield 9), (7, 1, 8, .iconst 3), (8, 1, 9, .iaload), (9, 3, 12, .if_icmp .ge 31), (12, 1, 13, .aload_n 0), (13, 1, 14, .iload_n 3), (14, 1, 15, .iconst 2), (15, 3, 18, .invokevirtual 98), (18, 1, 19, .iload_n 1), (19, 3, 22, .if_icmp .ne 15), (22, 1, 23, .aload_n 0), (23, 1, 24, .iload_n 3), (24, 1, 25, .iconst 3), (25, 3, 28, .invokevirtual 98), (28, 1, 29, .iload_n 2), (29, 3, 32, .if_icmp .ne 5), (32, 1, 33, .iload_n 3), (33, 1, 34, .ireturn), (34, 3, 37, .iinc 3 1), (37, 3, 40, .goto (-35)), (40, 1, 41, .iconst (-1)), (41, 1, 42, .ireturn)]
set_option maxRecDepth 100000 in
theorem tk_X12_manAt (k : Nat) {pc n pc2 : Nat} {i : Instr} (hk : tb_X12_manAt[k]? = some (pc, n, pc2, i)) : on_dq cX12_manAt pc n pc2 i := on_ta (by decide +kernel) k hk
theorem ms_X12_manAt : on_Mv yX12_manAt cX12_manAt 4 (some .int) 2 := ⟨kw_7_216, kw_7_215, (on_mp (q := (yX12_manAt, 37)) (by decide +kernel)), kw_1_13, by decide, by decide, by decide +kernel⟩
def pf_X12_manAt_2 : Nat → Int → Int → Int → on_S → Option on_O
  | 0, _, _, _, _ => none
  | nf + 1, l1, l2, l3, σ =>
    on_Rd σ 78 687 3 fun v1 =>
    on_Lt l3 v1 (
      on_Cl (pf_X12_ofMan l3 2 σ) fun v2 σ3 =>
      on_Eq v2 l1 (
        on_Cl (pf_X12_ofMan l3 3 σ3) fun v4 σ5 =>
        on_Eq v4 l2 (
          some (l3, σ5)) (
          pf_X12_manAt_2 nf l1 l2 (l3 + 1) σ5)) (
        pf_X12_manAt_2 nf l1 l2 (l3 + 1) σ3)) (
      some ((-1), σ))
def pf_X12_manAt (p0 : Int) (p1 : Int) (σ : on_S) : Option on_O :=
  pf_X12_manAt_2 on_N p0 p1 0 σ
set_option maxRecDepth 100000 in
set_option maxHeartbeats 4000000 in
theorem gl_X12_manAt_2 {E : on_E} {z n : Nat} (X : on_X) (hN : 100 ≤ n) : ∀ (nf : Nat) (l1 : Int) (l2 : Int) (l3 : Int) (σ : on_S), on_G X E cX12_manAt RX12 (some .int) 1 22 4 z n σ (pf_X12_manAt_2 nf l1 l2 l3 σ) 2 [some (.ref (z + 77)), some (.int (on_i l1)), some (.int (on_i l2)), some (.int (on_i l3))] [] := by
  intro nf
  induction nf with
  | zero => intro l1 l2 l3 σ; exact on_none
  | succ nf ih =>
    intro l1 l2 l3 σ
    rw [pf_X12_manAt_2]
    refine on_il3 (tk_X12_manAt 2 rfl) ?_
    refine on_al0 (tk_X12_manAt 3 rfl) ?_
    refine fg_12_1 hN kw_6_141 (tk_X12_manAt 4 rfl) ?_
    refine on_iconst (tk_X12_manAt 5 rfl) ?_
    refine on_iald (ltc_78 hN) sh_78 (tk_X12_manAt 6 rfl) fun v1 => ?_
    refine on_icmp_ge (tk_X12_manAt 7 rfl) (tgt := 40) (by decide) ?_ ?_
    · refine on_al0 (tk_X12_manAt 8 rfl) ?_
      refine on_il3 (tk_X12_manAt 9 rfl) ?_
      refine on_iconst (tk_X12_manAt 10 rfl) ?_
      refine on_cV2i 12 ms_X12_ofMan kw_7_175 rfl rfl (ltc_77 hN) sh_77 (ct_X12_ofMan hN) rfl (tk_X12_manAt 11 rfl) fun v2 σ3 => ?_
      refine on_il1 (tk_X12_manAt 12 rfl) ?_
      refine on_icmp_ne (tk_X12_manAt 13 rfl) (tgt := 34) (by decide) ?_ ?_
      · refine on_al0 (tk_X12_manAt 14 rfl) ?_
        refine on_il3 (tk_X12_manAt 15 rfl) ?_
        refine on_iconst (tk_X12_manAt 16 rfl) ?_
        refine on_cV2i 12 ms_X12_ofMan kw_7_175 rfl rfl (ltc_77 hN) sh_77 (ct_X12_ofMan hN) rfl (tk_X12_manAt 17 rfl) fun v4 σ5 => ?_
        refine on_il2 (tk_X12_manAt 18 rfl) ?_
        refine on_icmp_ne (tk_X12_manAt 19 rfl) (tgt := 34) (by decide) ?_ ?_
        · refine on_il3 (tk_X12_manAt 20 rfl) ?_
          exact on_iret (tk_X12_manAt 21 rfl)
        · refine on_inc3 rfl (tk_X12_manAt 22 rfl) ?_
          refine on_goto (tk_X12_manAt 23 rfl) (tgt := 2) (by decide) ?_
          exact ih _ _ _ _
      · refine on_inc3 rfl (tk_X12_manAt 22 rfl) ?_
        refine on_goto (tk_X12_manAt 23 rfl) (tgt := 2) (by decide) ?_
        exact ih _ _ _ _
    · refine on_iconst (tk_X12_manAt 24 rfl) ?_
      exact on_iret (tk_X12_manAt 25 rfl)
set_option maxRecDepth 100000 in
set_option maxHeartbeats 4000000 in
theorem ct_X12_manAt {E : on_E} {z n : Nat} {p0 : Int} {p1 : Int} (hN : 100 ≤ n) {σ : on_S} : on_Sp E yX12_manAt cX12_manAt 4 (some .int) 1 22 z n [.ref (z + 77), .int (on_i p0), .int (on_i p1)] σ (pf_X12_manAt p0 p1 σ) := by
  refine on_met [some (.ref (z + 77)), some (.int (on_i p0)), some (.int (on_i p1)), none] (by decide) rfl rfl (fun X => ?_)
  rw [pf_X12_manAt]
  refine on_iconst (tk_X12_manAt 0 rfl) ?_
  refine on_is3 rfl (tk_X12_manAt 1 rfl) ?_
  exact gl_X12_manAt_2 X  hN on_N _ _ _ _
def tb_X12_quarrelOf : List (Nat × Nat × Nat × Instr) := [(0, 1, 1, .aload_n 0), (1, 3, 4, .getfield 9), (4, 2, 6, .bipush 76), (6, 2, 8, .bipush 9), (8, 1, 9, .iload_n 1), (9, 1, 10, .imul), (10, 1, 11, .iadd), (11, 1, 12, .iload_n 2), (12, 1, 13, .iadd), (13, 1, 14, .iaload), (14, 1, 15, .ireturn)]
set_option maxRecDepth 100000 in
theorem tk_X12_quarrelOf (k : Nat) {pc n pc2 : Nat} {i : Instr} (hk : tb_X12_quarrelOf[k]? = some (pc, n, pc2, i)) : on_dq cX12_quarrelOf pc n pc2 i := on_ta (by decide +kernel) k hk
theorem ms_X12_quarrelOf : on_Mv yX12_quarrelOf cX12_quarrelOf 3 (some .int) 2 := ⟨kw_8_0, kw_7_239, (on_mp (q := (yX12_quarrelOf, 37)) (by decide +kernel)), kw_1_13, by decide, by decide, by decide +kernel⟩
def pf_X12_quarrelOf (p0 : Int) (p1 : Int) (σ : on_S) : Option on_O :=
  on_Rd σ 78 687 ((76 + (9 * p0)) + p1) fun v1 =>
  some (v1, σ)
set_option maxRecDepth 100000 in
set_option maxHeartbeats 4000000 in
theorem ct_X12_quarrelOf {E : on_E} {z n : Nat} {p0 : Int} {p1 : Int} (hN : 100 ≤ n) {σ : on_S} : on_Sp E yX12_quarrelOf cX12_quarrelOf 3 (some .int) 0 0 z n [.ref (z + 77), .int (on_i p0), .int (on_i p1)] σ (pf_X12_quarrelOf p0 p1 σ) := by
  refine on_met [some (.ref (z + 77)), some (.int (on_i p0)), some (.int (on_i p1))] (by decide) rfl rfl (fun X => ?_)
  rw [pf_X12_quarrelOf]
  refine on_al0 (tk_X12_quarrelOf 0 rfl) ?_
  refine fg_12_1 hN kw_6_141 (tk_X12_quarrelOf 1 rfl) ?_
  refine on_bipush (tk_X12_quarrelOf 2 rfl) bp_76 ?_
  refine on_bipush (tk_X12_quarrelOf 3 rfl) bp_9 ?_
  refine on_il1 (tk_X12_quarrelOf 4 rfl) ?_
  refine on_imul (tk_X12_quarrelOf 5 rfl) ?_
  refine on_iadd (tk_X12_quarrelOf 6 rfl) ?_
  refine on_il2 (tk_X12_quarrelOf 7 rfl) ?_
  refine on_iadd (tk_X12_quarrelOf 8 rfl) ?_
  refine on_iald (ltc_78 hN) sh_78 (tk_X12_quarrelOf 9 rfl) fun v1 => ?_
  exact on_iret (tk_X12_quarrelOf 10 rfl)
def tb_X12_isFeud : List (Nat × Nat × Nat × Instr) := [(0, 1, 1, .aload_n 0), (1, 3, 4, .getfield 9), (4, 3, 7, .sipush 157), (7, 1, 8, .iconst 4), (8, 1, 9, .iload_n 1), (9, 1, 10, .imul), (10, 1, 11, .iadd), (11, 1, 12, .iload_n 2), (12, 1, 13, .iadd), (13, 1, 14, .iaload), (14, 1, 15, .iconst 1), (15, 3, 18, .if_icmp .ne 7), (18, 1, 19, .iconst 1), (19, 3, 22, .goto 4), (22, 1, 23, .iconst 0), (23, 1, 24, .ireturn)]
set_option maxRecDepth 100000 in
theorem tk_X12_isFeud (k : Nat) {pc n pc2 : Nat} {i : Instr} (hk : tb_X12_isFeud[k]? = some (pc, n, pc2, i)) : on_dq cX12_isFeud pc n pc2 i := on_ta (by decide +kernel) k hk
theorem ms_X12_isFeud : on_Mv yX12_isFeud cX12_isFeud 3 (some .boolean) 2 := ⟨kw_7_236, kw_7_235, (on_mp (q := (yX12_isFeud, 37)) (by decide +kernel)), kw_1_13, by decide, by decide, by decide +kernel⟩
def pf_X12_isFeud (p0 : Int) (p1 : Int) (σ : on_S) : Option on_O :=
  on_Rd σ 78 687 ((157 + (4 * p0)) + p1) fun v1 =>
  on_Eq v1 1 (
    some (1, σ)) (
    some (0, σ))
set_option maxRecDepth 100000 in
set_option maxHeartbeats 4000000 in
theorem ct_X12_isFeud {E : on_E} {z n : Nat} {p0 : Int} {p1 : Int} (hN : 100 ≤ n) {σ : on_S} : on_Sp E yX12_isFeud cX12_isFeud 3 (some .boolean) 0 0 z n [.ref (z + 77), .int (on_i p0), .int (on_i p1)] σ (pf_X12_isFeud p0 p1 σ) := by
  refine on_met [some (.ref (z + 77)), some (.int (on_i p0)), some (.int (on_i p1))] (by decide) rfl rfl (fun X => ?_)
  rw [pf_X12_isFeud]
  refine on_al0 (tk_X12_isFeud 0 rfl) ?_
  refine fg_12_1 hN kw_6_141 (tk_X12_isFeud 1 rfl) ?_
  refine on_sipush (tk_X12_isFeud 2 rfl) sp_157 ?_
  refine on_iconst (tk_X12_isFeud 3 rfl) ?_
  refine on_il1 (tk_X12_isFeud 4 rfl) ?_
  refine on_imul (tk_X12_isFeud 5 rfl) ?_
  refine on_iadd (tk_X12_isFeud 6 rfl) ?_
  refine on_il2 (tk_X12_isFeud 7 rfl) ?_
  refine on_iadd (tk_X12_isFeud 8 rfl) ?_
  refine on_iald (ltc_78 hN) sh_78 (tk_X12_isFeud 9 rfl) fun v1 => ?_
  refine on_iconst (tk_X12_isFeud 10 rfl) ?_
  refine on_icmp_ne (tk_X12_isFeud 11 rfl) (tgt := 22) (by decide) ?_ ?_
  · refine on_iconst (tk_X12_isFeud 12 rfl) ?_
    refine on_goto (tk_X12_isFeud 13 rfl) (tgt := 23) (by decide) ?_
    exact on_zret1 (tk_X12_isFeud 15 rfl)
  · refine on_iconst (tk_X12_isFeud 14 rfl) ?_
    exact on_zret0 (tk_X12_isFeud 15 rfl)
def tb_X12_weightOf : List (Nat × Nat × Nat × Instr) := [(0, 1, 1, .aload_n 0), (1, 3, 4, .getfield 9), (4, 3, 7, .sipush 173), (7, 1, 8, .iconst 2), (8, 1, 9, .iload_n 1), (9, 1, 10, .imul), (10, 1, 11, .iadd), (11, 1, 12, .iaload), (12, 1, 13, .ireturn)]
set_option maxRecDepth 100000 in
theorem tk_X12_weightOf (k : Nat) {pc n pc2 : Nat} {i : Instr} (hk : tb_X12_weightOf[k]? = some (pc, n, pc2, i)) : on_dq cX12_weightOf pc n pc2 i := on_ta (by decide +kernel) k hk
theorem ms_X12_weightOf : on_Mv yX12_weightOf cX12_weightOf 2 (some .int) 1 := ⟨kw_7_203, kw_7_202, (on_mp (q := (yX12_weightOf, 37)) (by decide +kernel)), kw_1_13, by decide, by decide, by decide +kernel⟩
def pf_X12_weightOf (p0 : Int) (σ : on_S) : Option on_O :=
  on_Rd σ 78 687 (173 + (2 * p0)) fun v1 =>
  some (v1, σ)
set_option maxRecDepth 100000 in
set_option maxHeartbeats 4000000 in
theorem ct_X12_weightOf {E : on_E} {z n : Nat} {p0 : Int} (hN : 100 ≤ n) {σ : on_S} : on_Sp E yX12_weightOf cX12_weightOf 2 (some .int) 0 0 z n [.ref (z + 77), .int (on_i p0)] σ (pf_X12_weightOf p0 σ) := by
  refine on_met [some (.ref (z + 77)), some (.int (on_i p0))] (by decide) rfl rfl (fun X => ?_)
  rw [pf_X12_weightOf]
  refine on_al0 (tk_X12_weightOf 0 rfl) ?_
  refine fg_12_1 hN kw_6_141 (tk_X12_weightOf 1 rfl) ?_
  refine on_sipush (tk_X12_weightOf 2 rfl) sp_173 ?_
  refine on_iconst (tk_X12_weightOf 3 rfl) ?_
  refine on_il1 (tk_X12_weightOf 4 rfl) ?_
  refine on_imul (tk_X12_weightOf 5 rfl) ?_
  refine on_iadd (tk_X12_weightOf 6 rfl) ?_
  refine on_iald (ltc_78 hN) sh_78 (tk_X12_weightOf 7 rfl) fun v1 => ?_
  exact on_iret (tk_X12_weightOf 8 rfl)
def tb_X12_windowOf : List (Nat × Nat × Nat × Instr) := [(0, 1, 1, .aload_n 0), (1, 3, 4, .getfield 9), (4, 3, 7, .sipush 173), (7, 1, 8, .iconst 2), (8, 1, 9, .iload_n 1), (9, 1, 10, .imul), (10, 1, 11, .iadd), (11, 1, 12, .iconst 1), (12, 1, 13, .iadd), (13, 1, 14, .iaload), (14, 1, 15, .ireturn)]
set_option maxRecDepth 100000 in
theorem tk_X12_windowOf (k : Nat) {pc n pc2 : Nat} {i : Instr} (hk : tb_X12_windowOf[k]? = some (pc, n, pc2, i)) : on_dq cX12_windowOf pc n pc2 i := on_ta (by decide +kernel) k hk
theorem ms_X12_windowOf : on_Mv yX12_windowOf cX12_windowOf 2 (some .int) 1 := ⟨kw_7_195, kw_7_194, (on_mp (q := (yX12_windowOf, 37)) (by decide +kernel)), kw_1_13, by decide, by decide, by decide +kernel⟩
def pf_X12_windowOf (p0 : Int) (σ : on_S) : Option on_O :=
  on_Rd σ 78 687 ((173 + (2 * p0)) + 1) fun v1 =>
  some (v1, σ)
set_option maxRecDepth 100000 in
set_option maxHeartbeats 4000000 in
theorem ct_X12_windowOf {E : on_E} {z n : Nat} {p0 : Int} (hN : 100 ≤ n) {σ : on_S} : on_Sp E yX12_windowOf cX12_windowOf 2 (some .int) 0 0 z n [.ref (z + 77), .int (on_i p0)] σ (pf_X12_windowOf p0 σ) := by
  refine on_met [some (.ref (z + 77)), some (.int (on_i p0))] (by decide) rfl rfl (fun X => ?_)
  rw [pf_X12_windowOf]
  refine on_al0 (tk_X12_windowOf 0 rfl) ?_
  refine fg_12_1 hN kw_6_141 (tk_X12_windowOf 1 rfl) ?_
  refine on_sipush (tk_X12_windowOf 2 rfl) sp_173 ?_
  refine on_iconst (tk_X12_windowOf 3 rfl) ?_
  refine on_il1 (tk_X12_windowOf 4 rfl) ?_
  refine on_imul (tk_X12_windowOf 5 rfl) ?_
  refine on_iadd (tk_X12_windowOf 6 rfl) ?_
  refine on_iconst (tk_X12_windowOf 7 rfl) ?_
  refine on_iadd (tk_X12_windowOf 8 rfl) ?_
  refine on_iald (ltc_78 hN) sh_78 (tk_X12_windowOf 9 rfl) fun v1 => ?_
  exact on_iret (tk_X12_windowOf 10 rfl)
def tb_X12_forceOf : List (Nat × Nat × Nat × Instr) := [(0, 1, 1, .aload_n 0), (1, 1, 2, .iload_n 1), (2, 3, 5, .invokevirtual 101), (5, 1, 6, .aload_n 0), (6, 1, 7, .aload_n 0), (7, 1, 8, .iload_n 1), (8, 3, 11, .invokevirtual 105), (11, 3, 14, .invokevirtual 108), (14, 1, 15, .imul), (15, 1, 16, .ireturn)]
set_option maxRecDepth 100000 in
theorem tk_X12_forceOf (k : Nat) {pc n pc2 : Nat} {i : Instr} (hk : tb_X12_forceOf[k]? = some (pc, n, pc2, i)) : on_dq cX12_forceOf pc n pc2 i := on_ta (by decide +kernel) k hk
theorem ms_X12_forceOf : on_Mv yX12_forceOf cX12_forceOf 2 (some .int) 1 := ⟨kw_7_199, kw_7_198, (on_mp (q := (yX12_forceOf, 37)) (by decide +kernel)), kw_1_13, by decide, by decide, by decide +kernel⟩
def pf_X12_forceOf (p0 : Int) (σ : on_S) : Option on_O :=
  on_Cl (pf_X12_weightOf p0 σ) fun v1 σ2 =>
  on_Cl (pf_X12_windowOf p0 σ2) fun v3 σ4 =>
  on_Cl (pf_X12_storeyOf v3 σ4) fun v5 σ6 =>
  some ((v1 * v5), σ6)
set_option maxRecDepth 100000 in
set_option maxHeartbeats 4000000 in
theorem ct_X12_forceOf {E : on_E} {z n : Nat} {p0 : Int} (hN : 100 ≤ n) {σ : on_S} : on_Sp E yX12_forceOf cX12_forceOf 2 (some .int) 1 21 z n [.ref (z + 77), .int (on_i p0)] σ (pf_X12_forceOf p0 σ) := by
  refine on_met [some (.ref (z + 77)), some (.int (on_i p0))] (by decide) rfl rfl (fun X => ?_)
  rw [pf_X12_forceOf]
  refine on_al0 (tk_X12_forceOf 0 rfl) ?_
  refine on_il1 (tk_X12_forceOf 1 rfl) ?_
  refine on_cV1i 12 ms_X12_weightOf kw_7_200 rfl rfl (ltc_77 hN) sh_77 (ct_X12_weightOf hN) rfl (tk_X12_forceOf 2 rfl) fun v1 σ2 => ?_
  refine on_al0 (tk_X12_forceOf 3 rfl) ?_
  refine on_al0 (tk_X12_forceOf 4 rfl) ?_
  refine on_il1 (tk_X12_forceOf 5 rfl) ?_
  refine on_cV1i 12 ms_X12_windowOf kw_7_192 rfl rfl (ltc_77 hN) sh_77 (ct_X12_windowOf hN) rfl (tk_X12_forceOf 6 rfl) fun v3 σ4 => ?_
  refine on_cV1i 12 ms_X12_storeyOf kw_7_154 rfl rfl (ltc_77 hN) sh_77 (ct_X12_storeyOf hN) rfl (tk_X12_forceOf 7 rfl) fun v5 σ6 => ?_
  refine on_imul (tk_X12_forceOf 8 rfl) ?_
  exact on_iret (tk_X12_forceOf 9 rfl)
def tb_X12_feed : List (Nat × Nat × Nat × Instr) := [(0, 1, 1, .aload_n 0), (1, 3, 4, .getfield 111), (4, 2, 6, .bipush 20), (6, 1, 7, .iadd), (7, 3, 10, .sipush 1400), (10, 3, 13, .if_icmp .le 5), (13, 1, 14, .iconst (-1)), (14, 1, 15, .ireturn), (15, 1, 16, .aload_n 0), (16, 3, 19, .getfield 24), (19, 1, 20, .iconst 0), (20, 1, 21, .iload_n 1), (21, 1, 22, .iastore), (22, 1, 23, .aload_n 0), (23, 3, 26, .getfield 24), (26, 1, 27, .iconst 1), (27, 1, 28, .iload_n 2), (28, 1, 29, .iastore), (29, 1, 30, .aload_n 0), (30, 3, 33, .getfield 24), (33, 1, 34, .iconst 2), (34, 1, 35, .iload_n 3), (35, 1, 36, .iastore), (36, 1, 37, .aload_n 0), (37, 3, 40, .getfield 24), (40, 1, 41, .iconst 3), (41, 2, 43, .iload 4), (43, 1, 44, .iastore), (44, 1, 45, .aload_n 0), (45, 3, 48, .getfield 24), (48, 1, 49, .iconst 4), (49, 2, 51, .iload 5), (51, 1, 52, .iastore), (52, 1, 53, .iconst 0), (53, 2, 55, .istore 6), (55, 2, 57, .iload 6), (57, 2, 59, .bipush 20), (59, 3, 62, .if_icmp .ge 42), (62, 1, 63, .aload_n 0), (63, 3, 66, .getfield 20), (66, 1, 67, .aload_n 0), (67, 3, 70, .getfield 111), (70, 2, 72, .iload 6), (72, 1, 73, .iadd), (73, 1, 74, .aload_n 0), (74, 3, 77, .getfield 24), (77, 2, 79, .iload 6), (79, 1, 80, .iconst 4), (80, 1, 81, .idiv), (81, 1, 82, .iaload), (82, 2, 84, .bipush 24), (84, 2, 86, .bipush 8), (86, 2, 88, .iload 6), (88, 1, 89, .iconst 4), (89, 1, 90, .irem), (90, 1, 91, .imul), (91, 1, 92, .isub), (92, 1, 93, .ishr), (93, 1, 94, .i2b), (94, 1, 95, .bastore), (95, 3, 98, .iinc 6 1), (98, 3, 101, .goto (-43)), (101, 1, 102, .aload_n 0), (102, 1, 103, .dup), (103, 3, 106, .getfield 111), (106, 2, 108, .bipush 20), (108, 1, 109, .iadd), (109, 3, 112, .putfield 111), (112, 1, 113, .aload_n 0), (113, 3, 116, .getfield 111), (116, 1, 117, .ireturn)]
set_option maxRecDepth 100000 in
theorem tk_X12_feed (k : Nat) {pc n pc2 : Nat} {i : Instr} (hk : tb_X12_feed[k]? = some (pc, n, pc2, i)) : on_dq cX12_feed pc n pc2 i := on_ta (by decide +kernel) k hk
theorem ms_X12_feed : on_Mv yX12_feed cX12_feed 7 (some .int) 5 := ⟨kw_7_28, kw_7_26, kw_7_27, kw_1_13, by decide, by decide, by decide +kernel⟩
def pf_X12_feed_55 : Nat → Int → on_S → Option on_O
  | 0, _, _ => none
  | nf + 1, l6, σ =>
    on_Lt l6 20 (
      on_Gt σ 77 5 fun v7 =>
      on_Dv l6 4 fun v8 =>
      on_Rd σ 82 5 v8 fun v9 =>
      on_Rm l6 4 fun v10 =>
      on_Wr σ 81 1400 (v7 + l6) (on_ib (on_ib (on_shr v9 (24 - (8 * v10))))) fun σ11 =>
      pf_X12_feed_55 nf (l6 + 1) σ11) (
      on_Gt σ 77 5 fun v12 =>
      on_Pt σ 77 5 (v12 + 20) fun σ13 =>
      on_Gt σ13 77 5 fun v14 =>
      some (v14, σ13))
def pf_X12_feed (p0 : Int) (p1 : Int) (p2 : Int) (p3 : Int) (p4 : Int) (σ : on_S) : Option on_O :=
  on_Gt σ 77 5 fun v1 =>
  on_Le (v1 + 20) 1400 (
    on_Wr σ 82 5 0 p0 fun σ2 =>
    on_Wr σ2 82 5 1 p1 fun σ3 =>
    on_Wr σ3 82 5 2 p2 fun σ4 =>
    on_Wr σ4 82 5 3 p3 fun σ5 =>
    on_Wr σ5 82 5 4 p4 fun σ6 =>
    pf_X12_feed_55 on_N 0 σ6) (
    some ((-1), σ))
set_option maxRecDepth 100000 in
set_option maxHeartbeats 4000000 in
theorem gl_X12_feed_55 {E : on_E} {z n : Nat} (X : on_X) (hN : 100 ≤ n) : ∀ (nf : Nat) (l6 : Int) (σ : on_S), on_G X E cX12_feed RX12 (some .int) 0 0 7 z n σ (pf_X12_feed_55 nf l6 σ) 55 [some (.ref (z + 77)), none, none, none, none, none, some (.int (on_i l6))] [] := by
  intro nf
  induction nf with
  | zero => intro l6 σ; exact on_none
  | succ nf ih =>
    intro l6 σ
    rw [pf_X12_feed_55]
    refine on_il6 (tk_X12_feed 35 rfl) ?_
    refine on_bipush (tk_X12_feed 36 rfl) bp_20 ?_
    refine on_icmp_ge (tk_X12_feed 37 rfl) (tgt := 101) (by decide) ?_ ?_
    · refine on_al0 (tk_X12_feed 38 rfl) ?_
      refine fg_12_4 hN kw_6_144 (tk_X12_feed 39 rfl) ?_
      refine on_al0 (tk_X12_feed 40 rfl) ?_
      refine fg_12_5 hN kw_6_145 (tk_X12_feed 41 rfl) fun v7 => ?_
      refine on_il6 (tk_X12_feed 42 rfl) ?_
      refine on_iadd (tk_X12_feed 43 rfl) ?_
      refine on_al0 (tk_X12_feed 44 rfl) ?_
      refine fg_12_6 hN kw_6_146 (tk_X12_feed 45 rfl) ?_
      refine on_il6 (tk_X12_feed 46 rfl) ?_
      refine on_iconst (tk_X12_feed 47 rfl) ?_
      refine on_idiv (tk_X12_feed 48 rfl) fun v8 => ?_
      refine on_iald (ltc_82 hN) sh_82 (tk_X12_feed 49 rfl) fun v9 => ?_
      refine on_bipush (tk_X12_feed 50 rfl) bp_24 ?_
      refine on_bipush (tk_X12_feed 51 rfl) bp_8 ?_
      refine on_il6 (tk_X12_feed 52 rfl) ?_
      refine on_iconst (tk_X12_feed 53 rfl) ?_
      refine on_irem (tk_X12_feed 54 rfl) fun v10 => ?_
      refine on_imul (tk_X12_feed 55 rfl) ?_
      refine on_isub (tk_X12_feed 56 rfl) ?_
      refine on_ishr (tk_X12_feed 57 rfl) ?_
      refine on_i2b (tk_X12_feed 58 rfl) ?_
      refine on_bast (ltc_81 hN) sh_81 (tk_X12_feed 59 rfl) fun σ11 => ?_
      refine on_inc6 rfl (tk_X12_feed 60 rfl) ?_
      refine on_goto (tk_X12_feed 61 rfl) (tgt := 55) (by decide) ?_
      exact ih _ _
    · refine on_al0 (tk_X12_feed 62 rfl) ?_
      refine on_dup rfl (tk_X12_feed 63 rfl) ?_
      refine fg_12_5 hN kw_6_145 (tk_X12_feed 64 rfl) fun v12 => ?_
      refine on_bipush (tk_X12_feed 65 rfl) bp_20 ?_
      refine on_iadd (tk_X12_feed 66 rfl) ?_
      refine fp_12_5 hN kw_6_145 (tk_X12_feed 67 rfl) fun σ13 => ?_
      refine on_al0 (tk_X12_feed 68 rfl) ?_
      refine fg_12_5 hN kw_6_145 (tk_X12_feed 69 rfl) fun v14 => ?_
      exact on_iret (tk_X12_feed 70 rfl)
set_option maxRecDepth 100000 in
set_option maxHeartbeats 4000000 in
theorem ct_X12_feed {E : on_E} {z n : Nat} {p0 : Int} {p1 : Int} {p2 : Int} {p3 : Int} {p4 : Int} (hN : 100 ≤ n) {σ : on_S} : on_Sp E yX12_feed cX12_feed 7 (some .int) 0 0 z n [.ref (z + 77), .int (on_i p0), .int (on_i p1), .int (on_i p2), .int (on_i p3), .int (on_i p4)] σ (pf_X12_feed p0 p1 p2 p3 p4 σ) := by
  refine on_met [some (.ref (z + 77)), some (.int (on_i p0)), some (.int (on_i p1)), some (.int (on_i p2)), some (.int (on_i p3)), some (.int (on_i p4)), none] (by decide) rfl rfl (fun X => ?_)
  rw [pf_X12_feed]
  refine on_al0 (tk_X12_feed 0 rfl) ?_
  refine fg_12_5 hN kw_6_145 (tk_X12_feed 1 rfl) fun v1 => ?_
  refine on_bipush (tk_X12_feed 2 rfl) bp_20 ?_
  refine on_iadd (tk_X12_feed 3 rfl) ?_
  refine on_sipush (tk_X12_feed 4 rfl) sp_1400 ?_
  refine on_icmp_le (tk_X12_feed 5 rfl) (tgt := 15) (by decide) ?_ ?_
  · refine on_iconst (tk_X12_feed 6 rfl) ?_
    exact on_iret (tk_X12_feed 7 rfl)
  · refine on_al0 (tk_X12_feed 8 rfl) ?_
    refine fg_12_6 hN kw_6_146 (tk_X12_feed 9 rfl) ?_
    refine on_iconst (tk_X12_feed 10 rfl) ?_
    refine on_il1 (tk_X12_feed 11 rfl) ?_
    refine on_iast (ltc_82 hN) sh_82 (tk_X12_feed 12 rfl) fun σ2 => ?_
    refine on_al0 (tk_X12_feed 13 rfl) ?_
    refine fg_12_6 hN kw_6_146 (tk_X12_feed 14 rfl) ?_
    refine on_iconst (tk_X12_feed 15 rfl) ?_
    refine on_il2 (tk_X12_feed 16 rfl) ?_
    refine on_iast (ltc_82 hN) sh_82 (tk_X12_feed 17 rfl) fun σ3 => ?_
    refine on_al0 (tk_X12_feed 18 rfl) ?_
    refine fg_12_6 hN kw_6_146 (tk_X12_feed 19 rfl) ?_
    refine on_iconst (tk_X12_feed 20 rfl) ?_
    refine on_il3 (tk_X12_feed 21 rfl) ?_
    refine on_iast (ltc_82 hN) sh_82 (tk_X12_feed 22 rfl) fun σ4 => ?_
    refine on_al0 (tk_X12_feed 23 rfl) ?_
    refine fg_12_6 hN kw_6_146 (tk_X12_feed 24 rfl) ?_
    refine on_iconst (tk_X12_feed 25 rfl) ?_
    refine on_il4 (tk_X12_feed 26 rfl) ?_
    refine on_iast (ltc_82 hN) sh_82 (tk_X12_feed 27 rfl) fun σ5 => ?_
    refine on_al0 (tk_X12_feed 28 rfl) ?_
    refine fg_12_6 hN kw_6_146 (tk_X12_feed 29 rfl) ?_
    refine on_iconst (tk_X12_feed 30 rfl) ?_
    refine on_il5 (tk_X12_feed 31 rfl) ?_
    refine on_iast (ltc_82 hN) sh_82 (tk_X12_feed 32 rfl) fun σ6 => ?_
    refine on_iconst (tk_X12_feed 33 rfl) ?_
    refine on_is6 rfl (tk_X12_feed 34 rfl) ?_
    refine on_dr1 ?_
    refine on_dr2 ?_
    refine on_dr3 ?_
    refine on_dr4 ?_
    refine on_dr5 ?_
    exact gl_X12_feed_55 X  hN on_N _ _
def tb_X12_end : List (Nat × Nat × Nat × Instr) := [(0, 1, 1, .iload_n 1), (1, 1, 2, .i2l), (2, 1, 3, .lconst 0), (3, 1, 4, .aload_n 0), (4, 3, 7, .getfield 111), (7, 1, 8, .i2l), (8, 3, 11, .invokestatic 88), (11, 3, 14, .ifCond .ne 5), (14, 1, 15, .iconst (-1)), (15, 1, 16, .ireturn), (16, 1, 17, .aload_n 0), (17, 1, 18, .iload_n 1), (18, 3, 21, .putfield 111), (21, 1, 22, .iload_n 1), (22, 1, 23, .ireturn)]
set_option maxRecDepth 100000 in
theorem tk_X12_end (k : Nat) {pc n pc2 : Nat} {i : Instr} (hk : tb_X12_end[k]? = some (pc, n, pc2, i)) : on_dq cX12_end pc n pc2 i := on_ta (by decide +kernel) k hk
theorem ms_X12_end : on_Mv yX12_end cX12_end 2 (some .int) 1 := ⟨kw_7_32, kw_7_30, kw_7_31, kw_1_13, by decide, by decide, by decide +kernel⟩
def pf_X12_end (p0 : Int) (σ : on_S) : Option on_O :=
  on_Ck p0 <|
  on_Gt σ 77 5 fun v1 =>
  on_Ck v1 <|
  on_Cl (pf_X12_in p0 0 v1 σ) fun v2 σ3 =>
  on_Eq v2 0 (
    some ((-1), σ3)) (
    on_Pt σ3 77 5 p0 fun σ4 =>
    some (p0, σ4))
set_option maxRecDepth 100000 in
set_option maxHeartbeats 4000000 in
theorem ct_X12_end {E : on_E} {z n : Nat} {p0 : Int} (hN : 100 ≤ n) {σ : on_S} : on_Sp E yX12_end cX12_end 2 (some .int) 1 25 z n [.ref (z + 77), .int (on_i p0)] σ (pf_X12_end p0 σ) := by
  refine on_met [some (.ref (z + 77)), some (.int (on_i p0))] (by decide) rfl rfl (fun X => ?_)
  rw [pf_X12_end]
  refine on_il1 (tk_X12_end 0 rfl) ?_
  refine on_xi2l (tk_X12_end 1 rfl) ?_
  refine on_lconst0 (tk_X12_end 2 rfl) ?_
  refine on_al0 (tk_X12_end 3 rfl) ?_
  refine fg_12_5 hN kw_6_145 (tk_X12_end 4 rfl) fun v1 => ?_
  refine on_xi2l (tk_X12_end 5 rfl) ?_
  refine on_cS3z ms_X12_in kw_7_18 (ct_X12_in hN) rfl (tk_X12_end 6 rfl) fun v2 σ3 => ?_
  refine on_if_ne (tk_X12_end 7 rfl) (tgt := 16) (by decide) ?_ ?_
  · refine on_iconst (tk_X12_end 8 rfl) ?_
    exact on_iret (tk_X12_end 9 rfl)
  · refine on_al0 (tk_X12_end 10 rfl) ?_
    refine on_il1 (tk_X12_end 11 rfl) ?_
    refine fp_12_5 hN kw_6_145 (tk_X12_end 12 rfl) fun σ4 => ?_
    refine on_il1 (tk_X12_end 13 rfl) ?_
    exact on_iret (tk_X12_end 14 rfl)
def tb_X12_see : List (Nat × Nat × Nat × Instr) := [(0, 1, 1, .iload_n 1), (1, 1, 2, .aload_n 0), (2, 3, 5, .getfield 114), (5, 3, 8, .if_icmp .ge 16), (8, 1, 9, .aload_n 0), (9, 3, 12, .getfield 20), (12, 1, 13, .iload_n 1), (13, 1, 14, .baload), (14, 3, 17, .sipush 255), (17, 1, 18, .iand), (18, 3, 21, .goto 4), (21, 1, 22, .iconst (-1)), (22, 1, 23, .ireturn)]
set_option maxRecDepth 100000 in
theorem tk_X12_see (k : Nat) {pc n pc2 : Nat} {i : Instr} (hk : tb_X12_see[k]? = some (pc, n, pc2, i)) : on_dq cX12_see pc n pc2 i := on_ta (by decide +kernel) k hk
theorem ms_X12_see : on_Mv yX12_see cX12_see 2 (some .int) 1 := ⟨kw_7_48, kw_7_47, (on_mp (q := (yX12_see, 37)) (by decide +kernel)), kw_1_13, by decide, by decide, by decide +kernel⟩
def pf_X12_see (p0 : Int) (σ : on_S) : Option on_O :=
  on_Gt σ 77 7 fun v1 =>
  on_Lt p0 v1 (
    on_Rd σ 81 1400 p0 fun v2 =>
    some ((on_and v2 255), σ)) (
    some ((-1), σ))
set_option maxRecDepth 100000 in
set_option maxHeartbeats 4000000 in
theorem ct_X12_see {E : on_E} {z n : Nat} {p0 : Int} (hN : 100 ≤ n) {σ : on_S} : on_Sp E yX12_see cX12_see 2 (some .int) 0 0 z n [.ref (z + 77), .int (on_i p0)] σ (pf_X12_see p0 σ) := by
  refine on_met [some (.ref (z + 77)), some (.int (on_i p0))] (by decide) rfl rfl (fun X => ?_)
  rw [pf_X12_see]
  refine on_il1 (tk_X12_see 0 rfl) ?_
  refine on_al0 (tk_X12_see 1 rfl) ?_
  refine fg_12_7 hN kw_6_147 (tk_X12_see 2 rfl) fun v1 => ?_
  refine on_icmp_ge (tk_X12_see 3 rfl) (tgt := 21) (by decide) ?_ ?_
  · refine on_al0 (tk_X12_see 4 rfl) ?_
    refine fg_12_4 hN kw_6_144 (tk_X12_see 5 rfl) ?_
    refine on_il1 (tk_X12_see 6 rfl) ?_
    refine on_bald (ltc_81 hN) sh_81 (tk_X12_see 7 rfl) fun v2 => ?_
    refine on_sipush (tk_X12_see 8 rfl) sp_255 ?_
    refine on_iand (tk_X12_see 9 rfl) ?_
    refine on_goto (tk_X12_see 10 rfl) (tgt := 22) (by decide) ?_
    exact on_iret (tk_X12_see 12 rfl)
  · refine on_iconst (tk_X12_see 11 rfl) ?_
    exact on_iret (tk_X12_see 12 rfl)
def tb_X12_advance : List (Nat × Nat × Nat × Instr) := [(0, 1, 1, .aload_n 0), (1, 1, 2, .aload_n 0), (2, 3, 5, .getfield 117), (5, 3, 8, .invokevirtual 120), (8, 2, 10, .bipush 32), (10, 3, 13, .if_icmp .eq 16), (13, 1, 14, .aload_n 0), (14, 1, 15, .aload_n 0), (15, 3, 18, .getfield 117), (18, 3, 21, .invokevirtual 120), (21, 2, 23, .bipush 10), (23, 3, 26, .if_icmp .ne 16), (26, 1, 27, .aload_n 0), (27, 1, 28, .dup), (28, 3, 31, .getfield 117), (31, 1, 32, .iconst 1), (32, 1, 33, .iadd), (33, 3, 36, .putfield 117), (36, 3, 39, .goto (-36)), (39, 1, 40, .aload_n 0), (40, 1, 41, .aload_n 0), (41, 3, 44, .getfield 117), (44, 3, 47, .putfield 123), (47, 1, 48, .aload_n 0), (48, 1, 49, .aload_n 0), (49, 3, 52, .getfield 117), (52, 3, 55, .invokevirtual 120), (55, 1, 56, .istore_n 1), (56, 1, 57, .iload_n 1), (57, 1, 58, .iconst (-1)), (58, 3, 61, .if_icmp .ne 11), (61, 1, 62, .aload_n 0), (62, 1, 63, .iconst 0), (63, 3, 66, .putfield 126), (66, 3, 69, .goto 173), (69, 1, 70, .iload_n 1), (70, 1, 71, .i2l), (71, 3, 74, .ldc2_w 129), (74, 3, 77, .ldc2_w 131), (77, 3, 80, .invokestatic 88), (80, 3, 83, .ifCond .eq 45), (83, 1, 84, .aload_n 0), (84, 1, 85, .aload_n 0), (85, 3, 88, .getfield 117), (88, 3, 91, .invokevirtual 120), (91, 1, 92, .i2l), (92, 3, 95, .ldc2_w 129), (95, 3, 98, .ldc2_w 131), (98, 3, 101, .invokestatic 88), (101, 3, 104, .ifCond .eq 16), (104, 1, 105, .aload_n 0), (105, 1, 106, .dup), (106, 3, 109, .getfield 117), (109, 1, 110, .iconst 1), (110, 1, 111, .iadd), (111, 3, 114, .putfield 117), (114, 3, 117, .goto (-31)), (117, 1, 118, .aload_n 0), (118, 1, 119, .iconst 1), (119, 3, 122, .putfield 126), (122, 3, 125, .goto 117), (125, 1, 126, .iload_n 1), (126, 1, 127, .i2l), (127, 3, 130, .ldc2_w 133), (130, 3, 133, .ldc2_w 135), (133, 3, 136, .invokestatic 88), (136, 3, 139, .ifCond .eq 78), (139, 1, 140, .aload_n 0), (140, 1, 141, .iconst 0), (141, 3, 144, .putfield 137), (144, 1, 145, .aload_n 0), (145, 1, 146, .aload_n 0), (146, 3, 149, .getfield 117), (149, 3, 152, .invokevirtual 120), (152, 1, 153, .i2l), (153, 3, 156, .ldc2_w 133), (156, 3, 159, .ldc2_w 135), (159, 3, 162, .invokestatic 88), (162, 3, 165, .ifCond .eq 44), (165, 1, 166, .aload_n 0), (166, 2, 168, .ldc 140), (168, 2, 170, .bipush 10), (170, 1, 171, .aload_n 0), (171, 3, 174, .getfield 137), (174, 1, 175, .imul), (175, 1, 176, .aload_n 0), (176, 1, 177, .aload_n 0), (177, 3, 180, .getfield 117), (180, 3, 183, .invokevirtual 120), (183, 1, 184, .iadd), (184, 2, 186, .bipush 48), (186, 1, 187, .isub), (187, 3, 190, .invokestatic 141), (190, 3, 193, .putfield 137), (193, 1, 194, .aload_n 0), (194, 1, 195, .dup), (195, 3, 198, .getfield 117), (198, 1, 199, .iconst 1), (199, 1, 200, .iadd), (200, 3, 203, .putfield 117), (203, 3, 206, .goto (-59)), (206, 1, 207, .aload_n 0), (207, 1, 208, .iconst 2), (208, 3, 211, .putfield 126), (211, 3, 214, .goto 28), (214, 1, 215, .aload_n 0), (215, 1, 216, .iload_n 1), (216, 2, 218, .bipush 59), (218, 3, 221, .if_icmp .ne 7), (221, 1, 222, .iconst 3), (222, 3, 225, .goto 4), (225, 1, 226, .iconst 4), (226, 3, 229, .putfield 126), (229, 1, 230, .aload_n 0), (230, 1, 231, .dup), (231, 3, 234, .getfield 117), (234, 1, 235, .iconst 1), (235, 1, 236, .iadd), (236, 3, 239, .putfield 117), (239, 1, 240, .return_)]
set_option maxRecDepth 100000 in
theorem tk_X12_advance (k : Nat) {pc n pc2 : Nat} {i : Instr} (hk : tb_X12_advance[k]? = some (pc, n, pc2, i)) : on_dq cX12_advance pc n pc2 i := on_ta (by decide +kernel) k hk
theorem ms_X12_advance : on_Mv yX12_advance cX12_advance 2 none 0 := ⟨kw_7_44, kw_7_43, (on_mp (q := (yX12_advance, 37)) (by decide +kernel)), kw_1_13, by decide, by decide, by decide +kernel⟩
def pf_X12_advance_26 (k0 : on_S → Option on_O) (σ : on_S) : Option on_O :=
  on_Gt σ 77 8 fun v7 =>
  on_Pt σ 77 8 (v7 + 1) fun σ8 =>
  k0 σ8
def pf_X12_advance_83 : Nat → on_S → Option on_O
  | 0, _ => none
  | nf + 1, σ =>
    on_Gt σ 77 8 fun v17 =>
    on_Cl (pf_X12_see v17 σ) fun v18 σ19 =>
    on_Ck v18 <|
    on_Cl (pf_X12_in v18 97 122 σ19) fun v20 σ21 =>
    on_Eq v20 0 (
      on_Pt σ21 77 10 1 fun σ24 =>
      some (0, σ24)) (
      on_Gt σ21 77 8 fun v22 =>
      on_Pt σ21 77 8 (v22 + 1) fun σ23 =>
      pf_X12_advance_83 nf σ23)
def pf_X12_advance_144 : Nat → on_S → Option on_O
  | 0, _ => none
  | nf + 1, σ =>
    on_Gt σ 77 8 fun v28 =>
    on_Cl (pf_X12_see v28 σ) fun v29 σ30 =>
    on_Ck v29 <|
    on_Cl (pf_X12_in v29 48 57 σ30) fun v31 σ32 =>
    on_Eq v31 0 (
      on_Pt σ32 77 10 2 fun σ41 =>
      some (0, σ41)) (
      on_Gt σ32 77 11 fun v33 =>
      on_Gt σ32 77 8 fun v34 =>
      on_Cl (pf_X12_see v34 σ32) fun v35 σ36 =>
      on_Mn 99999 (((10 * v33) + v35) - 48) fun v37 =>
      on_Pt σ36 77 11 v37 fun σ38 =>
      on_Gt σ38 77 8 fun v39 =>
      on_Pt σ38 77 8 (v39 + 1) fun σ40 =>
      pf_X12_advance_144 nf σ40)
def pf_X12_advance_226 (s1 : Int) (σ : on_S) : Option on_O :=
  on_Pt σ 77 10 s1 fun σ42 =>
  on_Gt σ42 77 8 fun v43 =>
  on_Pt σ42 77 8 (v43 + 1) fun σ44 =>
  some (0, σ44)
def pf_X12_advance_0 : Nat → on_S → Option on_O
  | 0, _ => none
  | nf + 1, σ =>
    on_Gt σ 77 8 fun v1 =>
    on_Cl (pf_X12_see v1 σ) fun v2 σ3 =>
    on_Eq v2 32 (
      pf_X12_advance_26 (pf_X12_advance_0 nf) σ3) (
      on_Gt σ3 77 8 fun v4 =>
      on_Cl (pf_X12_see v4 σ3) fun v5 σ6 =>
      on_Eq v5 10 (
        pf_X12_advance_26 (pf_X12_advance_0 nf) σ6) (
        on_Gt σ6 77 8 fun v9 =>
        on_Pt σ6 77 9 v9 fun σ10 =>
        on_Gt σ10 77 8 fun v11 =>
        on_Cl (pf_X12_see v11 σ10) fun v12 σ13 =>
        on_Eq v12 (-1) (
          on_Pt σ13 77 10 0 fun σ14 =>
          some (0, σ14)) (
          on_Ck v12 <|
          on_Cl (pf_X12_in v12 97 122 σ13) fun v15 σ16 =>
          on_Eq v15 0 (
            on_Ck v12 <|
            on_Cl (pf_X12_in v12 48 57 σ16) fun v25 σ26 =>
            on_Eq v25 0 (
              on_Eq v12 59 (
                pf_X12_advance_226 3 σ26) (
                pf_X12_advance_226 4 σ26)) (
              on_Pt σ26 77 11 0 fun σ27 =>
              pf_X12_advance_144 on_N σ27)) (
            pf_X12_advance_83 on_N σ16))))
def pf_X12_advance (σ : on_S) : Option on_O :=
  pf_X12_advance_0 on_N σ
set_option maxRecDepth 100000 in
set_option maxHeartbeats 4000000 in
theorem gb_X12_advance_26 {E : on_E} {z n : Nat} (X : on_X) (k0 : on_S → Option on_O) (hN : 100 ≤ n) (hk0 : ∀ (σ : on_S), on_G X E cX12_advance RX12 none 1 25 2 z n σ (k0 σ) 0 [some (.ref (z + 77)), none] []) (σ : on_S) : on_G X E cX12_advance RX12 none 1 25 2 z n σ (pf_X12_advance_26 k0  σ) 26 [some (.ref (z + 77)), none] [] := by
  rw [pf_X12_advance_26]
  refine on_al0 (tk_X12_advance 12 rfl) ?_
  refine on_dup rfl (tk_X12_advance 13 rfl) ?_
  refine fg_12_8 hN kw_6_148 (tk_X12_advance 14 rfl) fun v7 => ?_
  refine on_iconst (tk_X12_advance 15 rfl) ?_
  refine on_iadd (tk_X12_advance 16 rfl) ?_
  refine fp_12_8 hN kw_6_148 (tk_X12_advance 17 rfl) fun σ8 => ?_
  refine on_goto (tk_X12_advance 18 rfl) (tgt := 0) (by decide) ?_
  exact hk0 _
set_option maxRecDepth 100000 in
set_option maxHeartbeats 4000000 in
theorem gl_X12_advance_83 {E : on_E} {z n : Nat} (X : on_X) (hN : 100 ≤ n) : ∀ (nf : Nat) (σ : on_S), on_G X E cX12_advance RX12 none 1 25 2 z n σ (pf_X12_advance_83 nf  σ) 83 [some (.ref (z + 77)), none] [] := by
  intro nf
  induction nf with
  | zero => intro σ; exact on_none
  | succ nf ih =>
    intro σ
    rw [pf_X12_advance_83]
    refine on_al0 (tk_X12_advance 41 rfl) ?_
    refine on_al0 (tk_X12_advance 42 rfl) ?_
    refine fg_12_8 hN kw_6_148 (tk_X12_advance 43 rfl) fun v17 => ?_
    refine on_cV1i 12 ms_X12_see kw_7_45 rfl rfl (ltc_77 hN) sh_77 (ct_X12_see hN) rfl (tk_X12_advance 44 rfl) fun v18 σ19 => ?_
    refine on_xi2l (tk_X12_advance 45 rfl) ?_
    refine on_ldc2 (a := 97) kw_7_49 (by decide +kernel) (tk_X12_advance 46 rfl) ?_
    refine on_ldc2 (a := 122) kw_7_50 (by decide +kernel) (tk_X12_advance 47 rfl) ?_
    refine on_cS3z ms_X12_in kw_7_18 (ct_X12_in hN) rfl (tk_X12_advance 48 rfl) fun v20 σ21 => ?_
    refine on_if_eq (tk_X12_advance 49 rfl) (tgt := 117) (by decide) ?_ ?_
    · refine on_al0 (tk_X12_advance 50 rfl) ?_
      refine on_dup rfl (tk_X12_advance 51 rfl) ?_
      refine fg_12_8 hN kw_6_148 (tk_X12_advance 52 rfl) fun v22 => ?_
      refine on_iconst (tk_X12_advance 53 rfl) ?_
      refine on_iadd (tk_X12_advance 54 rfl) ?_
      refine fp_12_8 hN kw_6_148 (tk_X12_advance 55 rfl) fun σ23 => ?_
      refine on_goto (tk_X12_advance 56 rfl) (tgt := 83) (by decide) ?_
      exact ih _
    · refine on_al0 (tk_X12_advance 57 rfl) ?_
      refine on_iconst (tk_X12_advance 58 rfl) ?_
      refine fp_12_10 hN kw_6_150 (tk_X12_advance 59 rfl) fun σ24 => ?_
      refine on_goto (tk_X12_advance 60 rfl) (tgt := 239) (by decide) ?_
      exact on_vret (tk_X12_advance 119 rfl)
set_option maxRecDepth 100000 in
set_option maxHeartbeats 4000000 in
theorem gl_X12_advance_144 {E : on_E} {z n : Nat} (X : on_X) (hN : 100 ≤ n) : ∀ (nf : Nat) (σ : on_S), on_G X E cX12_advance RX12 none 1 25 2 z n σ (pf_X12_advance_144 nf  σ) 144 [some (.ref (z + 77)), none] [] := by
  intro nf
  induction nf with
  | zero => intro σ; exact on_none
  | succ nf ih =>
    intro σ
    rw [pf_X12_advance_144]
    refine on_al0 (tk_X12_advance 70 rfl) ?_
    refine on_al0 (tk_X12_advance 71 rfl) ?_
    refine fg_12_8 hN kw_6_148 (tk_X12_advance 72 rfl) fun v28 => ?_
    refine on_cV1i 12 ms_X12_see kw_7_45 rfl rfl (ltc_77 hN) sh_77 (ct_X12_see hN) rfl (tk_X12_advance 73 rfl) fun v29 σ30 => ?_
    refine on_xi2l (tk_X12_advance 74 rfl) ?_
    refine on_ldc2 (a := 48) kw_7_51 (by decide +kernel) (tk_X12_advance 75 rfl) ?_
    refine on_ldc2 (a := 57) kw_7_52 (by decide +kernel) (tk_X12_advance 76 rfl) ?_
    refine on_cS3z ms_X12_in kw_7_18 (ct_X12_in hN) rfl (tk_X12_advance 77 rfl) fun v31 σ32 => ?_
    refine on_if_eq (tk_X12_advance 78 rfl) (tgt := 206) (by decide) ?_ ?_
    · refine on_al0 (tk_X12_advance 79 rfl) ?_
      refine on_ldc (a := 99999) kw_7_53 (by decide +kernel) (tk_X12_advance 80 rfl) ?_
      refine on_bipush (tk_X12_advance 81 rfl) bp_10 ?_
      refine on_al0 (tk_X12_advance 82 rfl) ?_
      refine fg_12_11 hN kw_6_151 (tk_X12_advance 83 rfl) fun v33 => ?_
      refine on_imul (tk_X12_advance 84 rfl) ?_
      refine on_al0 (tk_X12_advance 85 rfl) ?_
      refine on_al0 (tk_X12_advance 86 rfl) ?_
      refine fg_12_8 hN kw_6_148 (tk_X12_advance 87 rfl) fun v34 => ?_
      refine on_cV1i 12 ms_X12_see kw_7_45 rfl rfl (ltc_77 hN) sh_77 (ct_X12_see hN) rfl (tk_X12_advance 88 rfl) fun v35 σ36 => ?_
      refine on_iadd (tk_X12_advance 89 rfl) ?_
      refine on_bipush (tk_X12_advance 90 rfl) bp_48 ?_
      refine on_isub (tk_X12_advance 91 rfl) ?_
      refine on_min kw_7_54 kwM_min_s kwM_i kwM_min_c rfl (tk_X12_advance 92 rfl) fun v37 => ?_
      refine fp_12_11 hN kw_6_151 (tk_X12_advance 93 rfl) fun σ38 => ?_
      refine on_al0 (tk_X12_advance 94 rfl) ?_
      refine on_dup rfl (tk_X12_advance 95 rfl) ?_
      refine fg_12_8 hN kw_6_148 (tk_X12_advance 96 rfl) fun v39 => ?_
      refine on_iconst (tk_X12_advance 97 rfl) ?_
      refine on_iadd (tk_X12_advance 98 rfl) ?_
      refine fp_12_8 hN kw_6_148 (tk_X12_advance 99 rfl) fun σ40 => ?_
      refine on_goto (tk_X12_advance 100 rfl) (tgt := 144) (by decide) ?_
      exact ih _
    · refine on_al0 (tk_X12_advance 101 rfl) ?_
      refine on_iconst (tk_X12_advance 102 rfl) ?_
      refine fp_12_10 hN kw_6_150 (tk_X12_advance 103 rfl) fun σ41 => ?_
      refine on_goto (tk_X12_advance 104 rfl) (tgt := 239) (by decide) ?_
      exact on_vret (tk_X12_advance 119 rfl)
set_option maxRecDepth 100000 in
set_option maxHeartbeats 4000000 in
theorem gb_X12_advance_226 {E : on_E} {z n : Nat} (X : on_X) (hN : 100 ≤ n) (s1 : Int) (σ : on_S) : on_G X E cX12_advance RX12 none 1 25 2 z n σ (pf_X12_advance_226 s1 σ) 226 [some (.ref (z + 77)), none] [.int (on_i s1), .ref (z + 77)] := by
  rw [pf_X12_advance_226]
  refine fp_12_10 hN kw_6_150 (tk_X12_advance 112 rfl) fun σ42 => ?_
  refine on_al0 (tk_X12_advance 113 rfl) ?_
  refine on_dup rfl (tk_X12_advance 114 rfl) ?_
  refine fg_12_8 hN kw_6_148 (tk_X12_advance 115 rfl) fun v43 => ?_
  refine on_iconst (tk_X12_advance 116 rfl) ?_
  refine on_iadd (tk_X12_advance 117 rfl) ?_
  refine fp_12_8 hN kw_6_148 (tk_X12_advance 118 rfl) fun σ44 => ?_
  exact on_vret (tk_X12_advance 119 rfl)
set_option maxRecDepth 100000 in
set_option maxHeartbeats 4000000 in
theorem gl_X12_advance_0 {E : on_E} {z n : Nat} (X : on_X) (hN : 100 ≤ n) : ∀ (nf : Nat) (σ : on_S), on_G X E cX12_advance RX12 none 1 25 2 z n σ (pf_X12_advance_0 nf  σ) 0 [some (.ref (z + 77)), none] [] := by
  intro nf
  induction nf with
  | zero => intro σ; exact on_none
  | succ nf ih =>
    intro σ
    rw [pf_X12_advance_0]
    refine on_al0 (tk_X12_advance 0 rfl) ?_
    refine on_al0 (tk_X12_advance 1 rfl) ?_
    refine fg_12_8 hN kw_6_148 (tk_X12_advance 2 rfl) fun v1 => ?_
    refine on_cV1i 12 ms_X12_see kw_7_45 rfl rfl (ltc_77 hN) sh_77 (ct_X12_see hN) rfl (tk_X12_advance 3 rfl) fun v2 σ3 => ?_
    refine on_bipush (tk_X12_advance 4 rfl) bp_32 ?_
    refine on_icmp_eq (tk_X12_advance 5 rfl) (tgt := 26) (by decide) ?_ ?_
    · refine on_al0 (tk_X12_advance 6 rfl) ?_
      refine on_al0 (tk_X12_advance 7 rfl) ?_
      refine fg_12_8 hN kw_6_148 (tk_X12_advance 8 rfl) fun v4 => ?_
      refine on_cV1i 12 ms_X12_see kw_7_45 rfl rfl (ltc_77 hN) sh_77 (ct_X12_see hN) rfl (tk_X12_advance 9 rfl) fun v5 σ6 => ?_
      refine on_bipush (tk_X12_advance 10 rfl) bp_10 ?_
      refine on_icmp_ne (tk_X12_advance 11 rfl) (tgt := 39) (by decide) ?_ ?_
      · exact gb_X12_advance_26 X _ hN ih _
      · refine on_al0 (tk_X12_advance 19 rfl) ?_
        refine on_al0 (tk_X12_advance 20 rfl) ?_
        refine fg_12_8 hN kw_6_148 (tk_X12_advance 21 rfl) fun v9 => ?_
        refine fp_12_9 hN kw_6_149 (tk_X12_advance 22 rfl) fun σ10 => ?_
        refine on_al0 (tk_X12_advance 23 rfl) ?_
        refine on_al0 (tk_X12_advance 24 rfl) ?_
        refine fg_12_8 hN kw_6_148 (tk_X12_advance 25 rfl) fun v11 => ?_
        refine on_cV1i 12 ms_X12_see kw_7_45 rfl rfl (ltc_77 hN) sh_77 (ct_X12_see hN) rfl (tk_X12_advance 26 rfl) fun v12 σ13 => ?_
        refine on_is1 rfl (tk_X12_advance 27 rfl) ?_
        refine on_il1 (tk_X12_advance 28 rfl) ?_
        refine on_iconst (tk_X12_advance 29 rfl) ?_
        refine on_icmp_ne (tk_X12_advance 30 rfl) (tgt := 69) (by decide) ?_ ?_
        · refine on_al0 (tk_X12_advance 31 rfl) ?_
          refine on_iconst (tk_X12_advance 32 rfl) ?_
          refine fp_12_10 hN kw_6_150 (tk_X12_advance 33 rfl) fun σ14 => ?_
          refine on_goto (tk_X12_advance 34 rfl) (tgt := 239) (by decide) ?_
          exact on_vret (tk_X12_advance 119 rfl)
        · refine on_il1 (tk_X12_advance 35 rfl) ?_
          refine on_xi2l (tk_X12_advance 36 rfl) ?_
          refine on_ldc2 (a := 97) kw_7_49 (by decide +kernel) (tk_X12_advance 37 rfl) ?_
          refine on_ldc2 (a := 122) kw_7_50 (by decide +kernel) (tk_X12_advance 38 rfl) ?_
          refine on_cS3z ms_X12_in kw_7_18 (ct_X12_in hN) rfl (tk_X12_advance 39 rfl) fun v15 σ16 => ?_
          refine on_if_eq (tk_X12_advance 40 rfl) (tgt := 125) (by decide) ?_ ?_
          · refine on_dr1 ?_
            exact gl_X12_advance_83 X  hN on_N _
          · refine on_il1 (tk_X12_advance 61 rfl) ?_
            refine on_xi2l (tk_X12_advance 62 rfl) ?_
            refine on_ldc2 (a := 48) kw_7_51 (by decide +kernel) (tk_X12_advance 63 rfl) ?_
            refine on_ldc2 (a := 57) kw_7_52 (by decide +kernel) (tk_X12_advance 64 rfl) ?_
            refine on_cS3z ms_X12_in kw_7_18 (ct_X12_in hN) rfl (tk_X12_advance 65 rfl) fun v25 σ26 => ?_
            refine on_if_eq (tk_X12_advance 66 rfl) (tgt := 214) (by decide) ?_ ?_
            · refine on_al0 (tk_X12_advance 67 rfl) ?_
              refine on_iconst (tk_X12_advance 68 rfl) ?_
              refine fp_12_11 hN kw_6_151 (tk_X12_advance 69 rfl) fun σ27 => ?_
              refine on_dr1 ?_
              exact gl_X12_advance_144 X  hN on_N _
            · refine on_al0 (tk_X12_advance 105 rfl) ?_
              refine on_il1 (tk_X12_advance 106 rfl) ?_
              refine on_bipush (tk_X12_advance 107 rfl) bp_59 ?_
              refine on_icmp_ne (tk_X12_advance 108 rfl) (tgt := 225) (by decide) ?_ ?_
              · refine on_iconst (tk_X12_advance 109 rfl) ?_
                refine on_goto (tk_X12_advance 110 rfl) (tgt := 226) (by decide) ?_
                refine on_dr1 ?_
                exact gb_X12_advance_226 X  hN _ _
              · refine on_iconst (tk_X12_advance 111 rfl) ?_
                refine on_dr1 ?_
                exact gb_X12_advance_226 X  hN _ _
    · exact gb_X12_advance_26 X _ hN ih _
set_option maxRecDepth 100000 in
set_option maxHeartbeats 4000000 in
theorem ct_X12_advance {E : on_E} {z n : Nat} (hN : 100 ≤ n) {σ : on_S} : on_Sp E yX12_advance cX12_advance 2 none 1 25 z n [.ref (z + 77)] σ (pf_X12_advance  σ) := by
  refine on_met [some (.ref (z + 77)), none] (by decide) rfl rfl (fun X => ?_)
  rw [pf_X12_advance]
  exact gl_X12_advance_0 X  hN on_N _
def tb_X12_good : List (Nat × Nat × Nat × Instr) := [(0, 1, 1, .aload_n 0), (1, 3, 4, .getfield 146), (4, 3, 7, .ifCond .ne 7), (7, 1, 8, .iconst 1), (8, 3, 11, .goto 4), (11, 1, 12, .iconst 0), (12, 1, 13, .ireturn)]
set_option maxRecDepth 100000 in
theorem tk_X12_good (k : Nat) {pc n pc2 : Nat} {i : Instr} (hk : tb_X12_good[k]? = some (pc, n, pc2, i)) : on_dq cX12_good pc n pc2 i := on_ta (by decide +kernel) k hk
theorem ms_X12_good : on_Mv yX12_good cX12_good 1 (some .boolean) 0 := ⟨kw_7_58, kw_7_57, (on_mp (q := (yX12_good, 37)) (by decide +kernel)), kw_1_13, by decide, by decide, by decide +kernel⟩
def pf_X12_good (σ : on_S) : Option on_O :=
  on_Gt σ 77 12 fun v1 =>
  on_Eq v1 0 (
    some (1, σ)) (
    some (0, σ))
set_option maxRecDepth 100000 in
set_option maxHeartbeats 4000000 in
theorem ct_X12_good {E : on_E} {z n : Nat} (hN : 100 ≤ n) {σ : on_S} : on_Sp E yX12_good cX12_good 1 (some .boolean) 0 0 z n [.ref (z + 77)] σ (pf_X12_good  σ) := by
  refine on_met [some (.ref (z + 77))] (by decide) rfl rfl (fun X => ?_)
  rw [pf_X12_good]
  refine on_al0 (tk_X12_good 0 rfl) ?_
  refine fg_12_12 hN kw_6_152 (tk_X12_good 1 rfl) fun v1 => ?_
  refine on_if_ne (tk_X12_good 2 rfl) (tgt := 11) (by decide) ?_ ?_
  · refine on_iconst (tk_X12_good 3 rfl) ?_
    refine on_goto (tk_X12_good 4 rfl) (tgt := 12) (by decide) ?_
    exact on_zret1 (tk_X12_good 6 rfl)
  · refine on_iconst (tk_X12_good 5 rfl) ?_
    exact on_zret0 (tk_X12_good 6 rfl)
def tb_X12_errs : List (Nat × Nat × Nat × Instr) := [(0, 1, 1, .aload_n 0), (1, 3, 4, .invokevirtual 149), (4, 3, 7, .ifCond .ne 4), (7, 1, 8, .return_), (8, 1, 9, .aload_n 0), (9, 1, 10, .iload_n 1), (10, 3, 13, .putfield 146), (13, 1, 14, .aload_n 0), (14, 1, 15, .aload_n 0), (15, 3, 18, .getfield 123), (18, 3, 21, .putfield 27), (21, 1, 22, .return_)]
set_option maxRecDepth 100000 in
theorem tk_X12_errs (k : Nat) {pc n pc2 : Nat} {i : Instr} (hk : tb_X12_errs[k]? = some (pc, n, pc2, i)) : on_dq cX12_errs pc n pc2 i := on_ta (by decide +kernel) k hk
theorem ms_X12_errs : on_Mv yX12_errs cX12_errs 2 none 1 := ⟨kw_7_81, kw_7_80, (on_mp (q := (yX12_errs, 37)) (by decide +kernel)), kw_1_13, by decide, by decide, by decide +kernel⟩
def pf_X12_errs (p0 : Int) (σ : on_S) : Option on_O :=
  on_Cl (pf_X12_good σ) fun v1 σ2 =>
  on_Eq v1 0 (
    some (0, σ2)) (
    on_Pt σ2 77 12 p0 fun σ3 =>
    on_Gt σ3 77 9 fun v4 =>
    on_Pt σ3 77 13 v4 fun σ5 =>
    some (0, σ5))
set_option maxRecDepth 100000 in
set_option maxHeartbeats 4000000 in
theorem ct_X12_errs {E : on_E} {z n : Nat} {p0 : Int} (hN : 100 ≤ n) {σ : on_S} : on_Sp E yX12_errs cX12_errs 2 none 1 20 z n [.ref (z + 77), .int (on_i p0)] σ (pf_X12_errs p0 σ) := by
  refine on_met [some (.ref (z + 77)), some (.int (on_i p0))] (by decide) rfl rfl (fun X => ?_)
  rw [pf_X12_errs]
  refine on_al0 (tk_X12_errs 0 rfl) ?_
  refine on_cV0z 12 ms_X12_good kw_7_55 rfl rfl (ltc_77 hN) sh_77 (ct_X12_good hN) rfl (tk_X12_errs 1 rfl) fun v1 σ2 => ?_
  refine on_if_ne (tk_X12_errs 2 rfl) (tgt := 8) (by decide) ?_ ?_
  · exact on_vret (tk_X12_errs 3 rfl)
  · refine on_al0 (tk_X12_errs 4 rfl) ?_
    refine on_il1 (tk_X12_errs 5 rfl) ?_
    refine fp_12_12 hN kw_6_152 (tk_X12_errs 6 rfl) fun σ3 => ?_
    refine on_al0 (tk_X12_errs 7 rfl) ?_
    refine on_al0 (tk_X12_errs 8 rfl) ?_
    refine fg_12_9 hN kw_6_149 (tk_X12_errs 9 rfl) fun v4 => ?_
    refine fp_12_13 hN kw_6_153 (tk_X12_errs 10 rfl) fun σ5 => ?_
    exact on_vret (tk_X12_errs 11 rfl)
def tb_X12_is : List (Nat × Nat × Nat × Instr) := [(0, 1, 1, .aload_n 0), (1, 3, 4, .invokevirtual 149), (4, 3, 7, .ifCond .eq 31), (7, 1, 8, .aload_n 0), (8, 3, 11, .getfield 126), (11, 1, 12, .iconst 1), (12, 3, 15, .if_icmp .ne 23), (15, 1, 16, .aload_n 0), (16, 3, 19, .getfield 117), (19, 1, 20, .aload_n 0), (20, 3, 23, .getfield 123), (23, 1, 24, .isub), (24, 1, 25, .aload_n 1), (25, 3, 28, .invokevirtual 153), (28, 3, 31, .if_icmp .ne 7), (31, 1, 32, .iconst 1), (32, 3, 35, .goto 4), (35, 1, 36, .iconst 0), (36, 1, 37, .istore_n 2), (37, 1, 38, .iconst 0), (38, 1, 39, .istore_n 3), (39, 1, 40, .iload_n 3), (40, 1, 41, .aload_n 1), (41, 3, 44, .invokevirtual 153), (44, 3, 47, .if_icmp .ge 38), (47, 1, 48, .iload_n 2), (48, 3, 51, .ifCond .eq 34), (51, 1, 52, .aload_n 0), (52, 3, 55, .getfield 20), (55, 1, 56, .aload_n 0), (56, 3, 59, .getfield 123), (59, 1, 60, .iload_n 3), (60, 1, 61, .iadd), (61, 1, 62, .baload), (62, 1, 63, .aload_n 1), (63, 1, 64, .iload_n 3), (64, 3, 67, .invokevirtual 159), (67, 3, 70, .if_icmp .ne 7), (70, 1, 71, .iconst 1), (71, 3, 74, .goto 4), (74, 1, 75, .iconst 0), (75, 1, 76, .istore_n 2), (76, 3, 79, .iinc 3 1), (79, 3, 82, .goto (-40)), (82, 1, 83, .iload_n 2), (83, 1, 84, .ireturn)]
set_option maxRecDepth 100000 in
theorem tk_X12_is (k : Nat) {pc n pc2 : Nat} {i : Instr} (hk : tb_X12_is[k]? = some (pc, n, pc2, i)) : on_dq cX12_is pc n pc2 i := on_ta (by decide +kernel) k hk
theorem ms_X12_is : on_Mv yX12_is cX12_is 4 (some .boolean) 1 := ⟨kw_7_75, kw_7_74, (on_mp (q := (yX12_is, 37)) (by decide +kernel)), kw_1_13, by decide, by decide, by decide +kernel⟩
def pf_X12_is_39 (p0 : Nat) : Nat → Int → Int → on_S → Option on_O
  | 0, _, _, _ => none
  | nf + 1, l2, l3, σ =>
    on_Sl p0 fun v7 =>
    on_Lt l3 v7 (
      on_Eq l2 0 (
        on_Bz l2 σ) (
        on_Gt σ 77 9 fun v8 =>
        on_Rd σ 81 1400 (v8 + l3) fun v9 =>
        on_Sc p0 l3 fun v10 =>
        on_Eq v9 v10 (
          pf_X12_is_39 p0 nf 1 (l3 + 1) σ) (
          pf_X12_is_39 p0 nf 0 (l3 + 1) σ))) (
      on_Bz l2 σ)
def pf_X12_is_36 (p0 : Nat) (s0 : Int) (σ : on_S) : Option on_O :=
  pf_X12_is_39 p0 on_N s0 0 σ
def pf_X12_is_35 (p0 : Nat) (σ : on_S) : Option on_O :=
  pf_X12_is_36 p0 0 σ
def pf_X12_is (p0 : Nat) (σ : on_S) : Option on_O :=
  on_Cl (pf_X12_good σ) fun v1 σ2 =>
  on_Eq v1 0 (
    pf_X12_is_35 p0 σ2) (
    on_Gt σ2 77 10 fun v3 =>
    on_Eq v3 1 (
      on_Gt σ2 77 8 fun v4 =>
      on_Gt σ2 77 9 fun v5 =>
      on_Sl p0 fun v6 =>
      on_Eq (v4 - v5) v6 (
        pf_X12_is_36 p0 1 σ2) (
        pf_X12_is_35 p0 σ2)) (
      pf_X12_is_35 p0 σ2))
set_option maxRecDepth 100000 in
set_option maxHeartbeats 4000000 in
theorem gl_X12_is_39 {E : on_E} {z n : Nat} (X : on_X) (p0 : Nat) (hN : 100 ≤ n) (hj0 : p0 < 17) : ∀ (nf : Nat) (l2 : Int) (l3 : Int) (σ : on_S), on_G X E cX12_is RX12 (some .boolean) 4 85 4 z n σ (pf_X12_is_39 p0 nf l2 l3 σ) 39 [some (.ref (z + 77)), some (.ref (E.2.2.2.1 p0)), some (.int (on_i l2)), some (.int (on_i l3))] [] := by
  intro nf
  induction nf with
  | zero => intro l2 l3 σ; exact on_none
  | succ nf ih =>
    intro l2 l3 σ
    rw [pf_X12_is_39]
    refine on_il3 (tk_X12_is 21 rfl) ?_
    refine on_al1 (tk_X12_is 22 rfl) ?_
    refine on_slen hj0 kw_7_76 rfl (tk_X12_is 23 rfl) fun v7 => ?_
    refine on_icmp_ge (tk_X12_is 24 rfl) (tgt := 82) (by decide) ?_ ?_
    · refine on_il2 (tk_X12_is 25 rfl) ?_
      refine on_if_eq (tk_X12_is 26 rfl) (tgt := 82) (by decide) ?_ ?_
      · refine on_al0 (tk_X12_is 27 rfl) ?_
        refine fg_12_4 hN kw_6_144 (tk_X12_is 28 rfl) ?_
        refine on_al0 (tk_X12_is 29 rfl) ?_
        refine fg_12_9 hN kw_6_149 (tk_X12_is 30 rfl) fun v8 => ?_
        refine on_il3 (tk_X12_is 31 rfl) ?_
        refine on_iadd (tk_X12_is 32 rfl) ?_
        refine on_bald (ltc_81 hN) sh_81 (tk_X12_is 33 rfl) fun v9 => ?_
        refine on_al1 (tk_X12_is 34 rfl) ?_
        refine on_il3 (tk_X12_is 35 rfl) ?_
        refine on_schr hj0 kw_7_77 rfl (tk_X12_is 36 rfl) fun v10 => ?_
        refine on_icmp_ne (tk_X12_is 37 rfl) (tgt := 74) (by decide) ?_ ?_
        · refine on_iconst (tk_X12_is 38 rfl) ?_
          refine on_goto (tk_X12_is 39 rfl) (tgt := 75) (by decide) ?_
          refine on_is2 rfl (tk_X12_is 41 rfl) ?_
          refine on_inc3 rfl (tk_X12_is 42 rfl) ?_
          refine on_goto (tk_X12_is 43 rfl) (tgt := 39) (by decide) ?_
          exact ih _ _ _
        · refine on_iconst (tk_X12_is 40 rfl) ?_
          refine on_is2 rfl (tk_X12_is 41 rfl) ?_
          refine on_inc3 rfl (tk_X12_is 42 rfl) ?_
          refine on_goto (tk_X12_is 43 rfl) (tgt := 39) (by decide) ?_
          exact ih _ _ _
      · refine on_il2 (tk_X12_is 44 rfl) ?_
        exact on_zret (tk_X12_is 45 rfl)
    · refine on_il2 (tk_X12_is 44 rfl) ?_
      exact on_zret (tk_X12_is 45 rfl)
set_option maxRecDepth 100000 in
set_option maxHeartbeats 4000000 in
theorem gb_X12_is_36 {E : on_E} {z n : Nat} (X : on_X) (p0 : Nat) (hN : 100 ≤ n) (hj0 : p0 < 17) (s0 : Int) (σ : on_S) : on_G X E cX12_is RX12 (some .boolean) 4 85 4 z n σ (pf_X12_is_36 p0 s0 σ) 36 [some (.ref (z + 77)), some (.ref (E.2.2.2.1 p0)), none, none] [.int (on_i s0)] := by
  rw [pf_X12_is_36]
  refine on_is2 rfl (tk_X12_is 18 rfl) ?_
  refine on_iconst (tk_X12_is 19 rfl) ?_
  refine on_is3 rfl (tk_X12_is 20 rfl) ?_
  exact gl_X12_is_39 X _ hN hj0 on_N _ _ _
set_option maxRecDepth 100000 in
set_option maxHeartbeats 4000000 in
theorem gb_X12_is_35 {E : on_E} {z n : Nat} (X : on_X) (p0 : Nat) (hN : 100 ≤ n) (hj0 : p0 < 17) (σ : on_S) : on_G X E cX12_is RX12 (some .boolean) 4 85 4 z n σ (pf_X12_is_35 p0  σ) 35 [some (.ref (z + 77)), some (.ref (E.2.2.2.1 p0)), none, none] [] := by
  rw [pf_X12_is_35]
  refine on_iconst (tk_X12_is 17 rfl) ?_
  exact gb_X12_is_36 X _ hN hj0 _ _
set_option maxRecDepth 100000 in
set_option maxHeartbeats 4000000 in
theorem ct_X12_is {E : on_E} {z n : Nat} {p0 : Nat} (hN : 100 ≤ n) (hj0 : p0 < 17) {σ : on_S} : on_Sp E yX12_is cX12_is 4 (some .boolean) 4 85 z n [.ref (z + 77), .ref (E.2.2.2.1 p0)] σ (pf_X12_is p0 σ) := by
  refine on_met [some (.ref (z + 77)), some (.ref (E.2.2.2.1 p0)), none, none] (by decide) rfl rfl (fun X => ?_)
  rw [pf_X12_is]
  refine on_al0 (tk_X12_is 0 rfl) ?_
  refine on_cV0z 12 ms_X12_good kw_7_55 rfl rfl (ltc_77 hN) sh_77 (ct_X12_good hN) rfl (tk_X12_is 1 rfl) fun v1 σ2 => ?_
  refine on_if_eq (tk_X12_is 2 rfl) (tgt := 35) (by decide) ?_ ?_
  · refine on_al0 (tk_X12_is 3 rfl) ?_
    refine fg_12_10 hN kw_6_150 (tk_X12_is 4 rfl) fun v3 => ?_
    refine on_iconst (tk_X12_is 5 rfl) ?_
    refine on_icmp_ne (tk_X12_is 6 rfl) (tgt := 35) (by decide) ?_ ?_
    · refine on_al0 (tk_X12_is 7 rfl) ?_
      refine fg_12_8 hN kw_6_148 (tk_X12_is 8 rfl) fun v4 => ?_
      refine on_al0 (tk_X12_is 9 rfl) ?_
      refine fg_12_9 hN kw_6_149 (tk_X12_is 10 rfl) fun v5 => ?_
      refine on_isub (tk_X12_is 11 rfl) ?_
      refine on_al1 (tk_X12_is 12 rfl) ?_
      refine on_slen hj0 kw_7_76 rfl (tk_X12_is 13 rfl) fun v6 => ?_
      refine on_icmp_ne (tk_X12_is 14 rfl) (tgt := 35) (by decide) ?_ ?_
      · refine on_iconst (tk_X12_is 15 rfl) ?_
        refine on_goto (tk_X12_is 16 rfl) (tgt := 36) (by decide) ?_
        exact gb_X12_is_36 X _ hN hj0 _ _
      · exact gb_X12_is_35 X _ hN hj0 _
    · exact gb_X12_is_35 X _ hN hj0 _
  · exact gb_X12_is_35 X _ hN hj0 _
def tb_X12_takes : List (Nat × Nat × Nat × Instr) := [(0, 1, 1, .aload_n 0), (1, 1, 2, .aload_n 1), (2, 3, 5, .invokevirtual 163), (5, 1, 6, .istore_n 2), (6, 1, 7, .iload_n 2), (7, 3, 10, .ifCond .eq 7), (10, 1, 11, .aload_n 0), (11, 3, 14, .invokevirtual 167), (14, 1, 15, .iload_n 2), (15, 1, 16, .ireturn)]
set_option maxRecDepth 100000 in
theorem tk_X12_takes (k : Nat) {pc n pc2 : Nat} {i : Instr} (hk : tb_X12_takes[k]? = some (pc, n, pc2, i)) : on_dq cX12_takes pc n pc2 i := on_ta (by decide +kernel) k hk
theorem ms_X12_takes : on_Mv yX12_takes cX12_takes 3 (some .boolean) 1 := ⟨kw_7_71, kw_7_70, (on_mp (q := (yX12_takes, 37)) (by decide +kernel)), kw_1_13, by decide, by decide, by decide +kernel⟩
def pf_X12_takes (p0 : Nat) (σ : on_S) : Option on_O :=
  on_Cl (pf_X12_is p0 σ) fun v1 σ2 =>
  on_Eq v1 0 (
    on_Bz v1 σ2) (
    on_Cl (pf_X12_advance σ2) fun _ σ4 =>
    on_Bz v1 σ4)
set_option maxRecDepth 100000 in
set_option maxHeartbeats 4000000 in
theorem ct_X12_takes {E : on_E} {z n : Nat} {p0 : Nat} (hN : 100 ≤ n) (hj0 : p0 < 17) {σ : on_S} : on_Sp E yX12_takes cX12_takes 3 (some .boolean) 5 108 z n [.ref (z + 77), .ref (E.2.2.2.1 p0)] σ (pf_X12_takes p0 σ) := by
  refine on_met [some (.ref (z + 77)), some (.ref (E.2.2.2.1 p0)), none] (by decide) rfl rfl (fun X => ?_)
  rw [pf_X12_takes]
  refine on_al0 (tk_X12_takes 0 rfl) ?_
  refine on_al1 (tk_X12_takes 1 rfl) ?_
  refine on_cV1z 12 ms_X12_is kw_7_72 rfl rfl (ltc_77 hN) sh_77 (ct_X12_is hN hj0) rfl (tk_X12_takes 2 rfl) fun v1 σ2 => ?_
  refine on_is2 rfl (tk_X12_takes 3 rfl) ?_
  refine on_il2 (tk_X12_takes 4 rfl) ?_
  refine on_if_eq (tk_X12_takes 5 rfl) (tgt := 14) (by decide) ?_ ?_
  · refine on_al0 (tk_X12_takes 6 rfl) ?_
    refine on_cV0v 12 ms_X12_advance kw_7_41 rfl rfl (ltc_77 hN) sh_77 (ct_X12_advance hN) rfl (tk_X12_takes 7 rfl) fun v3 σ4 => ?_
    refine on_il2 (tk_X12_takes 8 rfl) ?_
    exact on_zret (tk_X12_takes 9 rfl)
  · refine on_il2 (tk_X12_takes 8 rfl) ?_
    exact on_zret (tk_X12_takes 9 rfl)
def tb_X12_needs : List (Nat × Nat × Nat × Instr) := [(0, 1, 1, .aload_n 0), (1, 1, 2, .aload_n 1), (2, 3, 5, .invokevirtual 170), (5, 3, 8, .ifCond .ne 8), (8, 1, 9, .aload_n 0), (9, 1, 10, .iconst 1), (10, 3, 13, .invokevirtual 173), (13, 1, 14, .return_)]
set_option maxRecDepth 100000 in
theorem tk_X12_needs (k : Nat) {pc n pc2 : Nat} {i : Instr} (hk : tb_X12_needs[k]? = some (pc, n, pc2, i)) : on_dq cX12_needs pc n pc2 i := on_ta (by decide +kernel) k hk
theorem ms_X12_needs : on_Mv yX12_needs cX12_needs 2 none 1 := ⟨kw_7_67, kw_7_66, (on_mp (q := (yX12_needs, 37)) (by decide +kernel)), kw_1_13, by decide, by decide, by decide +kernel⟩
def pf_X12_needs (p0 : Nat) (σ : on_S) : Option on_O :=
  on_Cl (pf_X12_takes p0 σ) fun v1 σ2 =>
  on_Eq v1 0 (
    on_Cl (pf_X12_errs 1 σ2) fun _ σ4 =>
    some (0, σ4)) (
    some (0, σ2))
set_option maxRecDepth 100000 in
set_option maxHeartbeats 4000000 in
theorem ct_X12_needs {E : on_E} {z n : Nat} {p0 : Nat} (hN : 100 ≤ n) (hj0 : p0 < 17) {σ : on_S} : on_Sp E yX12_needs cX12_needs 2 none 6 130 z n [.ref (z + 77), .ref (E.2.2.2.1 p0)] σ (pf_X12_needs p0 σ) := by
  refine on_met [some (.ref (z + 77)), some (.ref (E.2.2.2.1 p0))] (by decide) rfl rfl (fun X => ?_)
  rw [pf_X12_needs]
  refine on_al0 (tk_X12_needs 0 rfl) ?_
  refine on_al1 (tk_X12_needs 1 rfl) ?_
  refine on_cV1z 12 ms_X12_takes kw_7_68 rfl rfl (ltc_77 hN) sh_77 (ct_X12_takes hN hj0) rfl (tk_X12_needs 2 rfl) fun v1 σ2 => ?_
  refine on_if_ne (tk_X12_needs 3 rfl) (tgt := 13) (by decide) ?_ ?_
  · refine on_al0 (tk_X12_needs 4 rfl) ?_
    refine on_iconst (tk_X12_needs 5 rfl) ?_
    refine on_cV1v 12 ms_X12_errs kw_7_78 rfl rfl (ltc_77 hN) sh_77 (ct_X12_errs hN) rfl (tk_X12_needs 6 rfl) fun v3 σ4 => ?_
    exact on_vret (tk_X12_needs 7 rfl)
  · exact on_vret (tk_X12_needs 7 rfl)
def tb_X12_number : List (Nat × Nat × Nat × Instr) := [(0, 1, 1, .aload_n 0), (1, 3, 4, .invokevirtual 149), (4, 3, 7, .ifCond .eq 16), (7, 1, 8, .aload_n 0), (8, 3, 11, .getfield 126), (11, 1, 12, .iconst 2), (12, 3, 15, .if_icmp .eq 8), (15, 1, 16, .aload_n 0), (16, 1, 17, .iconst 1), (17, 3, 20, .invokevirtual 173), (20, 1, 21, .aload_n 0), (21, 3, 24, .invokevirtual 149), (24, 3, 27, .ifCond .eq 23), (27, 1, 28, .aload_n 0), (28, 3, 31, .getfield 137), (31, 1, 32, .i2l), (32, 1, 33, .iload_n 1), (33, 1, 34, .i2l), (34, 1, 35, .iload_n 2), (35, 1, 36, .i2l), (36, 3, 39, .invokestatic 88), (39, 3, 42, .ifCond .ne 8), (42, 1, 43, .aload_n 0), (43, 1, 44, .iconst 2), (44, 3, 47, .invokevirtual 173), (47, 1, 48, .aload_n 0), (48, 3, 51, .invokevirtual 149), (51, 3, 54, .ifCond .ne 5), (54, 1, 55, .iconst 0), (55, 1, 56, .ireturn), (56, 1, 57, .aload_n 0), (57, 3, 60, .getfield 137), (60, 1, 61, .istore_n 3), (61, 1, 62, .aload_n 0), (62, 3, 65, .invokevirtual 167), (65, 1, 66, .iload_n 3), (66, 1, 67, .ireturn)]
set_option maxRecDepth 100000 in
theorem tk_X12_number (k : Nat) {pc n pc2 : Nat} {i : Instr} (hk : tb_X12_number[k]? = some (pc, n, pc2, i)) : on_dq cX12_number pc n pc2 i := on_ta (by decide +kernel) k hk
theorem ms_X12_number : on_Mv yX12_number cX12_number 4 (some .int) 2 := ⟨kw_7_90, kw_7_89, (on_mp (q := (yX12_number, 37)) (by decide +kernel)), kw_1_13, by decide, by decide, by decide +kernel⟩
def pf_X12_number_47 (σ : on_S) : Option on_O :=
  on_Cl (pf_X12_good σ) fun v13 σ14 =>
  on_Eq v13 0 (
    some (0, σ14)) (
    on_Gt σ14 77 11 fun v15 =>
    on_Cl (pf_X12_advance σ14) fun _ σ17 =>
    some (v15, σ17))
def pf_X12_number_20 (l1 : Int) (l2 : Int) (σ : on_S) : Option on_O :=
  on_Cl (pf_X12_good σ) fun v6 σ7 =>
  on_Eq v6 0 (
    pf_X12_number_47 σ7) (
    on_Gt σ7 77 11 fun v8 =>
    on_Ck v8 <|
    on_Ck l1 <|
    on_Ck l2 <|
    on_Cl (pf_X12_in v8 l1 l2 σ7) fun v9 σ10 =>
    on_Eq v9 0 (
      on_Cl (pf_X12_errs 2 σ10) fun _ σ12 =>
      pf_X12_number_47 σ12) (
      pf_X12_number_47 σ10))
def pf_X12_number (p0 : Int) (p1 : Int) (σ : on_S) : Option on_O :=
  on_Cl (pf_X12_good σ) fun v1 σ2 =>
  on_Eq v1 0 (
    pf_X12_number_20 p0 p1 σ2) (
    on_Gt σ2 77 10 fun v3 =>
    on_Eq v3 2 (
      pf_X12_number_20 p0 p1 σ2) (
      on_Cl (pf_X12_errs 1 σ2) fun _ σ5 =>
      pf_X12_number_20 p0 p1 σ5))
set_option maxRecDepth 100000 in
set_option maxHeartbeats 4000000 in
theorem gb_X12_number_47 {E : on_E} {z n : Nat} (X : on_X) (hN : 100 ≤ n) (σ : on_S) : on_G X E cX12_number RX12 (some .int) 2 46 4 z n σ (pf_X12_number_47  σ) 47 [some (.ref (z + 77)), none, none, none] [] := by
  rw [pf_X12_number_47]
  refine on_al0 (tk_X12_number 25 rfl) ?_
  refine on_cV0z 12 ms_X12_good kw_7_55 rfl rfl (ltc_77 hN) sh_77 (ct_X12_good hN) rfl (tk_X12_number 26 rfl) fun v13 σ14 => ?_
  refine on_if_ne (tk_X12_number 27 rfl) (tgt := 56) (by decide) ?_ ?_
  · refine on_iconst (tk_X12_number 28 rfl) ?_
    exact on_iret (tk_X12_number 29 rfl)
  · refine on_al0 (tk_X12_number 30 rfl) ?_
    refine fg_12_11 hN kw_6_151 (tk_X12_number 31 rfl) fun v15 => ?_
    refine on_is3 rfl (tk_X12_number 32 rfl) ?_
    refine on_al0 (tk_X12_number 33 rfl) ?_
    refine on_cV0v 12 ms_X12_advance kw_7_41 rfl rfl (ltc_77 hN) sh_77 (ct_X12_advance hN) rfl (tk_X12_number 34 rfl) fun v16 σ17 => ?_
    refine on_il3 (tk_X12_number 35 rfl) ?_
    exact on_iret (tk_X12_number 36 rfl)
set_option maxRecDepth 100000 in
set_option maxHeartbeats 4000000 in
theorem gb_X12_number_20 {E : on_E} {z n : Nat} (X : on_X) (hN : 100 ≤ n) (l1 : Int) (l2 : Int) (σ : on_S) : on_G X E cX12_number RX12 (some .int) 2 46 4 z n σ (pf_X12_number_20 l1 l2 σ) 20 [some (.ref (z + 77)), some (.int (on_i l1)), some (.int (on_i l2)), none] [] := by
  rw [pf_X12_number_20]
  refine on_al0 (tk_X12_number 10 rfl) ?_
  refine on_cV0z 12 ms_X12_good kw_7_55 rfl rfl (ltc_77 hN) sh_77 (ct_X12_good hN) rfl (tk_X12_number 11 rfl) fun v6 σ7 => ?_
  refine on_if_eq (tk_X12_number 12 rfl) (tgt := 47) (by decide) ?_ ?_
  · refine on_al0 (tk_X12_number 13 rfl) ?_
    refine fg_12_11 hN kw_6_151 (tk_X12_number 14 rfl) fun v8 => ?_
    refine on_xi2l (tk_X12_number 15 rfl) ?_
    refine on_il1 (tk_X12_number 16 rfl) ?_
    refine on_xi2l (tk_X12_number 17 rfl) ?_
    refine on_il2 (tk_X12_number 18 rfl) ?_
    refine on_xi2l (tk_X12_number 19 rfl) ?_
    refine on_cS3z ms_X12_in kw_7_18 (ct_X12_in hN) rfl (tk_X12_number 20 rfl) fun v9 σ10 => ?_
    refine on_if_ne (tk_X12_number 21 rfl) (tgt := 47) (by decide) ?_ ?_
    · refine on_al0 (tk_X12_number 22 rfl) ?_
      refine on_iconst (tk_X12_number 23 rfl) ?_
      refine on_cV1v 12 ms_X12_errs kw_7_78 rfl rfl (ltc_77 hN) sh_77 (ct_X12_errs hN) rfl (tk_X12_number 24 rfl) fun v11 σ12 => ?_
      refine on_dr1 ?_
      refine on_dr2 ?_
      exact gb_X12_number_47 X  hN _
    · refine on_dr1 ?_
      refine on_dr2 ?_
      exact gb_X12_number_47 X  hN _
  · refine on_dr1 ?_
    refine on_dr2 ?_
    exact gb_X12_number_47 X  hN _
set_option maxRecDepth 100000 in
set_option maxHeartbeats 4000000 in
theorem ct_X12_number {E : on_E} {z n : Nat} {p0 : Int} {p1 : Int} (hN : 100 ≤ n) {σ : on_S} : on_Sp E yX12_number cX12_number 4 (some .int) 2 46 z n [.ref (z + 77), .int (on_i p0), .int (on_i p1)] σ (pf_X12_number p0 p1 σ) := by
  refine on_met [some (.ref (z + 77)), some (.int (on_i p0)), some (.int (on_i p1)), none] (by decide) rfl rfl (fun X => ?_)
  rw [pf_X12_number]
  refine on_al0 (tk_X12_number 0 rfl) ?_
  refine on_cV0z 12 ms_X12_good kw_7_55 rfl rfl (ltc_77 hN) sh_77 (ct_X12_good hN) rfl (tk_X12_number 1 rfl) fun v1 σ2 => ?_
  refine on_if_eq (tk_X12_number 2 rfl) (tgt := 20) (by decide) ?_ ?_
  · refine on_al0 (tk_X12_number 3 rfl) ?_
    refine fg_12_10 hN kw_6_150 (tk_X12_number 4 rfl) fun v3 => ?_
    refine on_iconst (tk_X12_number 5 rfl) ?_
    refine on_icmp_eq (tk_X12_number 6 rfl) (tgt := 20) (by decide) ?_ ?_
    · refine on_al0 (tk_X12_number 7 rfl) ?_
      refine on_iconst (tk_X12_number 8 rfl) ?_
      refine on_cV1v 12 ms_X12_errs kw_7_78 rfl rfl (ltc_77 hN) sh_77 (ct_X12_errs hN) rfl (tk_X12_number 9 rfl) fun v4 σ5 => ?_
      exact gb_X12_number_20 X  hN _ _ _
    · exact gb_X12_number_20 X  hN _ _ _
  · exact gb_X12_number_20 X  hN _ _ _
def tb_X12_told : List (Nat × Nat × Nat × Instr) := [(0, 1, 1, .aload_n 0), (1, 1, 2, .aload_n 1), (2, 3, 5, .invokevirtual 177), (5, 1, 6, .aload_n 0), (6, 1, 7, .iload_n 2), (7, 1, 8, .iload_n 3), (8, 3, 11, .invokevirtual 181), (11, 1, 12, .ireturn)]
set_option maxRecDepth 100000 in
theorem tk_X12_told (k : Nat) {pc n pc2 : Nat} {i : Instr} (hk : tb_X12_told[k]? = some (pc, n, pc2, i)) : on_dq cX12_told pc n pc2 i := on_ta (by decide +kernel) k hk
theorem ms_X12_told : on_Mv yX12_told cX12_told 4 (some .int) 3 := ⟨kw_7_86, kw_7_85, (on_mp (q := (yX12_told, 37)) (by decide +kernel)), kw_1_13, by decide, by decide, by decide +kernel⟩
def pf_X12_told (p0 : Nat) (p1 : Int) (p2 : Int) (σ : on_S) : Option on_O :=
  on_Cl (pf_X12_needs p0 σ) fun _ σ2 =>
  on_Cl (pf_X12_number p1 p2 σ2) fun v3 σ4 =>
  some (v3, σ4)
set_option maxRecDepth 100000 in
set_option maxHeartbeats 4000000 in
theorem ct_X12_told {E : on_E} {z n : Nat} {p0 : Nat} {p1 : Int} {p2 : Int} (hN : 100 ≤ n) (hj0 : p0 < 17) {σ : on_S} : on_Sp E yX12_told cX12_told 4 (some .int) 7 151 z n [.ref (z + 77), .ref (E.2.2.2.1 p0), .int (on_i p1), .int (on_i p2)] σ (pf_X12_told p0 p1 p2 σ) := by
  refine on_met [some (.ref (z + 77)), some (.ref (E.2.2.2.1 p0)), some (.int (on_i p1)), some (.int (on_i p2))] (by decide) rfl rfl (fun X => ?_)
  rw [pf_X12_told]
  refine on_al0 (tk_X12_told 0 rfl) ?_
  refine on_al1 (tk_X12_told 1 rfl) ?_
  refine on_cV1v 12 ms_X12_needs kw_7_64 rfl rfl (ltc_77 hN) sh_77 (ct_X12_needs hN hj0) rfl (tk_X12_told 2 rfl) fun v1 σ2 => ?_
  refine on_al0 (tk_X12_told 3 rfl) ?_
  refine on_il2 (tk_X12_told 4 rfl) ?_
  refine on_il3 (tk_X12_told 5 rfl) ?_
  refine on_cV2i 12 ms_X12_number kw_7_87 rfl rfl (ltc_77 hN) sh_77 (ct_X12_number hN) rfl (tk_X12_told 6 rfl) fun v3 σ4 => ?_
  exact on_iret (tk_X12_told 7 rfl)
def tb_X12_fault : List (Nat × Nat × Nat × Instr) := [(0, 1, 1, .iload_n 1), (1, 3, 4, .ifCond .ne 10), (4, 1, 5, .aload_n 0), (5, 3, 8, .getfield 146), (8, 3, 11, .goto 16), (11, 1, 12, .iload_n 1), (12, 1, 13, .iconst 1), (13, 3, 16, .if_icmp .ne 10), (16, 1, 17, .aload_n 0), (17, 3, 20, .getfield 27), (20, 3, 23, .goto 4), (23, 1, 24, .iconst (-1)), (24, 1, 25, .ireturn)]
set_option maxRecDepth 100000 in
theorem tk_X12_fault (k : Nat) {pc n pc2 : Nat} {i : Instr} (hk : tb_X12_fault[k]? = some (pc, n, pc2, i)) : on_dq cX12_fault pc n pc2 i := on_ta (by decide +kernel) k hk
theorem ms_X12_fault : on_Mv yX12_fault cX12_fault 2 (some .int) 1 := ⟨kw_7_36, kw_7_34, kw_7_35, kw_1_13, by decide, by decide, by decide +kernel⟩
def pf_X12_fault (p0 : Int) (σ : on_S) : Option on_O :=
  on_Eq p0 0 (
    on_Gt σ 77 12 fun v1 =>
    some (v1, σ)) (
    on_Eq p0 1 (
      on_Gt σ 77 13 fun v2 =>
      some (v2, σ)) (
      some ((-1), σ)))
set_option maxRecDepth 100000 in
set_option maxHeartbeats 4000000 in
theorem ct_X12_fault {E : on_E} {z n : Nat} {p0 : Int} (hN : 100 ≤ n) {σ : on_S} : on_Sp E yX12_fault cX12_fault 2 (some .int) 0 0 z n [.ref (z + 77), .int (on_i p0)] σ (pf_X12_fault p0 σ) := by
  refine on_met [some (.ref (z + 77)), some (.int (on_i p0))] (by decide) rfl rfl (fun X => ?_)
  rw [pf_X12_fault]
  refine on_il1 (tk_X12_fault 0 rfl) ?_
  refine on_if_ne (tk_X12_fault 1 rfl) (tgt := 11) (by decide) ?_ ?_
  · refine on_al0 (tk_X12_fault 2 rfl) ?_
    refine fg_12_12 hN kw_6_152 (tk_X12_fault 3 rfl) fun v1 => ?_
    refine on_goto (tk_X12_fault 4 rfl) (tgt := 24) (by decide) ?_
    exact on_iret (tk_X12_fault 12 rfl)
  · refine on_il1 (tk_X12_fault 5 rfl) ?_
    refine on_iconst (tk_X12_fault 6 rfl) ?_
    refine on_icmp_ne (tk_X12_fault 7 rfl) (tgt := 23) (by decide) ?_ ?_
    · refine on_al0 (tk_X12_fault 8 rfl) ?_
      refine fg_12_13 hN kw_6_153 (tk_X12_fault 9 rfl) fun v2 => ?_
      refine on_goto (tk_X12_fault 10 rfl) (tgt := 24) (by decide) ?_
      exact on_iret (tk_X12_fault 12 rfl)
    · refine on_iconst (tk_X12_fault 11 rfl) ?_
      exact on_iret (tk_X12_fault 12 rfl)
def tb_X12_freshHouse : List (Nat × Nat × Nat × Instr) := [(0, 1, 1, .aload_n 0), (1, 1, 2, .iconst 0), (2, 1, 3, .aload_n 0), (3, 3, 6, .getfield 31), (6, 1, 7, .iconst 0), (7, 1, 8, .iaload), (8, 1, 9, .iconst 1), (9, 1, 10, .isub), (10, 3, 13, .invokevirtual 181), (13, 1, 14, .ireturn)]
set_option maxRecDepth 100000 in
theorem tk_X12_freshHouse (k : Nat) {pc n pc2 : Nat} {i : Instr} (hk : tb_X12_freshHouse[k]? = some (pc, n, pc2, i)) : on_dq cX12_freshHouse pc n pc2 i := on_ta (by decide +kernel) k hk
theorem ms_X12_freshHouse : on_Mv yX12_freshHouse cX12_freshHouse 1 (some .int) 0 := ⟨kw_7_107, kw_7_106, (on_mp (q := (yX12_freshHouse, 37)) (by decide +kernel)), kw_1_13, by decide, by decide, by decide +kernel⟩
def pf_X12_freshHouse (σ : on_S) : Option on_O :=
  on_Rd σ 83 687 0 fun v1 =>
  on_Cl (pf_X12_number 0 (v1 - 1) σ) fun v2 σ3 =>
  some (v2, σ3)
set_option maxRecDepth 100000 in
set_option maxHeartbeats 4000000 in
theorem ct_X12_freshHouse {E : on_E} {z n : Nat} (hN : 100 ≤ n) {σ : on_S} : on_Sp E yX12_freshHouse cX12_freshHouse 1 (some .int) 3 69 z n [.ref (z + 77)] σ (pf_X12_freshHouse  σ) := by
  refine on_met [some (.ref (z + 77))] (by decide) rfl rfl (fun X => ?_)
  rw [pf_X12_freshHouse]
  refine on_al0 (tk_X12_freshHouse 0 rfl) ?_
  refine on_iconst (tk_X12_freshHouse 1 rfl) ?_
  refine on_al0 (tk_X12_freshHouse 2 rfl) ?_
  refine fg_12_14 hN kw_6_154 (tk_X12_freshHouse 3 rfl) ?_
  refine on_iconst (tk_X12_freshHouse 4 rfl) ?_
  refine on_iald (ltc_83 hN) sh_83 (tk_X12_freshHouse 5 rfl) fun v1 => ?_
  refine on_iconst (tk_X12_freshHouse 6 rfl) ?_
  refine on_isub (tk_X12_freshHouse 7 rfl) ?_
  refine on_cV2i 12 ms_X12_number kw_7_87 rfl rfl (ltc_77 hN) sh_77 (ct_X12_number hN) rfl (tk_X12_freshHouse 8 rfl) fun v2 σ3 => ?_
  exact on_iret (tk_X12_freshHouse 9 rfl)
def tb_X12_freshWindow : List (Nat × Nat × Nat × Instr) := [(0, 1, 1, .aload_n 0), (1, 1, 2, .iconst 0), (2, 1, 3, .aload_n 0), (3, 3, 6, .getfield 31), (6, 1, 7, .iconst 2), (7, 1, 8, .iaload), (8, 1, 9, .iconst 1), (9, 1, 10, .isub), (10, 3, 13, .invokevirtual 181), (13, 1, 14, .ireturn)]
set_option maxRecDepth 100000 in
theorem tk_X12_freshWindow (k : Nat) {pc n pc2 : Nat} {i : Instr} (hk : tb_X12_freshWindow[k]? = some (pc, n, pc2, i)) : on_dq cX12_freshWindow pc n pc2 i := on_ta (by decide +kernel) k hk
theorem ms_X12_freshWindow : on_Mv yX12_freshWindow cX12_freshWindow 1 (some .int) 0 := ⟨kw_7_121, kw_7_120, (on_mp (q := (yX12_freshWindow, 37)) (by decide +kernel)), kw_1_13, by decide, by decide, by decide +kernel⟩
def pf_X12_freshWindow (σ : on_S) : Option on_O :=
  on_Rd σ 83 687 2 fun v1 =>
  on_Cl (pf_X12_number 0 (v1 - 1) σ) fun v2 σ3 =>
  some (v2, σ3)
set_option maxRecDepth 100000 in
set_option maxHeartbeats 4000000 in
theorem ct_X12_freshWindow {E : on_E} {z n : Nat} (hN : 100 ≤ n) {σ : on_S} : on_Sp E yX12_freshWindow cX12_freshWindow 1 (some .int) 3 69 z n [.ref (z + 77)] σ (pf_X12_freshWindow  σ) := by
  refine on_met [some (.ref (z + 77))] (by decide) rfl rfl (fun X => ?_)
  rw [pf_X12_freshWindow]
  refine on_al0 (tk_X12_freshWindow 0 rfl) ?_
  refine on_iconst (tk_X12_freshWindow 1 rfl) ?_
  refine on_al0 (tk_X12_freshWindow 2 rfl) ?_
  refine fg_12_14 hN kw_6_154 (tk_X12_freshWindow 3 rfl) ?_
  refine on_iconst (tk_X12_freshWindow 4 rfl) ?_
  refine on_iald (ltc_83 hN) sh_83 (tk_X12_freshWindow 5 rfl) fun v1 => ?_
  refine on_iconst (tk_X12_freshWindow 6 rfl) ?_
  refine on_isub (tk_X12_freshWindow 7 rfl) ?_
  refine on_cV2i 12 ms_X12_number kw_7_87 rfl rfl (ltc_77 hN) sh_77 (ct_X12_number hN) rfl (tk_X12_freshWindow 8 rfl) fun v2 σ3 => ?_
  exact on_iret (tk_X12_freshWindow 9 rfl)
def tb_X12_isNext : List (Nat × Nat × Nat × Instr) := [(0, 1, 1, .aload_n 0), (1, 3, 4, .invokevirtual 149), (4, 3, 7, .ifCond .eq 23), (7, 1, 8, .aload_n 0), (8, 3, 11, .getfield 126), (11, 1, 12, .iconst 2), (12, 3, 15, .if_icmp .ne 15), (15, 1, 16, .aload_n 0), (16, 3, 19, .getfield 137), (19, 1, 20, .iload_n 1), (20, 3, 23, .if_icmp .ne 7), (23, 1, 24, .iconst 1), (24, 3, 27, .goto 4), (27, 1, 28, .iconst 0), (28, 1, 29, .ireturn)]
set_option maxRecDepth 100000 in
theorem tk_X12_isNext (k : Nat) {pc n pc2 : Nat} {i : Instr} (hk : tb_X12_isNext[k]? = some (pc, n, pc2, i)) : on_dq cX12_isNext pc n pc2 i := on_ta (by decide +kernel) k hk
theorem ms_X12_isNext : on_Mv yX12_isNext cX12_isNext 2 (some .boolean) 1 := ⟨kw_7_117, kw_7_116, (on_mp (q := (yX12_isNext, 37)) (by decide +kernel)), kw_1_13, by decide, by decide, by decide +kernel⟩
def pf_X12_isNext_27 (σ : on_S) : Option on_O :=
  some (0, σ)
def pf_X12_isNext (p0 : Int) (σ : on_S) : Option on_O :=
  on_Cl (pf_X12_good σ) fun v1 σ2 =>
  on_Eq v1 0 (
    pf_X12_isNext_27 σ2) (
    on_Gt σ2 77 10 fun v3 =>
    on_Eq v3 2 (
      on_Gt σ2 77 11 fun v4 =>
      on_Eq v4 p0 (
        some (1, σ2)) (
        pf_X12_isNext_27 σ2)) (
      pf_X12_isNext_27 σ2))
set_option maxRecDepth 100000 in
set_option maxHeartbeats 4000000 in
theorem gb_X12_isNext_27 {E : on_E} {z n : Nat} (X : on_X) (hN : 100 ≤ n) (σ : on_S) : on_G X E cX12_isNext RX12 (some .boolean) 1 20 2 z n σ (pf_X12_isNext_27  σ) 27 [none, none] [] := by
  rw [pf_X12_isNext_27]
  refine on_iconst (tk_X12_isNext 13 rfl) ?_
  exact on_zret0 (tk_X12_isNext 14 rfl)
set_option maxRecDepth 100000 in
set_option maxHeartbeats 4000000 in
theorem ct_X12_isNext {E : on_E} {z n : Nat} {p0 : Int} (hN : 100 ≤ n) {σ : on_S} : on_Sp E yX12_isNext cX12_isNext 2 (some .boolean) 1 20 z n [.ref (z + 77), .int (on_i p0)] σ (pf_X12_isNext p0 σ) := by
  refine on_met [some (.ref (z + 77)), some (.int (on_i p0))] (by decide) rfl rfl (fun X => ?_)
  rw [pf_X12_isNext]
  refine on_al0 (tk_X12_isNext 0 rfl) ?_
  refine on_cV0z 12 ms_X12_good kw_7_55 rfl rfl (ltc_77 hN) sh_77 (ct_X12_good hN) rfl (tk_X12_isNext 1 rfl) fun v1 σ2 => ?_
  refine on_if_eq (tk_X12_isNext 2 rfl) (tgt := 27) (by decide) ?_ ?_
  · refine on_al0 (tk_X12_isNext 3 rfl) ?_
    refine fg_12_10 hN kw_6_150 (tk_X12_isNext 4 rfl) fun v3 => ?_
    refine on_iconst (tk_X12_isNext 5 rfl) ?_
    refine on_icmp_ne (tk_X12_isNext 6 rfl) (tgt := 27) (by decide) ?_ ?_
    · refine on_al0 (tk_X12_isNext 7 rfl) ?_
      refine fg_12_11 hN kw_6_151 (tk_X12_isNext 8 rfl) fun v4 => ?_
      refine on_il1 (tk_X12_isNext 9 rfl) ?_
      refine on_icmp_ne (tk_X12_isNext 10 rfl) (tgt := 27) (by decide) ?_ ?_
      · refine on_iconst (tk_X12_isNext 11 rfl) ?_
        refine on_goto (tk_X12_isNext 12 rfl) (tgt := 28) (by decide) ?_
        exact on_zret1 (tk_X12_isNext 14 rfl)
      · refine on_dr0 ?_
        refine on_dr1 ?_
        exact gb_X12_isNext_27 X  hN _
    · refine on_dr0 ?_
      refine on_dr1 ?_
      exact gb_X12_isNext_27 X  hN _
  · refine on_dr0 ?_
    refine on_dr1 ?_
    exact gb_X12_isNext_27 X  hN _
def tb_X12_isNextIn : List (Nat × Nat × Nat × Instr) := [(0, 1, 1, .aload_n 0), (1, 3, 4, .invokevirtual 149), (4, 3, 7, .ifCond .eq 23), (7, 1, 8, .aload_n 0), (8, 3, 11, .getfield 126), (11, 1, 12, .iconst 2), (12, 3, 15, .if_icmp .ne 15), (15, 1, 16, .aload_n 0), (16, 3, 19, .getfield 137), (19, 1, 20, .iload_n 1), (20, 3, 23, .if_icmp .ge 7), (23, 1, 24, .iconst 1), (24, 3, 27, .goto 4), (27, 1, 28, .iconst 0), (28, 1, 29, .ireturn)]
set_option maxRecDepth 100000 in
theorem tk_X12_isNextIn (k : Nat) {pc n pc2 : Nat} {i : Instr} (hk : tb_X12_isNextIn[k]? = some (pc, n, pc2, i)) : on_dq cX12_isNextIn pc n pc2 i := on_ta (by decide +kernel) k hk
theorem ms_X12_isNextIn : on_Mv yX12_isNextIn cX12_isNextIn 2 (some .boolean) 1 := ⟨kw_7_132, kw_7_131, (on_mp (q := (yX12_isNextIn, 37)) (by decide +kernel)), kw_1_13, by decide, by decide, by decide +kernel⟩
def pf_X12_isNextIn_27 (σ : on_S) : Option on_O :=
  some (0, σ)
def pf_X12_isNextIn (p0 : Int) (σ : on_S) : Option on_O :=
  on_Cl (pf_X12_good σ) fun v1 σ2 =>
  on_Eq v1 0 (
    pf_X12_isNextIn_27 σ2) (
    on_Gt σ2 77 10 fun v3 =>
    on_Eq v3 2 (
      on_Gt σ2 77 11 fun v4 =>
      on_Lt v4 p0 (
        some (1, σ2)) (
        pf_X12_isNextIn_27 σ2)) (
      pf_X12_isNextIn_27 σ2))
set_option maxRecDepth 100000 in
set_option maxHeartbeats 4000000 in
theorem gb_X12_isNextIn_27 {E : on_E} {z n : Nat} (X : on_X) (hN : 100 ≤ n) (σ : on_S) : on_G X E cX12_isNextIn RX12 (some .boolean) 1 20 2 z n σ (pf_X12_isNextIn_27  σ) 27 [none, none] [] := by
  rw [pf_X12_isNextIn_27]
  refine on_iconst (tk_X12_isNextIn 13 rfl) ?_
  exact on_zret0 (tk_X12_isNextIn 14 rfl)
set_option maxRecDepth 100000 in
set_option maxHeartbeats 4000000 in
theorem ct_X12_isNextIn {E : on_E} {z n : Nat} {p0 : Int} (hN : 100 ≤ n) {σ : on_S} : on_Sp E yX12_isNextIn cX12_isNextIn 2 (some .boolean) 1 20 z n [.ref (z + 77), .int (on_i p0)] σ (pf_X12_isNextIn p0 σ) := by
  refine on_met [some (.ref (z + 77)), some (.int (on_i p0))] (by decide) rfl rfl (fun X => ?_)
  rw [pf_X12_isNextIn]
  refine on_al0 (tk_X12_isNextIn 0 rfl) ?_
  refine on_cV0z 12 ms_X12_good kw_7_55 rfl rfl (ltc_77 hN) sh_77 (ct_X12_good hN) rfl (tk_X12_isNextIn 1 rfl) fun v1 σ2 => ?_
  refine on_if_eq (tk_X12_isNextIn 2 rfl) (tgt := 27) (by decide) ?_ ?_
  · refine on_al0 (tk_X12_isNextIn 3 rfl) ?_
    refine fg_12_10 hN kw_6_150 (tk_X12_isNextIn 4 rfl) fun v3 => ?_
    refine on_iconst (tk_X12_isNextIn 5 rfl) ?_
    refine on_icmp_ne (tk_X12_isNextIn 6 rfl) (tgt := 27) (by decide) ?_ ?_
    · refine on_al0 (tk_X12_isNextIn 7 rfl) ?_
      refine fg_12_11 hN kw_6_151 (tk_X12_isNextIn 8 rfl) fun v4 => ?_
      refine on_il1 (tk_X12_isNextIn 9 rfl) ?_
      refine on_icmp_ge (tk_X12_isNextIn 10 rfl) (tgt := 27) (by decide) ?_ ?_
      · refine on_iconst (tk_X12_isNextIn 11 rfl) ?_
        refine on_goto (tk_X12_isNextIn 12 rfl) (tgt := 28) (by decide) ?_
        exact on_zret1 (tk_X12_isNextIn 14 rfl)
      · refine on_dr0 ?_
        refine on_dr1 ?_
        exact gb_X12_isNextIn_27 X  hN _
    · refine on_dr0 ?_
      refine on_dr1 ?_
      exact gb_X12_isNextIn_27 X  hN _
  · refine on_dr0 ?_
    refine on_dr1 ?_
    exact gb_X12_isNextIn_27 X  hN _
def tb_X12_readNet : List (Nat × Nat × Nat × Instr) := [(0, 2, 2, .bipush 62), (2, 2, 4, .bipush 7), (4, 1, 5, .aload_n 0), (5, 3, 8, .getfield 31), (8, 1, 9, .iconst 4), (9, 1, 10, .iaload), (10, 1, 11, .imul), (11, 1, 12, .iadd), (12, 1, 13, .istore_n 1), (13, 1, 14, .aload_n 0), (14, 2, 16, .ldc 184), (16, 3, 19, .invokevirtual 177), (19, 1, 20, .iconst 0), (20, 1, 21, .istore_n 2), (21, 1, 22, .iload_n 2), (22, 1, 23, .aload_n 0), (23, 3, 26, .getfield 31), (26, 1, 27, .iconst 4), (27, 1, 28, .iaload), (28, 3, 31, .if_icmp .ge 35), (31, 1, 32, .aload_n 0), (32, 1, 33, .aload_n 0), (33, 3, 36, .getfield 31), (36, 2, 38, .bipush 62), (38, 2, 40, .bipush 7), (40, 1, 41, .iload_n 2), (41, 1, 42, .imul), (42, 1, 43, .iadd), (43, 1, 44, .iconst 0), (44, 1, 45, .iadd), (45, 1, 46, .iaload), (46, 3, 49, .invokevirtual 185), (49, 3, 52, .ifCond .eq 8), (52, 1, 53, .aload_n 0), (53, 1, 54, .iconst 2), (54, 3, 57, .invokevirtual 173), (57, 3, 60, .iinc 2 1), (60, 3, 63, .goto (-39)), (63, 1, 64, .aload_n 0), (64, 3, 67, .getfield 31), (67, 1, 68, .iload_n 1), (68, 1, 69, .iconst 0), (69, 1, 70, .iadd), (70, 1, 71, .aload_n 0), (71, 3, 74, .invokevirtual 189), (74, 1, 75, .iastore), (75, 1, 76, .aload_n 0), (76, 3, 79, .getfield 31), (79, 1, 80, .iload_n 1), (80, 1, 81, .iconst 3), (81, 1, 82, .iadd), (82, 1, 83, .aload_n 0), (83, 2, 85, .ldc 192), (85, 1, 86, .iconst 1), (86, 2, 88, .bipush 99), (88, 3, 91, .invokevirtual 194), (91, 1, 92, .iastore), (92, 1, 93, .iconst 1), (93, 1, 94, .istore_n 2), (94, 1, 95, .iload_n 2), (95, 1, 96, .iconst 4), (96, 3, 99, .if_icmp .ge 26), (99, 1, 100, .aload_n 0), (100, 3, 103, .getfield 31), (103, 1, 104, .iload_n 1), (104, 1, 105, .iconst 3), (105, 1, 106, .iadd), (106, 1, 107, .iload_n 2), (107, 1, 108, .iadd), (108, 1, 109, .aload_n 0), (109, 1, 110, .iconst 1), (110, 2, 112, .bipush 99), (112, 3, 115, .invokevirtual 181), (115, 1, 116, .iastore), (116, 3, 119, .iinc 2 1), (119, 3, 122, .goto (-25)), (122, 1, 123, .aload_n 0), (123, 3, 126, .getfield 31), (126, 1, 127, .iload_n 1), (127, 1, 128, .iconst 1), (128, 1, 129, .iadd), (129, 1, 130, .aload_n 0), (130, 2, 132, .ldc 198), (132, 1, 133, .iconst 0), (133, 2, 135, .bipush 9), (135, 3, 138, .invokevirtual 194), (138, 1, 139, .iastore), (139, 1, 140, .aload_n 0), (140, 3, 143, .getfield 31), (143, 1, 144, .iload_n 1), (144, 1, 145, .iconst 2), (145, 1, 146, .iadd), (146, 1, 147, .aload_n 0), (147, 2, 149, .ldc 200), (149, 3, 152, .invokevirtual 170), (152, 3, 155, .ifCond .eq 7), (155, 1, 156, .iconst 1), (156, 3, 159, .goto 4), (159, 1, 160, .iconst 0), (160, 1, 161, .iastore), (161, 1, 162, .aload_n 0), (162, 3, 165, .getfield 31), (165, 1, 166, .iconst 4), (166, 1, 167, .dup2), (167, 1, 168, .iaload), (168, 1, 169, .iconst 1), (169, 1, 170, .iadd), (170, 1, 171, .iastore), (171, 1, 172, .return_)]
set_option maxRecDepth 100000 in
theorem tk_X12_readNet (k : Nat) {pc n pc2 : Nat} {i : Instr} (hk : tb_X12_readNet[k]? = some (pc, n, pc2, i)) : on_dq cX12_readNet pc n pc2 i := on_ta (by decide +kernel) k hk
theorem ms_X12_readNet : on_Mv yX12_readNet cX12_readNet 3 none 0 := ⟨kw_7_112, kw_7_111, (on_mp (q := (yX12_readNet, 37)) (by decide +kernel)), kw_1_13, by decide, by decide, by decide +kernel⟩
def pf_X12_readNet_160 (s1 : Int) (s2 : Int) (σ : on_S) : Option on_O :=
  on_Wr σ 83 687 s1 s2 fun σ24 =>
  on_Rd σ24 83 687 4 fun v25 =>
  on_Wr σ24 83 687 4 (v25 + 1) fun σ26 =>
  some (0, σ26)
def pf_X12_readNet_94 : Nat → Int → Int → on_S → Option on_O
  | 0, _, _, _ => none
  | nf + 1, l1, l2, σ =>
    on_Lt l2 4 (
      on_Cl (pf_X12_number 1 99 σ) fun v16 σ17 =>
      on_Wr σ17 83 687 ((l1 + 3) + l2) v16 fun σ18 =>
      pf_X12_readNet_94 nf l1 (l2 + 1) σ18) (
      on_Cl (pf_X12_told 9 0 9 σ) fun v19 σ20 =>
      on_Wr σ20 83 687 (l1 + 1) v19 fun σ21 =>
      on_Cl (pf_X12_takes 10 σ21) fun v22 σ23 =>
      on_Eq v22 0 (
        pf_X12_readNet_160 (l1 + 2) 0 σ23) (
        pf_X12_readNet_160 (l1 + 2) 1 σ23))
def pf_X12_readNet_21 : Nat → Int → Int → on_S → Option on_O
  | 0, _, _, _ => none
  | nf + 1, l1, l2, σ =>
    on_Rd σ 83 687 4 fun v4 =>
    on_Lt l2 v4 (
      on_Rd σ 83 687 ((62 + (7 * l2)) + 0) fun v5 =>
      on_Cl (pf_X12_isNext v5 σ) fun v6 σ7 =>
      on_Eq v6 0 (
        pf_X12_readNet_21 nf l1 (l2 + 1) σ7) (
        on_Cl (pf_X12_errs 2 σ7) fun _ σ9 =>
        pf_X12_readNet_21 nf l1 (l2 + 1) σ9)) (
      on_Cl (pf_X12_freshWindow σ) fun v10 σ11 =>
      on_Wr σ11 83 687 (l1 + 0) v10 fun σ12 =>
      on_Cl (pf_X12_told 8 1 99 σ12) fun v13 σ14 =>
      on_Wr σ14 83 687 (l1 + 3) v13 fun σ15 =>
      pf_X12_readNet_94 on_N l1 1 σ15)
def pf_X12_readNet (σ : on_S) : Option on_O :=
  on_Rd σ 83 687 4 fun v1 =>
  on_Cl (pf_X12_needs 7 σ) fun _ σ3 =>
  pf_X12_readNet_21 on_N (62 + (7 * v1)) 0 σ3
set_option maxRecDepth 100000 in
set_option maxHeartbeats 4000000 in
theorem gb_X12_readNet_160 {E : on_E} {z n : Nat} (X : on_X) (hN : 100 ≤ n) (s1 : Int) (s2 : Int) (σ : on_S) : on_G X E cX12_readNet RX12 none 8 174 3 z n σ (pf_X12_readNet_160 s1 s2 σ) 160 [some (.ref (z + 77)), none, none] [.int (on_i s2), .int (on_i s1), .ref (z + 83)] := by
  rw [pf_X12_readNet_160]
  refine on_iast (ltc_83 hN) sh_83 (tk_X12_readNet 99 rfl) fun σ24 => ?_
  refine on_al0 (tk_X12_readNet 100 rfl) ?_
  refine fg_12_14 hN kw_6_154 (tk_X12_readNet 101 rfl) ?_
  refine on_iconst (tk_X12_readNet 102 rfl) ?_
  refine on_dup2 rfl rfl (tk_X12_readNet 103 rfl) ?_
  refine on_iald (ltc_83 hN) sh_83 (tk_X12_readNet 104 rfl) fun v25 => ?_
  refine on_iconst (tk_X12_readNet 105 rfl) ?_
  refine on_iadd (tk_X12_readNet 106 rfl) ?_
  refine on_iast (ltc_83 hN) sh_83 (tk_X12_readNet 107 rfl) fun σ26 => ?_
  exact on_vret (tk_X12_readNet 108 rfl)
set_option maxRecDepth 100000 in
set_option maxHeartbeats 4000000 in
theorem gl_X12_readNet_94 {E : on_E} {z n : Nat} (X : on_X) (hN : 100 ≤ n) : ∀ (nf : Nat) (l1 : Int) (l2 : Int) (σ : on_S), on_G X E cX12_readNet RX12 none 8 174 3 z n σ (pf_X12_readNet_94 nf l1 l2 σ) 94 [some (.ref (z + 77)), some (.int (on_i l1)), some (.int (on_i l2))] [] := by
  intro nf
  induction nf with
  | zero => intro l1 l2 σ; exact on_none
  | succ nf ih =>
    intro l1 l2 σ
    rw [pf_X12_readNet_94]
    refine on_il2 (tk_X12_readNet 59 rfl) ?_
    refine on_iconst (tk_X12_readNet 60 rfl) ?_
    refine on_icmp_ge (tk_X12_readNet 61 rfl) (tgt := 122) (by decide) ?_ ?_
    · refine on_al0 (tk_X12_readNet 62 rfl) ?_
      refine fg_12_14 hN kw_6_154 (tk_X12_readNet 63 rfl) ?_
      refine on_il1 (tk_X12_readNet 64 rfl) ?_
      refine on_iconst (tk_X12_readNet 65 rfl) ?_
      refine on_iadd (tk_X12_readNet 66 rfl) ?_
      refine on_il2 (tk_X12_readNet 67 rfl) ?_
      refine on_iadd (tk_X12_readNet 68 rfl) ?_
      refine on_al0 (tk_X12_readNet 69 rfl) ?_
      refine on_iconst (tk_X12_readNet 70 rfl) ?_
      refine on_bipush (tk_X12_readNet 71 rfl) bp_99 ?_
      refine on_cV2i 12 ms_X12_number kw_7_87 rfl rfl (ltc_77 hN) sh_77 (ct_X12_number hN) rfl (tk_X12_readNet 72 rfl) fun v16 σ17 => ?_
      refine on_iast (ltc_83 hN) sh_83 (tk_X12_readNet 73 rfl) fun σ18 => ?_
      refine on_inc2 rfl (tk_X12_readNet 74 rfl) ?_
      refine on_goto (tk_X12_readNet 75 rfl) (tgt := 94) (by decide) ?_
      exact ih _ _ _
    · refine on_al0 (tk_X12_readNet 76 rfl) ?_
      refine fg_12_14 hN kw_6_154 (tk_X12_readNet 77 rfl) ?_
      refine on_il1 (tk_X12_readNet 78 rfl) ?_
      refine on_iconst (tk_X12_readNet 79 rfl) ?_
      refine on_iadd (tk_X12_readNet 80 rfl) ?_
      refine on_al0 (tk_X12_readNet 81 rfl) ?_
      refine on_ldcs (show ("OppositeNetsModel", 198, "wears", 9) ∈ on_strs by decide +kernel) (tk_X12_readNet 82 rfl) ?_
      refine on_iconst (tk_X12_readNet 83 rfl) ?_
      refine on_bipush (tk_X12_readNet 84 rfl) bp_9 ?_
      refine on_cV3i 12 ms_X12_told kw_7_83 rfl rfl (ltc_77 hN) sh_77 (ct_X12_told hN (by decide)) rfl (tk_X12_readNet 85 rfl) fun v19 σ20 => ?_
      refine on_iast (ltc_83 hN) sh_83 (tk_X12_readNet 86 rfl) fun σ21 => ?_
      refine on_al0 (tk_X12_readNet 87 rfl) ?_
      refine fg_12_14 hN kw_6_154 (tk_X12_readNet 88 rfl) ?_
      refine on_il1 (tk_X12_readNet 89 rfl) ?_
      refine on_iconst (tk_X12_readNet 90 rfl) ?_
      refine on_iadd (tk_X12_readNet 91 rfl) ?_
      refine on_al0 (tk_X12_readNet 92 rfl) ?_
      refine on_ldcs (show ("OppositeNetsModel", 200, "wet", 10) ∈ on_strs by decide +kernel) (tk_X12_readNet 93 rfl) ?_
      refine on_cV1z 12 ms_X12_takes kw_7_68 rfl rfl (ltc_77 hN) sh_77 (ct_X12_takes hN (by decide)) rfl (tk_X12_readNet 94 rfl) fun v22 σ23 => ?_
      refine on_if_eq (tk_X12_readNet 95 rfl) (tgt := 159) (by decide) ?_ ?_
      · refine on_iconst (tk_X12_readNet 96 rfl) ?_
        refine on_goto (tk_X12_readNet 97 rfl) (tgt := 160) (by decide) ?_
        refine on_dr1 ?_
        refine on_dr2 ?_
        exact gb_X12_readNet_160 X  hN _ _ _
      · refine on_iconst (tk_X12_readNet 98 rfl) ?_
        refine on_dr1 ?_
        refine on_dr2 ?_
        exact gb_X12_readNet_160 X  hN _ _ _
set_option maxRecDepth 100000 in
set_option maxHeartbeats 4000000 in
theorem gl_X12_readNet_21 {E : on_E} {z n : Nat} (X : on_X) (hN : 100 ≤ n) : ∀ (nf : Nat) (l1 : Int) (l2 : Int) (σ : on_S), on_G X E cX12_readNet RX12 none 8 174 3 z n σ (pf_X12_readNet_21 nf l1 l2 σ) 21 [some (.ref (z + 77)), some (.int (on_i l1)), some (.int (on_i l2))] [] := by
  intro nf
  induction nf with
  | zero => intro l1 l2 σ; exact on_none
  | succ nf ih =>
    intro l1 l2 σ
    rw [pf_X12_readNet_21]
    refine on_il2 (tk_X12_readNet 14 rfl) ?_
    refine on_al0 (tk_X12_readNet 15 rfl) ?_
    refine fg_12_14 hN kw_6_154 (tk_X12_readNet 16 rfl) ?_
    refine on_iconst (tk_X12_readNet 17 rfl) ?_
    refine on_iald (ltc_83 hN) sh_83 (tk_X12_readNet 18 rfl) fun v4 => ?_
    refine on_icmp_ge (tk_X12_readNet 19 rfl) (tgt := 63) (by decide) ?_ ?_
    · refine on_al0 (tk_X12_readNet 20 rfl) ?_
      refine on_al0 (tk_X12_readNet 21 rfl) ?_
      refine fg_12_14 hN kw_6_154 (tk_X12_readNet 22 rfl) ?_
      refine on_bipush (tk_X12_readNet 23 rfl) bp_62 ?_
      refine on_bipush (tk_X12_readNet 24 rfl) bp_7 ?_
      refine on_il2 (tk_X12_readNet 25 rfl) ?_
      refine on_imul (tk_X12_readNet 26 rfl) ?_
      refine on_iadd (tk_X12_readNet 27 rfl) ?_
      refine on_iconst (tk_X12_readNet 28 rfl) ?_
      refine on_iadd (tk_X12_readNet 29 rfl) ?_
      refine on_iald (ltc_83 hN) sh_83 (tk_X12_readNet 30 rfl) fun v5 => ?_
      refine on_cV1z 12 ms_X12_isNext kw_7_114 rfl rfl (ltc_77 hN) sh_77 (ct_X12_isNext hN) rfl (tk_X12_readNet 31 rfl) fun v6 σ7 => ?_
      refine on_if_eq (tk_X12_readNet 32 rfl) (tgt := 57) (by decide) ?_ ?_
      · refine on_al0 (tk_X12_readNet 33 rfl) ?_
        refine on_iconst (tk_X12_readNet 34 rfl) ?_
        refine on_cV1v 12 ms_X12_errs kw_7_78 rfl rfl (ltc_77 hN) sh_77 (ct_X12_errs hN) rfl (tk_X12_readNet 35 rfl) fun v8 σ9 => ?_
        refine on_inc2 rfl (tk_X12_readNet 36 rfl) ?_
        refine on_goto (tk_X12_readNet 37 rfl) (tgt := 21) (by decide) ?_
        exact ih _ _ _
      · refine on_inc2 rfl (tk_X12_readNet 36 rfl) ?_
        refine on_goto (tk_X12_readNet 37 rfl) (tgt := 21) (by decide) ?_
        exact ih _ _ _
    · refine on_al0 (tk_X12_readNet 38 rfl) ?_
      refine fg_12_14 hN kw_6_154 (tk_X12_readNet 39 rfl) ?_
      refine on_il1 (tk_X12_readNet 40 rfl) ?_
      refine on_iconst (tk_X12_readNet 41 rfl) ?_
      refine on_iadd (tk_X12_readNet 42 rfl) ?_
      refine on_al0 (tk_X12_readNet 43 rfl) ?_
      refine on_cV0i 12 ms_X12_freshWindow kw_7_118 rfl rfl (ltc_77 hN) sh_77 (ct_X12_freshWindow hN) rfl (tk_X12_readNet 44 rfl) fun v10 σ11 => ?_
      refine on_iast (ltc_83 hN) sh_83 (tk_X12_readNet 45 rfl) fun σ12 => ?_
      refine on_al0 (tk_X12_readNet 46 rfl) ?_
      refine fg_12_14 hN kw_6_154 (tk_X12_readNet 47 rfl) ?_
      refine on_il1 (tk_X12_readNet 48 rfl) ?_
      refine on_iconst (tk_X12_readNet 49 rfl) ?_
      refine on_iadd (tk_X12_readNet 50 rfl) ?_
      refine on_al0 (tk_X12_readNet 51 rfl) ?_
      refine on_ldcs (show ("OppositeNetsModel", 192, "knots", 8) ∈ on_strs by decide +kernel) (tk_X12_readNet 52 rfl) ?_
      refine on_iconst (tk_X12_readNet 53 rfl) ?_
      refine on_bipush (tk_X12_readNet 54 rfl) bp_99 ?_
      refine on_cV3i 12 ms_X12_told kw_7_83 rfl rfl (ltc_77 hN) sh_77 (ct_X12_told hN (by decide)) rfl (tk_X12_readNet 55 rfl) fun v13 σ14 => ?_
      refine on_iast (ltc_83 hN) sh_83 (tk_X12_readNet 56 rfl) fun σ15 => ?_
      refine on_iconst (tk_X12_readNet 57 rfl) ?_
      refine on_is2 rfl (tk_X12_readNet 58 rfl) ?_
      exact gl_X12_readNet_94 X  hN on_N _ _ _
set_option maxRecDepth 100000 in
set_option maxHeartbeats 4000000 in
theorem ct_X12_readNet {E : on_E} {z n : Nat} (hN : 100 ≤ n) {σ : on_S} : on_Sp E yX12_readNet cX12_readNet 3 none 8 174 z n [.ref (z + 77)] σ (pf_X12_readNet  σ) := by
  refine on_met [some (.ref (z + 77)), none, none] (by decide) rfl rfl (fun X => ?_)
  rw [pf_X12_readNet]
  refine on_bipush (tk_X12_readNet 0 rfl) bp_62 ?_
  refine on_bipush (tk_X12_readNet 1 rfl) bp_7 ?_
  refine on_al0 (tk_X12_readNet 2 rfl) ?_
  refine fg_12_14 hN kw_6_154 (tk_X12_readNet 3 rfl) ?_
  refine on_iconst (tk_X12_readNet 4 rfl) ?_
  refine on_iald (ltc_83 hN) sh_83 (tk_X12_readNet 5 rfl) fun v1 => ?_
  refine on_imul (tk_X12_readNet 6 rfl) ?_
  refine on_iadd (tk_X12_readNet 7 rfl) ?_
  refine on_is1 rfl (tk_X12_readNet 8 rfl) ?_
  refine on_al0 (tk_X12_readNet 9 rfl) ?_
  refine on_ldcs (show ("OppositeNetsModel", 184, "at", 7) ∈ on_strs by decide +kernel) (tk_X12_readNet 10 rfl) ?_
  refine on_cV1v 12 ms_X12_needs kw_7_64 rfl rfl (ltc_77 hN) sh_77 (ct_X12_needs hN (by decide)) rfl (tk_X12_readNet 11 rfl) fun v2 σ3 => ?_
  refine on_iconst (tk_X12_readNet 12 rfl) ?_
  refine on_is2 rfl (tk_X12_readNet 13 rfl) ?_
  exact gl_X12_readNet_21 X  hN on_N _ _ _
