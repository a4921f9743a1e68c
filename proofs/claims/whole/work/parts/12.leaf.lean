def tb_J7_fill_53178 : List (Nat × Nat × Nat × Instr) := [(0, 1, 1, .iconst 0), (1, 1, 2, .istore_n 2), (2, 1, 3, .aload_n 0), (3, 1, 4, .arraylength), (4, 1, 5, .istore_n 3), (5, 1, 6, .iload_n 2), (6, 1, 7, .iload_n 3), (7, 3, 10, .if_icmp .ge 13), (10, 1, 11, .aload_n 0), (11, 1, 12, .iload_n 2), (12, 1, 13, .iload_n 1), (13, 1, 14, .iastore), (14, 3, 17, .iinc 2 1), (17, 3, 20, .goto (-12)), (20, 1, 21, .return_)]
set_option maxRecDepth 100000 in
theorem tk_J7_fill_53178 (k : Nat) {pc n pc2 : Nat} {i : Instr} (hk : tb_J7_fill_53178[k]? = some (pc, n, pc2, i)) : on_dq cJ7_fill_53178 pc n pc2 i := on_ta (by decide +kernel) k hk
theorem ms_J7_fill_53178 : on_Ms yJ7_fill_53178 cJ7_fill_53178 4 none 2 := ⟨kw_3_5, kw_3_4, kw_1_15, by decide, by decide, by decide +kernel⟩
def pf_J7_fill_53178_5 (p0 : Nat) (p0n : Nat) : Nat → Int → Int → Int → on_S → Option on_O
  | 0, _, _, _, _ => none
  | nf + 1, l1, l2, l3, σ =>
    on_Lt l2 l3 (
      on_Wr σ p0 p0n l2 l1 fun σ1 =>
      pf_J7_fill_53178_5 p0 p0n nf l1 (l2 + 1) l3 σ1) (
      some (0, σ))
def pf_J7_fill_53178 (p0 : Nat) (p0n : Nat) (p1 : Int) (σ : on_S) : Option on_O :=
  pf_J7_fill_53178_5 p0 p0n on_N p1 0 (p0n : Int) σ
set_option maxRecDepth 100000 in
set_option maxHeartbeats 4000000 in
theorem gl_J7_fill_53178_5 {E : on_E} {z n : Nat} (X : on_X) (p0 : Nat) (p0n : Nat) (hN : 100 ≤ n) (ha0 : p0 < n) (hs0 : on_sh p0 = (1, p0n)) : ∀ (nf : Nat) (l1 : Int) (l2 : Int) (l3 : Int) (σ : on_S), on_G X E cJ7_fill_53178 RJ7 none 0 0 4 z n σ (pf_J7_fill_53178_5 p0 p0n nf l1 l2 l3 σ) 5 [some (.ref (z + p0)), some (.int (on_i l1)), some (.int (on_i l2)), some (.int (on_i l3))] [] := by
  intro nf
  induction nf with
  | zero => intro l1 l2 l3 σ; exact on_none
  | succ nf ih =>
    intro l1 l2 l3 σ
    rw [pf_J7_fill_53178_5]
    refine on_il2 (tk_J7_fill_53178 5 rfl) ?_
    refine on_il3 (tk_J7_fill_53178 6 rfl) ?_
    refine on_icmp_ge (tk_J7_fill_53178 7 rfl) (tgt := 20) (by decide) ?_ ?_
    · refine on_al0 (tk_J7_fill_53178 8 rfl) ?_
      refine on_il2 (tk_J7_fill_53178 9 rfl) ?_
      refine on_il1 (tk_J7_fill_53178 10 rfl) ?_
      refine on_iast ha0 hs0 (tk_J7_fill_53178 11 rfl) fun σ1 => ?_
      refine on_inc2 rfl (tk_J7_fill_53178 12 rfl) ?_
      refine on_goto (tk_J7_fill_53178 13 rfl) (tgt := 5) (by decide) ?_
      exact ih _ _ _ _
    · exact on_vret (tk_J7_fill_53178 14 rfl)
set_option maxRecDepth 100000 in
set_option maxHeartbeats 4000000 in
theorem ct_J7_fill_53178 {E : on_E} {z n : Nat} {p0 : Nat} {p0n : Nat} {p1 : Int} (hN : 100 ≤ n) (ha0 : p0 < n) (hs0 : on_sh p0 = (1, p0n)) {σ : on_S} : on_Sp E yJ7_fill_53178 cJ7_fill_53178 4 none 0 0 z n [.ref (z + p0), .int (on_i p1)] σ (pf_J7_fill_53178 p0 p0n p1 σ) := by
  refine on_met [some (.ref (z + p0)), some (.int (on_i p1)), none, none] (by decide) rfl rfl (fun X => ?_)
  rw [pf_J7_fill_53178]
  refine on_iconst (tk_J7_fill_53178 0 rfl) ?_
  refine on_is2 rfl (tk_J7_fill_53178 1 rfl) ?_
  refine on_al0 (tk_J7_fill_53178 2 rfl) ?_
  refine on_alen1 ha0 hs0 (tk_J7_fill_53178 3 rfl) ?_
  refine on_is3 rfl (tk_J7_fill_53178 4 rfl) ?_
  exact gl_J7_fill_53178_5 X _ _ hN ha0 hs0 on_N _ _ _ _
def tb_X4_knotIf : List (Nat × Nat × Nat × Instr) := [(0, 1, 1, .aload_n 0), (1, 3, 4, .getfield 21), (4, 1, 5, .iload_n 1), (5, 1, 6, .iconst 4), (6, 1, 7, .imul), (7, 1, 8, .iload_n 2), (8, 1, 9, .iadd), (9, 1, 10, .iaload), (10, 2, 12, .istore 4), (12, 1, 13, .iload_n 3), (13, 1, 14, .iconst 1), (14, 3, 17, .if_icmp .ne 10), (17, 2, 19, .iload 4), (19, 1, 20, .iconst 2), (20, 1, 21, .idiv), (21, 3, 24, .goto 5), (24, 2, 26, .iload 4), (26, 1, 27, .ireturn)]
set_option maxRecDepth 100000 in
theorem tk_X4_knotIf (k : Nat) {pc n pc2 : Nat} {i : Instr} (hk : tb_X4_knotIf[k]? = some (pc, n, pc2, i)) : on_dq cX4_knotIf pc n pc2 i := on_ta (by decide +kernel) k hk
theorem ms_X4_knotIf : on_Mv yX4_knotIf cX4_knotIf 5 (some .int) 3 := ⟨kw_4_33, kw_4_31, kw_4_32, kw_1_4, by decide, by decide, by decide +kernel⟩
def pf_X4_knotIf (b : Nat) (p0 : Int) (p1 : Int) (p2 : Int) (σ : on_S) : Option on_O :=
  on_Rd σ (b + 18) 8 ((p0 * 4) + p1) fun v1 =>
  on_Eq p2 1 (
    on_Dv v1 2 fun v2 =>
    some (v2, σ)) (
    some (v1, σ))
set_option maxRecDepth 100000 in
set_option maxHeartbeats 4000000 in
theorem ct_X4_knotIf {E : on_E} {z n : Nat} {b : Nat} {p0 : Int} {p1 : Int} {p2 : Int} (hN : 100 ≤ n) (hb : on_Sb n b) {σ : on_S} : on_Sp E yX4_knotIf cX4_knotIf 5 (some .int) 0 0 z n [.ref (z + (b + 14)), .int (on_i p0), .int (on_i p1), .int (on_i p2)] σ (pf_X4_knotIf b p0 p1 p2 σ) := by
  refine on_met [some (.ref (z + (b + 14))), some (.int (on_i p0)), some (.int (on_i p1)), some (.int (on_i p2)), none] (by decide) rfl rfl (fun X => ?_)
  rw [pf_X4_knotIf]
  refine on_al0 (tk_X4_knotIf 0 rfl) ?_
  refine fg_4_4 hb kw_1_106 (tk_X4_knotIf 1 rfl) ?_
  refine on_il1 (tk_X4_knotIf 2 rfl) ?_
  refine on_iconst (tk_X4_knotIf 3 rfl) ?_
  refine on_imul (tk_X4_knotIf 4 rfl) ?_
  refine on_il2 (tk_X4_knotIf 5 rfl) ?_
  refine on_iadd (tk_X4_knotIf 6 rfl) ?_
  refine on_iald (ltS_18 hb) (shS_18 hb) (tk_X4_knotIf 7 rfl) fun v1 => ?_
  refine on_is4 rfl (tk_X4_knotIf 8 rfl) ?_
  refine on_il3 (tk_X4_knotIf 9 rfl) ?_
  refine on_iconst (tk_X4_knotIf 10 rfl) ?_
  refine on_icmp_ne (tk_X4_knotIf 11 rfl) (tgt := 24) (by decide) ?_ ?_
  · refine on_il4 (tk_X4_knotIf 12 rfl) ?_
    refine on_iconst (tk_X4_knotIf 13 rfl) ?_
    refine on_idiv (tk_X4_knotIf 14 rfl) fun v2 => ?_
    refine on_goto (tk_X4_knotIf 15 rfl) (tgt := 26) (by decide) ?_
    exact on_iret (tk_X4_knotIf 17 rfl)
  · refine on_il4 (tk_X4_knotIf 16 rfl) ?_
    exact on_iret (tk_X4_knotIf 17 rfl)
def tb_X3_quarrelOf : List (Nat × Nat × Nat × Instr) := [(0, 1, 1, .aload_n 0), (1, 3, 4, .getfield 24), (4, 1, 5, .iload_n 1), (5, 2, 7, .bipush 9), (7, 1, 8, .imul), (8, 1, 9, .iload_n 2), (9, 1, 10, .iadd), (10, 1, 11, .iaload), (11, 1, 12, .ireturn)]
set_option maxRecDepth 100000 in
theorem tk_X3_quarrelOf (k : Nat) {pc n pc2 : Nat} {i : Instr} (hk : tb_X3_quarrelOf[k]? = some (pc, n, pc2, i)) : on_dq cX3_quarrelOf pc n pc2 i := on_ta (by decide +kernel) k hk
theorem ms_X3_quarrelOf : on_Mv yX3_quarrelOf cX3_quarrelOf 3 (some .int) 2 := ⟨kw_4_69, kw_4_67, kw_4_68, kw_1_3, by decide, by decide, by decide +kernel⟩
def pf_X3_quarrelOf (b : Nat) (p0 : Int) (p1 : Int) (σ : on_S) : Option on_O :=
  on_Rd σ (b + 13) 81 ((p0 * 9) + p1) fun v1 =>
  some (v1, σ)
set_option maxRecDepth 100000 in
set_option maxHeartbeats 4000000 in
theorem ct_X3_quarrelOf {E : on_E} {z n : Nat} {b : Nat} {p0 : Int} {p1 : Int} (hN : 100 ≤ n) (hb : on_Sb n b) {σ : on_S} : on_Sp E yX3_quarrelOf cX3_quarrelOf 3 (some .int) 0 0 z n [.ref (z + (b + 8)), .int (on_i p0), .int (on_i p1)] σ (pf_X3_quarrelOf b p0 p1 σ) := by
  refine on_met [some (.ref (z + (b + 8))), some (.int (on_i p0)), some (.int (on_i p1))] (by decide) rfl rfl (fun X => ?_)
  rw [pf_X3_quarrelOf]
  refine on_al0 (tk_X3_quarrelOf 0 rfl) ?_
  refine fg_3_5 hb kw_1_63 (tk_X3_quarrelOf 1 rfl) ?_
  refine on_il1 (tk_X3_quarrelOf 2 rfl) ?_
  refine on_bipush (tk_X3_quarrelOf 3 rfl) bp_9 ?_
  refine on_imul (tk_X3_quarrelOf 4 rfl) ?_
  refine on_il2 (tk_X3_quarrelOf 5 rfl) ?_
  refine on_iadd (tk_X3_quarrelOf 6 rfl) ?_
  refine on_iald (ltS_13 hb) (shS_13 hb) (tk_X3_quarrelOf 7 rfl) fun v1 => ?_
  exact on_iret (tk_X3_quarrelOf 8 rfl)
def tb_X2_copyFrom : List (Nat × Nat × Nat × Instr) := [(0, 1, 1, .aload_n 0), (1, 1, 2, .aload_n 1), (2, 3, 5, .getfield 21), (5, 3, 8, .putfield 21), (8, 1, 9, .aload_n 1), (9, 3, 12, .getfield 9), (12, 1, 13, .iconst 0), (13, 1, 14, .aload_n 0), (14, 3, 17, .getfield 9), (17, 1, 18, .iconst 0), (18, 1, 19, .aload_n 0), (19, 3, 22, .getfield 21), (22, 3, 25, .invokestatic 25), (25, 1, 26, .aload_n 1), (26, 3, 29, .getfield 15), (29, 1, 30, .iconst 0), (30, 1, 31, .aload_n 0), (31, 3, 34, .getfield 15), (34, 1, 35, .iconst 0), (35, 1, 36, .aload_n 0), (36, 3, 39, .getfield 21), (39, 3, 42, .invokestatic 25), (42, 1, 43, .aload_n 1), (43, 3, 46, .getfield 18), (46, 1, 47, .iconst 0), (47, 1, 48, .aload_n 0), (48, 3, 51, .getfield 18), (51, 1, 52, .iconst 0), (52, 1, 53, .aload_n 0), (53, 3, 56, .getfield 21), (56, 1, 57, .iconst 4), (57, 1, 58, .imul), (58, 3, 61, .invokestatic 25), (61, 1, 62, .return_)]
set_option maxRecDepth 100000 in
theorem tk_X2_copyFrom (k : Nat) {pc n pc2 : Nat} {i : Instr} (hk : tb_X2_copyFrom[k]? = some (pc, n, pc2, i)) : on_dq cX2_copyFrom pc n pc2 i := on_ta (by decide +kernel) k hk
theorem ms_X2_copyFrom : on_Mv yX2_copyFrom cX2_copyFrom 2 none 1 := ⟨kw_3_205, kw_3_203, kw_3_204, kw_1_5, by decide, by decide, by decide +kernel⟩
def pf_X2_copyFrom (b : Nat) (p0 : Nat) (σ : on_S) : Option on_O :=
  on_Gt σ (p0 + 20) 0 fun v1 =>
  on_Pt σ (b + 20) 0 v1 fun σ2 =>
  on_Gt σ2 (b + 20) 0 fun v3 =>
  on_Cp σ2 (p0 + 21) 60 0 (b + 21) 60 0 v3 fun σ4 =>
  on_Gt σ4 (b + 20) 0 fun v5 =>
  on_Cp σ4 (p0 + 22) 60 0 (b + 22) 60 0 v5 fun σ6 =>
  on_Gt σ6 (b + 20) 0 fun v7 =>
  on_Cp σ6 (p0 + 23) 240 0 (b + 23) 240 0 (v7 * 4) fun σ8 =>
  some (0, σ8)
set_option maxRecDepth 100000 in
set_option maxHeartbeats 4000000 in
theorem ct_X2_copyFrom {E : on_E} {z n : Nat} {b : Nat} {p0 : Nat} (hN : 100 ≤ n) (hb : on_Sb n b) (ho0 : on_Sb n p0) {σ : on_S} : on_Sp E yX2_copyFrom cX2_copyFrom 2 none 1 26 z n [.ref (z + (b + 20)), .ref (z + (p0 + 20))] σ (pf_X2_copyFrom b p0 σ) := by
  refine on_met [some (.ref (z + (b + 20))), some (.ref (z + (p0 + 20)))] (by decide) rfl rfl (fun X => ?_)
  rw [pf_X2_copyFrom]
  refine on_al0 (tk_X2_copyFrom 0 rfl) ?_
  refine on_al1 (tk_X2_copyFrom 1 rfl) ?_
  refine fg_2_0 ho0 kw_1_134 (tk_X2_copyFrom 2 rfl) fun v1 => ?_
  refine fp_2_0 hb kw_1_134 (tk_X2_copyFrom 3 rfl) fun σ2 => ?_
  refine on_al1 (tk_X2_copyFrom 4 rfl) ?_
  refine fg_2_1 ho0 kw_1_137 (tk_X2_copyFrom 5 rfl) ?_
  refine on_iconst (tk_X2_copyFrom 6 rfl) ?_
  refine on_al0 (tk_X2_copyFrom 7 rfl) ?_
  refine fg_2_1 hb kw_1_137 (tk_X2_copyFrom 8 rfl) ?_
  refine on_iconst (tk_X2_copyFrom 9 rfl) ?_
  refine on_al0 (tk_X2_copyFrom 10 rfl) ?_
  refine fg_2_0 hb kw_1_134 (tk_X2_copyFrom 11 rfl) fun v3 => ?_
  refine on_acpi kw_3_206 kwA_n kwA_s kwA_i (ltS_21 ho0) (ltS_21 hb) (shS_21 ho0) (shS_21 hb) rfl (tk_X2_copyFrom 12 rfl) fun σ4 => ?_
  refine on_al1 (tk_X2_copyFrom 13 rfl) ?_
  refine fg_2_2 ho0 kw_1_139 (tk_X2_copyFrom 14 rfl) ?_
  refine on_iconst (tk_X2_copyFrom 15 rfl) ?_
  refine on_al0 (tk_X2_copyFrom 16 rfl) ?_
  refine fg_2_2 hb kw_1_139 (tk_X2_copyFrom 17 rfl) ?_
  refine on_iconst (tk_X2_copyFrom 18 rfl) ?_
  refine on_al0 (tk_X2_copyFrom 19 rfl) ?_
  refine fg_2_0 hb kw_1_134 (tk_X2_copyFrom 20 rfl) fun v5 => ?_
  refine on_acpi kw_3_206 kwA_n kwA_s kwA_i (ltS_22 ho0) (ltS_22 hb) (shS_22 ho0) (shS_22 hb) rfl (tk_X2_copyFrom 21 rfl) fun σ6 => ?_
  refine on_al1 (tk_X2_copyFrom 22 rfl) ?_
  refine fg_2_3 ho0 kw_1_141 (tk_X2_copyFrom 23 rfl) ?_
  refine on_iconst (tk_X2_copyFrom 24 rfl) ?_
  refine on_al0 (tk_X2_copyFrom 25 rfl) ?_
  refine fg_2_3 hb kw_1_141 (tk_X2_copyFrom 26 rfl) ?_
  refine on_iconst (tk_X2_copyFrom 27 rfl) ?_
  refine on_al0 (tk_X2_copyFrom 28 rfl) ?_
  refine fg_2_0 hb kw_1_134 (tk_X2_copyFrom 29 rfl) fun v7 => ?_
  refine on_iconst (tk_X2_copyFrom 30 rfl) ?_
  refine on_imul (tk_X2_copyFrom 31 rfl) ?_
  refine on_acpi kw_3_206 kwA_n kwA_s kwA_i (ltS_23 ho0) (ltS_23 hb) (shS_23 ho0) (shS_23 hb) rfl (tk_X2_copyFrom 32 rfl) fun σ8 => ?_
  exact on_vret (tk_X2_copyFrom 33 rfl)
def tb_X2_keep : List (Nat × Nat × Nat × Instr) := [(0, 1, 1, .aload_n 0), (1, 3, 4, .getfield 21), (4, 2, 6, .bipush 60), (6, 3, 9, .if_icmp .ge 29), (9, 1, 10, .aload_n 0), (10, 3, 13, .getfield 9), (13, 1, 14, .aload_n 0), (14, 3, 17, .getfield 21), (17, 1, 18, .iload_n 1), (18, 1, 19, .iastore), (19, 1, 20, .aload_n 2), (20, 1, 21, .iload_n 3), (21, 1, 22, .aload_n 0), (22, 3, 25, .getfield 18), (25, 1, 26, .aload_n 0), (26, 3, 29, .getfield 21), (29, 1, 30, .iconst 4), (30, 1, 31, .imul), (31, 1, 32, .iconst 4), (32, 3, 35, .invokestatic 25), (35, 1, 36, .return_)]
set_option maxRecDepth 100000 in
theorem tk_X2_keep (k : Nat) {pc n pc2 : Nat} {i : Instr} (hk : tb_X2_keep[k]? = some (pc, n, pc2, i)) : on_dq cX2_keep pc n pc2 i := on_ta (by decide +kernel) k hk
theorem ms_X2_keep : on_Mv yX2_keep cX2_keep 4 none 3 := ⟨kw_4_125, kw_4_123, kw_4_124, kw_1_5, by decide, by decide, by decide +kernel⟩
def pf_X2_keep (b : Nat) (p0 : Int) (p1 : Nat) (p1n : Nat) (p2 : Int) (σ : on_S) : Option on_O :=
  on_Gt σ (b + 20) 0 fun v1 =>
  on_Lt v1 60 (
    on_Gt σ (b + 20) 0 fun v2 =>
    on_Wr σ (b + 21) 60 v2 p0 fun σ3 =>
    on_Gt σ3 (b + 20) 0 fun v4 =>
    on_Cp σ3 p1 p1n p2 (b + 23) 240 (v4 * 4) 4 fun σ5 =>
    some (0, σ5)) (
    some (0, σ))
set_option maxRecDepth 100000 in
set_option maxHeartbeats 4000000 in
theorem ct_X2_keep {E : on_E} {z n : Nat} {b : Nat} {p0 : Int} {p1 : Nat} {p1n : Nat} {p2 : Int} (hN : 100 ≤ n) (hb : on_Sb n b) (ha1 : p1 < n) (hs1 : on_sh p1 = (1, p1n)) {σ : on_S} : on_Sp E yX2_keep cX2_keep 4 none 1 26 z n [.ref (z + (b + 20)), .int (on_i p0), .ref (z + p1), .int (on_i p2)] σ (pf_X2_keep b p0 p1 p1n p2 σ) := by
  refine on_met [some (.ref (z + (b + 20))), some (.int (on_i p0)), some (.ref (z + p1)), some (.int (on_i p2))] (by decide) rfl rfl (fun X => ?_)
  rw [pf_X2_keep]
  refine on_al0 (tk_X2_keep 0 rfl) ?_
  refine fg_2_0 hb kw_1_134 (tk_X2_keep 1 rfl) fun v1 => ?_
  refine on_bipush (tk_X2_keep 2 rfl) bp_60 ?_
  refine on_icmp_ge (tk_X2_keep 3 rfl) (tgt := 35) (by decide) ?_ ?_
  · refine on_al0 (tk_X2_keep 4 rfl) ?_
    refine fg_2_1 hb kw_1_137 (tk_X2_keep 5 rfl) ?_
    refine on_al0 (tk_X2_keep 6 rfl) ?_
    refine fg_2_0 hb kw_1_134 (tk_X2_keep 7 rfl) fun v2 => ?_
    refine on_il1 (tk_X2_keep 8 rfl) ?_
    refine on_iast (ltS_21 hb) (shS_21 hb) (tk_X2_keep 9 rfl) fun σ3 => ?_
    refine on_al2 (tk_X2_keep 10 rfl) ?_
    refine on_il3 (tk_X2_keep 11 rfl) ?_
    refine on_al0 (tk_X2_keep 12 rfl) ?_
    refine fg_2_3 hb kw_1_141 (tk_X2_keep 13 rfl) ?_
    refine on_al0 (tk_X2_keep 14 rfl) ?_
    refine fg_2_0 hb kw_1_134 (tk_X2_keep 15 rfl) fun v4 => ?_
    refine on_iconst (tk_X2_keep 16 rfl) ?_
    refine on_imul (tk_X2_keep 17 rfl) ?_
    refine on_iconst (tk_X2_keep 18 rfl) ?_
    refine on_acpi kw_3_206 kwA_n kwA_s kwA_i ha1 (ltS_23 hb) hs1 (shS_23 hb) rfl (tk_X2_keep 19 rfl) fun σ5 => ?_
    exact on_vret (tk_X2_keep 20 rfl)
  · exact on_vret (tk_X2_keep 20 rfl)
def tb_X2_close : List (Nat × Nat × Nat × Instr) := [(0, 1, 1, .aload_n 0), (1, 3, 4, .getfield 21), (4, 2, 6, .bipush 60), (6, 3, 9, .if_icmp .ge 23), (9, 1, 10, .aload_n 0), (10, 3, 13, .getfield 15), (13, 1, 14, .aload_n 0), (14, 3, 17, .getfield 21), (17, 1, 18, .iload_n 1), (18, 1, 19, .iastore), (19, 1, 20, .aload_n 0), (20, 1, 21, .dup), (21, 3, 24, .getfield 21), (24, 1, 25, .iconst 1), (25, 1, 26, .iadd), (26, 3, 29, .putfield 21), (29, 1, 30, .return_)]
set_option maxRecDepth 100000 in
theorem tk_X2_close (k : Nat) {pc n pc2 : Nat} {i : Instr} (hk : tb_X2_close[k]? = some (pc, n, pc2, i)) : on_dq cX2_close pc n pc2 i := on_ta (by decide +kernel) k hk
theorem ms_X2_close : on_Mv yX2_close cX2_close 2 none 1 := ⟨kw_4_147, kw_4_145, kw_4_146, kw_1_5, by decide, by decide, by decide +kernel⟩
def pf_X2_close (b : Nat) (p0 : Int) (σ : on_S) : Option on_O :=
  on_Gt σ (b + 20) 0 fun v1 =>
  on_Lt v1 60 (
    on_Gt σ (b + 20) 0 fun v2 =>
    on_Wr σ (b + 22) 60 v2 p0 fun σ3 =>
    on_Gt σ3 (b + 20) 0 fun v4 =>
    on_Pt σ3 (b + 20) 0 (v4 + 1) fun σ5 =>
    some (0, σ5)) (
    some (0, σ))
set_option maxRecDepth 100000 in
set_option maxHeartbeats 4000000 in
theorem ct_X2_close {E : on_E} {z n : Nat} {b : Nat} {p0 : Int} (hN : 100 ≤ n) (hb : on_Sb n b) {σ : on_S} : on_Sp E yX2_close cX2_close 2 none 0 0 z n [.ref (z + (b + 20)), .int (on_i p0)] σ (pf_X2_close b p0 σ) := by
  refine on_met [some (.ref (z + (b + 20))), some (.int (on_i p0))] (by decide) rfl rfl (fun X => ?_)
  rw [pf_X2_close]
  refine on_al0 (tk_X2_close 0 rfl) ?_
  refine fg_2_0 hb kw_1_134 (tk_X2_close 1 rfl) fun v1 => ?_
  refine on_bipush (tk_X2_close 2 rfl) bp_60 ?_
  refine on_icmp_ge (tk_X2_close 3 rfl) (tgt := 29) (by decide) ?_ ?_
  · refine on_al0 (tk_X2_close 4 rfl) ?_
    refine fg_2_2 hb kw_1_139 (tk_X2_close 5 rfl) ?_
    refine on_al0 (tk_X2_close 6 rfl) ?_
    refine fg_2_0 hb kw_1_134 (tk_X2_close 7 rfl) fun v2 => ?_
    refine on_il1 (tk_X2_close 8 rfl) ?_
    refine on_iast (ltS_22 hb) (shS_22 hb) (tk_X2_close 9 rfl) fun σ3 => ?_
    refine on_al0 (tk_X2_close 10 rfl) ?_
    refine on_dup rfl (tk_X2_close 11 rfl) ?_
    refine fg_2_0 hb kw_1_134 (tk_X2_close 12 rfl) fun v4 => ?_
    refine on_iconst (tk_X2_close 13 rfl) ?_
    refine on_iadd (tk_X2_close 14 rfl) ?_
    refine fp_2_0 hb kw_1_134 (tk_X2_close 15 rfl) fun σ5 => ?_
    exact on_vret (tk_X2_close 16 rfl)
  · exact on_vret (tk_X2_close 16 rfl)
def tb_X3_clear : List (Nat × Nat × Nat × Instr) := [(0, 1, 1, .aload_n 0), (1, 1, 2, .iconst 0), (2, 3, 5, .putfield 27), (5, 1, 6, .aload_n 0), (6, 3, 9, .getfield 24), (9, 1, 10, .iconst 0), (10, 3, 13, .invokestatic 31), (13, 1, 14, .return_)]
set_option maxRecDepth 100000 in
theorem tk_X3_clear (k : Nat) {pc n pc2 : Nat} {i : Instr} (hk : tb_X3_clear[k]? = some (pc, n, pc2, i)) : on_dq cX3_clear pc n pc2 i := on_ta (by decide +kernel) k hk
theorem ms_X3_clear : on_Mv yX3_clear cX3_clear 1 none 0 := ⟨kw_3_9, kw_3_7, kw_3_8, kw_1_3, by decide, by decide, by decide +kernel⟩
def pf_X3_clear (b : Nat) (σ : on_S) : Option on_O :=
  on_Pt σ (b + 8) 0 0 fun σ1 =>
  on_Cl (pf_J7_fill_53178 (b + 13) 81 0 σ1) fun _ σ3 =>
  some (0, σ3)
set_option maxRecDepth 100000 in
set_option maxHeartbeats 4000000 in
theorem ct_X3_clear {E : on_E} {z n : Nat} {b : Nat} (hN : 100 ≤ n) (hb : on_Sb n b) {σ : on_S} : on_Sp E yX3_clear cX3_clear 1 none 1 23 z n [.ref (z + (b + 8))] σ (pf_X3_clear b σ) := by
  refine on_met [some (.ref (z + (b + 8)))] (by decide) rfl rfl (fun X => ?_)
  rw [pf_X3_clear]
  refine on_al0 (tk_X3_clear 0 rfl) ?_
  refine on_iconst (tk_X3_clear 1 rfl) ?_
  refine fp_3_0 hb kw_1_42 (tk_X3_clear 2 rfl) fun σ1 => ?_
  refine on_al0 (tk_X3_clear 3 rfl) ?_
  refine fg_3_5 hb kw_1_63 (tk_X3_clear 4 rfl) ?_
  refine on_iconst (tk_X3_clear 5 rfl) ?_
  refine on_cS2v ms_J7_fill_53178 kw_3_10 (ct_J7_fill_53178 hN (ltS_13 hb) (shS_13 hb)) rfl (tk_X3_clear 6 rfl) fun v2 σ3 => ?_
  exact on_vret (tk_X3_clear 7 rfl)
def tb_X3_copyFrom : List (Nat × Nat × Nat × Instr) := [(0, 1, 1, .aload_n 0), (1, 1, 2, .aload_n 1), (2, 3, 5, .getfield 27), (5, 3, 8, .putfield 27), (8, 1, 9, .aload_n 1), (9, 3, 12, .getfield 9), (12, 1, 13, .iconst 0), (13, 1, 14, .aload_n 0), (14, 3, 17, .getfield 9), (17, 1, 18, .iconst 0), (18, 1, 19, .aload_n 0), (19, 3, 22, .getfield 27), (22, 3, 25, .invokestatic 37), (25, 1, 26, .aload_n 1), (26, 3, 29, .getfield 15), (29, 1, 30, .iconst 0), (30, 1, 31, .aload_n 0), (31, 3, 34, .getfield 15), (34, 1, 35, .iconst 0), (35, 1, 36, .aload_n 0), (36, 3, 39, .getfield 27), (39, 3, 42, .invokestatic 37), (42, 1, 43, .aload_n 1), (43, 3, 46, .getfield 18), (46, 1, 47, .iconst 0), (47, 1, 48, .aload_n 0), (48, 3, 51, .getfield 18), (51, 1, 52, .iconst 0), (52, 1, 53, .aload_n 0), (53, 3, 56, .getfield 27), (56, 3, 59, .invokestatic 37), (59, 1, 60, .aload_n 1), (60, 3, 63, .getfield 21), (63, 1, 64, .iconst 0), (64, 1, 65, .aload_n 0), (65, 3, 68, .getfield 21), (68, 1, 69, .iconst 0), (69, 1, 70, .aload_n 0), (70, 3, 73, .getfield 27), (73, 3, 76, .invokestatic 37), (76, 1, 77, .aload_n 1), (77, 3, 80, .getfield 24), (80, 1, 81, .iconst 0), (81, 1, 82, .aload_n 0), (82, 3, 85, .getfield 24), (85, 1, 86, .iconst 0), (86, 1, 87, .aload_n 0), (87, 3, 90, .getfield 24), (90, 1, 91, .arraylength), (91, 3, 94, .invokestatic 37), (94, 1, 95, .return_)]
set_option maxRecDepth 100000 in
theorem tk_X3_copyFrom (k : Nat) {pc n pc2 : Nat} {i : Instr} (hk : tb_X3_copyFrom[k]? = some (pc, n, pc2, i)) : on_dq cX3_copyFrom pc n pc2 i := on_ta (by decide +kernel) k hk
theorem ms_X3_copyFrom : on_Mv yX3_copyFrom cX3_copyFrom 2 none 1 := ⟨kw_3_195, kw_3_193, kw_3_194, kw_1_3, by decide, by decide, by decide +kernel⟩
def pf_X3_copyFrom (b : Nat) (p0 : Nat) (σ : on_S) : Option on_O :=
  on_Gt σ (p0 + 8) 0 fun v1 =>
  on_Pt σ (b + 8) 0 v1 fun σ2 =>
  on_Gt σ2 (b + 8) 0 fun v3 =>
  on_Cp σ2 (p0 + 9) 9 0 (b + 9) 9 0 v3 fun σ4 =>
  on_Gt σ4 (b + 8) 0 fun v5 =>
  on_Cp σ4 (p0 + 10) 9 0 (b + 10) 9 0 v5 fun σ6 =>
  on_Gt σ6 (b + 8) 0 fun v7 =>
  on_Cp σ6 (p0 + 11) 9 0 (b + 11) 9 0 v7 fun σ8 =>
  on_Gt σ8 (b + 8) 0 fun v9 =>
  on_Cp σ8 (p0 + 12) 9 0 (b + 12) 9 0 v9 fun σ10 =>
  on_Cp σ10 (p0 + 13) 81 0 (b + 13) 81 0 ((81 : Nat) : Int) fun σ11 =>
  some (0, σ11)
set_option maxRecDepth 100000 in
set_option maxHeartbeats 4000000 in
theorem ct_X3_copyFrom {E : on_E} {z n : Nat} {b : Nat} {p0 : Nat} (hN : 100 ≤ n) (hb : on_Sb n b) (ho0 : on_Sb n p0) {σ : on_S} : on_Sp E yX3_copyFrom cX3_copyFrom 2 none 1 26 z n [.ref (z + (b + 8)), .ref (z + (p0 + 8))] σ (pf_X3_copyFrom b p0 σ) := by
  refine on_met [some (.ref (z + (b + 8))), some (.ref (z + (p0 + 8)))] (by decide) rfl rfl (fun X => ?_)
  rw [pf_X3_copyFrom]
  refine on_al0 (tk_X3_copyFrom 0 rfl) ?_
  refine on_al1 (tk_X3_copyFrom 1 rfl) ?_
  refine fg_3_0 ho0 kw_1_42 (tk_X3_copyFrom 2 rfl) fun v1 => ?_
  refine fp_3_0 hb kw_1_42 (tk_X3_copyFrom 3 rfl) fun σ2 => ?_
  refine on_al1 (tk_X3_copyFrom 4 rfl) ?_
  refine fg_3_1 ho0 kw_1_48 (tk_X3_copyFrom 5 rfl) ?_
  refine on_iconst (tk_X3_copyFrom 6 rfl) ?_
  refine on_al0 (tk_X3_copyFrom 7 rfl) ?_
  refine fg_3_1 hb kw_1_48 (tk_X3_copyFrom 8 rfl) ?_
  refine on_iconst (tk_X3_copyFrom 9 rfl) ?_
  refine on_al0 (tk_X3_copyFrom 10 rfl) ?_
  refine fg_3_0 hb kw_1_42 (tk_X3_copyFrom 11 rfl) fun v3 => ?_
  refine on_acpi kw_3_196 kwA_n kwA_s kwA_i (ltS_9 ho0) (ltS_9 hb) (shS_9 ho0) (shS_9 hb) rfl (tk_X3_copyFrom 12 rfl) fun σ4 => ?_
  refine on_al1 (tk_X3_copyFrom 13 rfl) ?_
  refine fg_3_2 ho0 kw_1_52 (tk_X3_copyFrom 14 rfl) ?_
  refine on_iconst (tk_X3_copyFrom 15 rfl) ?_
  refine on_al0 (tk_X3_copyFrom 16 rfl) ?_
  refine fg_3_2 hb kw_1_52 (tk_X3_copyFrom 17 rfl) ?_
  refine on_iconst (tk_X3_copyFrom 18 rfl) ?_
  refine on_al0 (tk_X3_copyFrom 19 rfl) ?_
  refine fg_3_0 hb kw_1_42 (tk_X3_copyFrom 20 rfl) fun v5 => ?_
  refine on_acpi kw_3_196 kwA_n kwA_s kwA_i (ltS_10 ho0) (ltS_10 hb) (shS_10 ho0) (shS_10 hb) rfl (tk_X3_copyFrom 21 rfl) fun σ6 => ?_
  refine on_al1 (tk_X3_copyFrom 22 rfl) ?_
  refine fg_3_3 ho0 kw_1_56 (tk_X3_copyFrom 23 rfl) ?_
  refine on_iconst (tk_X3_copyFrom 24 rfl) ?_
  refine on_al0 (tk_X3_copyFrom 25 rfl) ?_
  refine fg_3_3 hb kw_1_56 (tk_X3_copyFrom 26 rfl) ?_
  refine on_iconst (tk_X3_copyFrom 27 rfl) ?_
  refine on_al0 (tk_X3_copyFrom 28 rfl) ?_
  refine fg_3_0 hb kw_1_42 (tk_X3_copyFrom 29 rfl) fun v7 => ?_
  refine on_acpi kw_3_196 kwA_n kwA_s kwA_i (ltS_11 ho0) (ltS_11 hb) (shS_11 ho0) (shS_11 hb) rfl (tk_X3_copyFrom 30 rfl) fun σ8 => ?_
  refine on_al1 (tk_X3_copyFrom 31 rfl) ?_
  refine fg_3_4 ho0 kw_1_60 (tk_X3_copyFrom 32 rfl) ?_
  refine on_iconst (tk_X3_copyFrom 33 rfl) ?_
  refine on_al0 (tk_X3_copyFrom 34 rfl) ?_
  refine fg_3_4 hb kw_1_60 (tk_X3_copyFrom 35 rfl) ?_
  refine on_iconst (tk_X3_copyFrom 36 rfl) ?_
  refine on_al0 (tk_X3_copyFrom 37 rfl) ?_
  refine fg_3_0 hb kw_1_42 (tk_X3_copyFrom 38 rfl) fun v9 => ?_
  refine on_acpi kw_3_196 kwA_n kwA_s kwA_i (ltS_12 ho0) (ltS_12 hb) (shS_12 ho0) (shS_12 hb) rfl (tk_X3_copyFrom 39 rfl) fun σ10 => ?_
  refine on_al1 (tk_X3_copyFrom 40 rfl) ?_
  refine fg_3_5 ho0 kw_1_63 (tk_X3_copyFrom 41 rfl) ?_
  refine on_iconst (tk_X3_copyFrom 42 rfl) ?_
  refine on_al0 (tk_X3_copyFrom 43 rfl) ?_
  refine fg_3_5 hb kw_1_63 (tk_X3_copyFrom 44 rfl) ?_
  refine on_iconst (tk_X3_copyFrom 45 rfl) ?_
  refine on_al0 (tk_X3_copyFrom 46 rfl) ?_
  refine fg_3_5 hb kw_1_63 (tk_X3_copyFrom 47 rfl) ?_
  refine on_alen1 (N := 81) (ltS_13 hb) (shS_13 hb) (tk_X3_copyFrom 48 rfl) ?_
  refine on_acpi kw_3_196 kwA_n kwA_s kwA_i (ltS_13 ho0) (ltS_13 hb) (shS_13 ho0) (shS_13 hb) rfl (tk_X3_copyFrom 49 rfl) fun σ11 => ?_
  exact on_vret (tk_X3_copyFrom 50 rfl)
def tb_X3_hire : List (Nat × Nat × Nat × Instr) := [(0, 1, 1, .aload_n 0), (1, 3, 4, .getfield 27), (4, 2, 6, .bipush 9), (6, 3, 9, .if_icmp .ge 53), (9, 1, 10, .aload_n 0), (10, 3, 13, .getfield 9), (13, 1, 14, .aload_n 0), (14, 3, 17, .getfield 27), (17, 1, 18, .iload_n 1), (18, 1, 19, .iastore), (19, 1, 20, .aload_n 0), (20, 3, 23, .getfield 15), (23, 1, 24, .aload_n 0), (24, 3, 27, .getfield 27), (27, 1, 28, .iload_n 2), (28, 1, 29, .iastore), (29, 1, 30, .aload_n 0), (30, 3, 33, .getfield 18), (33, 1, 34, .aload_n 0), (34, 3, 37, .getfield 27), (37, 1, 38, .iconst (-1)), (38, 1, 39, .iastore), (39, 1, 40, .aload_n 0), (40, 3, 43, .getfield 21), (43, 1, 44, .aload_n 0), (44, 3, 47, .getfield 27), (47, 1, 48, .iconst (-1)), (48, 1, 49, .iastore), (49, 1, 50, .aload_n 0), (50, 1, 51, .dup), (51, 3, 54, .getfield 27), (54, 1, 55, .iconst 1), (55, 1, 56, .iadd), (56, 3, 59, .putfield 27), (59, 1, 60, .return_)]
set_option maxRecDepth 100000 in
theorem tk_X3_hire (k : Nat) {pc n pc2 : Nat} {i : Instr} (hk : tb_X3_hire[k]? = some (pc, n, pc2, i)) : on_dq cX3_hire pc n pc2 i := on_ta (by decide +kernel) k hk
theorem ms_X3_hire : on_Mv yX3_hire cX3_hire 3 none 2 := ⟨kw_3_121, kw_3_119, kw_3_120, kw_1_3, by decide, by decide, by decide +kernel⟩
def pf_X3_hire (b : Nat) (p0 : Int) (p1 : Int) (σ : on_S) : Option on_O :=
  on_Gt σ (b + 8) 0 fun v1 =>
  on_Lt v1 9 (
    on_Gt σ (b + 8) 0 fun v2 =>
    on_Wr σ (b + 9) 9 v2 p0 fun σ3 =>
    on_Gt σ3 (b + 8) 0 fun v4 =>
    on_Wr σ3 (b + 10) 9 v4 p1 fun σ5 =>
    on_Gt σ5 (b + 8) 0 fun v6 =>
    on_Wr σ5 (b + 11) 9 v6 (-1) fun σ7 =>
    on_Gt σ7 (b + 8) 0 fun v8 =>
    on_Wr σ7 (b + 12) 9 v8 (-1) fun σ9 =>
    on_Gt σ9 (b + 8) 0 fun v10 =>
    on_Pt σ9 (b + 8) 0 (v10 + 1) fun σ11 =>
    some (0, σ11)) (
    some (0, σ))
set_option maxRecDepth 100000 in
set_option maxHeartbeats 4000000 in
theorem ct_X3_hire {E : on_E} {z n : Nat} {b : Nat} {p0 : Int} {p1 : Int} (hN : 100 ≤ n) (hb : on_Sb n b) {σ : on_S} : on_Sp E yX3_hire cX3_hire 3 none 0 0 z n [.ref (z + (b + 8)), .int (on_i p0), .int (on_i p1)] σ (pf_X3_hire b p0 p1 σ) := by
  refine on_met [some (.ref (z + (b + 8))), some (.int (on_i p0)), some (.int (on_i p1))] (by decide) rfl rfl (fun X => ?_)
  rw [pf_X3_hire]
  refine on_al0 (tk_X3_hire 0 rfl) ?_
  refine fg_3_0 hb kw_1_42 (tk_X3_hire 1 rfl) fun v1 => ?_
  refine on_bipush (tk_X3_hire 2 rfl) bp_9 ?_
  refine on_icmp_ge (tk_X3_hire 3 rfl) (tgt := 59) (by decide) ?_ ?_
  · refine on_al0 (tk_X3_hire 4 rfl) ?_
    refine fg_3_1 hb kw_1_48 (tk_X3_hire 5 rfl) ?_
    refine on_al0 (tk_X3_hire 6 rfl) ?_
    refine fg_3_0 hb kw_1_42 (tk_X3_hire 7 rfl) fun v2 => ?_
    refine on_il1 (tk_X3_hire 8 rfl) ?_
    refine on_iast (ltS_9 hb) (shS_9 hb) (tk_X3_hire 9 rfl) fun σ3 => ?_
    refine on_al0 (tk_X3_hire 10 rfl) ?_
    refine fg_3_2 hb kw_1_52 (tk_X3_hire 11 rfl) ?_
    refine on_al0 (tk_X3_hire 12 rfl) ?_
    refine fg_3_0 hb kw_1_42 (tk_X3_hire 13 rfl) fun v4 => ?_
    refine on_il2 (tk_X3_hire 14 rfl) ?_
    refine on_iast (ltS_10 hb) (shS_10 hb) (tk_X3_hire 15 rfl) fun σ5 => ?_
    refine on_al0 (tk_X3_hire 16 rfl) ?_
    refine fg_3_3 hb kw_1_56 (tk_X3_hire 17 rfl) ?_
    refine on_al0 (tk_X3_hire 18 rfl) ?_
    refine fg_3_0 hb kw_1_42 (tk_X3_hire 19 rfl) fun v6 => ?_
    refine on_iconst (tk_X3_hire 20 rfl) ?_
    refine on_iast (ltS_11 hb) (shS_11 hb) (tk_X3_hire 21 rfl) fun σ7 => ?_
    refine on_al0 (tk_X3_hire 22 rfl) ?_
    refine fg_3_4 hb kw_1_60 (tk_X3_hire 23 rfl) ?_
    refine on_al0 (tk_X3_hire 24 rfl) ?_
    refine fg_3_0 hb kw_1_42 (tk_X3_hire 25 rfl) fun v8 => ?_
    refine on_iconst (tk_X3_hire 26 rfl) ?_
    refine on_iast (ltS_12 hb) (shS_12 hb) (tk_X3_hire 27 rfl) fun σ9 => ?_
    refine on_al0 (tk_X3_hire 28 rfl) ?_
    refine on_dup rfl (tk_X3_hire 29 rfl) ?_
    refine fg_3_0 hb kw_1_42 (tk_X3_hire 30 rfl) fun v10 => ?_
    refine on_iconst (tk_X3_hire 31 rfl) ?_
    refine on_iadd (tk_X3_hire 32 rfl) ?_
    refine fp_3_0 hb kw_1_42 (tk_X3_hire 33 rfl) fun σ11 => ?_
    exact on_vret (tk_X3_hire 34 rfl)
  · exact on_vret (tk_X3_hire 34 rfl)
def tb_X3_setQuarrel : List (Nat × Nat × Nat × Instr) := [(0, 1, 1, .aload_n 0), (1, 3, 4, .getfield 24), (4, 1, 5, .iload_n 1), (5, 2, 7, .bipush 9), (7, 1, 8, .imul), (8, 1, 9, .iload_n 2), (9, 1, 10, .iadd), (10, 1, 11, .iload_n 3), (11, 1, 12, .iastore), (12, 1, 13, .aload_n 0), (13, 3, 16, .getfield 24), (16, 1, 17, .iload_n 2), (17, 2, 19, .bipush 9), (19, 1, 20, .imul), (20, 1, 21, .iload_n 1), (21, 1, 22, .iadd), (22, 1, 23, .iload_n 3), (23, 1, 24, .iastore), (24, 1, 25, .return_)]
set_option maxRecDepth 100000 in
theorem tk_X3_setQuarrel (k : Nat) {pc n pc2 : Nat} {i : Instr} (hk : tb_X3_setQuarrel[k]? = some (pc, n, pc2, i)) : on_dq cX3_setQuarrel pc n pc2 i := on_ta (by decide +kernel) k hk
theorem ms_X3_setQuarrel : on_Mv yX3_setQuarrel cX3_setQuarrel 4 none 3 := ⟨kw_3_152, kw_3_150, kw_3_151, kw_1_3, by decide, by decide, by decide +kernel⟩
def pf_X3_setQuarrel (b : Nat) (p0 : Int) (p1 : Int) (p2 : Int) (σ : on_S) : Option on_O :=
  on_Wr σ (b + 13) 81 ((p0 * 9) + p1) p2 fun σ1 =>
  on_Wr σ1 (b + 13) 81 ((p1 * 9) + p0) p2 fun σ2 =>
  some (0, σ2)
set_option maxRecDepth 100000 in
set_option maxHeartbeats 4000000 in
theorem ct_X3_setQuarrel {E : on_E} {z n : Nat} {b : Nat} {p0 : Int} {p1 : Int} {p2 : Int} (hN : 100 ≤ n) (hb : on_Sb n b) {σ : on_S} : on_Sp E yX3_setQuarrel cX3_setQuarrel 4 none 0 0 z n [.ref (z + (b + 8)), .int (on_i p0), .int (on_i p1), .int (on_i p2)] σ (pf_X3_setQuarrel b p0 p1 p2 σ) := by
  refine on_met [some (.ref (z + (b + 8))), some (.int (on_i p0)), some (.int (on_i p1)), some (.int (on_i p2))] (by decide) rfl rfl (fun X => ?_)
  rw [pf_X3_setQuarrel]
  refine on_al0 (tk_X3_setQuarrel 0 rfl) ?_
  refine fg_3_5 hb kw_1_63 (tk_X3_setQuarrel 1 rfl) ?_
  refine on_il1 (tk_X3_setQuarrel 2 rfl) ?_
  refine on_bipush (tk_X3_setQuarrel 3 rfl) bp_9 ?_
  refine on_imul (tk_X3_setQuarrel 4 rfl) ?_
  refine on_il2 (tk_X3_setQuarrel 5 rfl) ?_
  refine on_iadd (tk_X3_setQuarrel 6 rfl) ?_
  refine on_il3 (tk_X3_setQuarrel 7 rfl) ?_
  refine on_iast (ltS_13 hb) (shS_13 hb) (tk_X3_setQuarrel 8 rfl) fun σ1 => ?_
  refine on_al0 (tk_X3_setQuarrel 9 rfl) ?_
  refine fg_3_5 hb kw_1_63 (tk_X3_setQuarrel 10 rfl) ?_
  refine on_il2 (tk_X3_setQuarrel 11 rfl) ?_
  refine on_bipush (tk_X3_setQuarrel 12 rfl) bp_9 ?_
  refine on_imul (tk_X3_setQuarrel 13 rfl) ?_
  refine on_il1 (tk_X3_setQuarrel 14 rfl) ?_
  refine on_iadd (tk_X3_setQuarrel 15 rfl) ?_
  refine on_il3 (tk_X3_setQuarrel 16 rfl) ?_
  refine on_iast (ltS_13 hb) (shS_13 hb) (tk_X3_setQuarrel 17 rfl) fun σ2 => ?_
  exact on_vret (tk_X3_setQuarrel 18 rfl)
def tb_X4_clear : List (Nat × Nat × Nat × Instr) := [(0, 1, 1, .aload_n 0), (1, 1, 2, .iconst 0), (2, 3, 5, .putfield 27), (5, 1, 6, .aload_n 0), (6, 3, 9, .getfield 24), (9, 1, 10, .iconst (-1)), (10, 3, 13, .invokestatic 31), (13, 1, 14, .return_)]
set_option maxRecDepth 100000 in
theorem tk_X4_clear (k : Nat) {pc n pc2 : Nat} {i : Instr} (hk : tb_X4_clear[k]? = some (pc, n, pc2, i)) : on_dq cX4_clear pc n pc2 i := on_ta (by decide +kernel) k hk
theorem ms_X4_clear : on_Mv yX4_clear cX4_clear 1 none 0 := ⟨kw_3_14, kw_3_12, kw_3_13, kw_1_4, by decide, by decide, by decide +kernel⟩
def pf_X4_clear (b : Nat) (σ : on_S) : Option on_O :=
  on_Pt σ (b + 14) 0 0 fun σ1 =>
  on_Cl (pf_J7_fill_53178 (b + 19) 8 (-1) σ1) fun _ σ3 =>
  some (0, σ3)
set_option maxRecDepth 100000 in
set_option maxHeartbeats 4000000 in
theorem ct_X4_clear {E : on_E} {z n : Nat} {b : Nat} (hN : 100 ≤ n) (hb : on_Sb n b) {σ : on_S} : on_Sp E yX4_clear cX4_clear 1 none 1 23 z n [.ref (z + (b + 14))] σ (pf_X4_clear b σ) := by
  refine on_met [some (.ref (z + (b + 14)))] (by decide) rfl rfl (fun X => ?_)
  rw [pf_X4_clear]
  refine on_al0 (tk_X4_clear 0 rfl) ?_
  refine on_iconst (tk_X4_clear 1 rfl) ?_
  refine fp_4_0 hb kw_1_86 (tk_X4_clear 2 rfl) fun σ1 => ?_
  refine on_al0 (tk_X4_clear 3 rfl) ?_
  refine fg_4_5 hb kw_1_111 (tk_X4_clear 4 rfl) ?_
  refine on_iconst (tk_X4_clear 5 rfl) ?_
  refine on_cS2v ms_J7_fill_53178 kw_3_15 (ct_J7_fill_53178 hN (ltS_19 hb) (shS_19 hb)) rfl (tk_X4_clear 6 rfl) fun v2 σ3 => ?_
  exact on_vret (tk_X4_clear 7 rfl)
def tb_X4_copyFrom : List (Nat × Nat × Nat × Instr) := [(0, 1, 1, .aload_n 0), (1, 1, 2, .aload_n 1), (2, 3, 5, .getfield 27), (5, 3, 8, .putfield 27), (8, 1, 9, .aload_n 1), (9, 3, 12, .getfield 9), (12, 1, 13, .iconst 0), (13, 1, 14, .aload_n 0), (14, 3, 17, .getfield 9), (17, 1, 18, .iconst 0), (18, 1, 19, .aload_n 0), (19, 3, 22, .getfield 27), (22, 3, 25, .invokestatic 37), (25, 1, 26, .aload_n 1), (26, 3, 29, .getfield 15), (29, 1, 30, .iconst 0), (30, 1, 31, .aload_n 0), (31, 3, 34, .getfield 15), (34, 1, 35, .iconst 0), (35, 1, 36, .aload_n 0), (36, 3, 39, .getfield 27), (39, 3, 42, .invokestatic 37), (42, 1, 43, .aload_n 1), (43, 3, 46, .getfield 18), (46, 1, 47, .iconst 0), (47, 1, 48, .aload_n 0), (48, 3, 51, .getfield 18), (51, 1, 52, .iconst 0), (52, 1, 53, .aload_n 0), (53, 3, 56, .getfield 27), (56, 3, 59, .invokestatic 37), (59, 1, 60, .aload_n 1), (60, 3, 63, .getfield 21), (63, 1, 64, .iconst 0), (64, 1, 65, .aload_n 0), (65, 3, 68, .getfield 21), (68, 1, 69, .iconst 0), (69, 1, 70, .aload_n 0), (70, 3, 73, .getfield 21), (73, 1, 74, .arraylength), (74, 3, 77, .invokestatic 37), (77, 1, 78, .aload_n 1), (78, 3, 81, .getfield 24), (81, 1, 82, .iconst 0), (82, 1, 83, .aload_n 0), (83, 3, 86, .getfield 24), (86, 1, 87, .iconst 0), (87, 1, 88, .aload_n 0), (88, 3, 91, .getfield 24), (91, 1, 92, .arraylength), (92, 3, 95, .invokestatic 37), (95, 1, 96, .return_)]
set_option maxRecDepth 100000 in
theorem tk_X4_copyFrom (k : Nat) {pc n pc2 : Nat} {i : Instr} (hk : tb_X4_copyFrom[k]? = some (pc, n, pc2, i)) : on_dq cX4_copyFrom pc n pc2 i := on_ta (by decide +kernel) k hk
theorem ms_X4_copyFrom : on_Mv yX4_copyFrom cX4_copyFrom 2 none 1 := ⟨kw_3_200, kw_3_198, kw_3_199, kw_1_4, by decide, by decide, by decide +kernel⟩
def pf_X4_copyFrom (b : Nat) (p0 : Nat) (σ : on_S) : Option on_O :=
  on_Gt σ (p0 + 14) 0 fun v1 =>
  on_Pt σ (b + 14) 0 v1 fun σ2 =>
  on_Gt σ2 (b + 14) 0 fun v3 =>
  on_Cp σ2 (p0 + 15) 2 0 (b + 15) 2 0 v3 fun σ4 =>
  on_Gt σ4 (b + 14) 0 fun v5 =>
  on_Cp σ4 (p0 + 16) 2 0 (b + 16) 2 0 v5 fun σ6 =>
  on_Gt σ6 (b + 14) 0 fun v7 =>
  on_Cp σ6 (p0 + 17) 2 0 (b + 17) 2 0 v7 fun σ8 =>
  on_Cp σ8 (p0 + 18) 8 0 (b + 18) 8 0 ((8 : Nat) : Int) fun σ9 =>
  on_Cp σ9 (p0 + 19) 8 0 (b + 19) 8 0 ((8 : Nat) : Int) fun σ10 =>
  some (0, σ10)
set_option maxRecDepth 100000 in
set_option maxHeartbeats 4000000 in
theorem ct_X4_copyFrom {E : on_E} {z n : Nat} {b : Nat} {p0 : Nat} (hN : 100 ≤ n) (hb : on_Sb n b) (ho0 : on_Sb n p0) {σ : on_S} : on_Sp E yX4_copyFrom cX4_copyFrom 2 none 1 26 z n [.ref (z + (b + 14)), .ref (z + (p0 + 14))] σ (pf_X4_copyFrom b p0 σ) := by
  refine on_met [some (.ref (z + (b + 14))), some (.ref (z + (p0 + 14)))] (by decide) rfl rfl (fun X => ?_)
  rw [pf_X4_copyFrom]
  refine on_al0 (tk_X4_copyFrom 0 rfl) ?_
  refine on_al1 (tk_X4_copyFrom 1 rfl) ?_
  refine fg_4_0 ho0 kw_1_86 (tk_X4_copyFrom 2 rfl) fun v1 => ?_
  refine fp_4_0 hb kw_1_86 (tk_X4_copyFrom 3 rfl) fun σ2 => ?_
  refine on_al1 (tk_X4_copyFrom 4 rfl) ?_
  refine fg_4_1 ho0 kw_1_91 (tk_X4_copyFrom 5 rfl) ?_
  refine on_iconst (tk_X4_copyFrom 6 rfl) ?_
  refine on_al0 (tk_X4_copyFrom 7 rfl) ?_
  refine fg_4_1 hb kw_1_91 (tk_X4_copyFrom 8 rfl) ?_
  refine on_iconst (tk_X4_copyFrom 9 rfl) ?_
  refine on_al0 (tk_X4_copyFrom 10 rfl) ?_
  refine fg_4_0 hb kw_1_86 (tk_X4_copyFrom 11 rfl) fun v3 => ?_
  refine on_acpi kw_3_201 kwA_n kwA_s kwA_i (ltS_15 ho0) (ltS_15 hb) (shS_15 ho0) (shS_15 hb) rfl (tk_X4_copyFrom 12 rfl) fun σ4 => ?_
  refine on_al1 (tk_X4_copyFrom 13 rfl) ?_
  refine fg_4_2 ho0 kw_1_96 (tk_X4_copyFrom 14 rfl) ?_
  refine on_iconst (tk_X4_copyFrom 15 rfl) ?_
  refine on_al0 (tk_X4_copyFrom 16 rfl) ?_
  refine fg_4_2 hb kw_1_96 (tk_X4_copyFrom 17 rfl) ?_
  refine on_iconst (tk_X4_copyFrom 18 rfl) ?_
  refine on_al0 (tk_X4_copyFrom 19 rfl) ?_
  refine fg_4_0 hb kw_1_86 (tk_X4_copyFrom 20 rfl) fun v5 => ?_
  refine on_acpi kw_3_201 kwA_n kwA_s kwA_i (ltS_16 ho0) (ltS_16 hb) (shS_16 ho0) (shS_16 hb) rfl (tk_X4_copyFrom 21 rfl) fun σ6 => ?_
  refine on_al1 (tk_X4_copyFrom 22 rfl) ?_
  refine fg_4_3 ho0 kw_1_100 (tk_X4_copyFrom 23 rfl) ?_
  refine on_iconst (tk_X4_copyFrom 24 rfl) ?_
  refine on_al0 (tk_X4_copyFrom 25 rfl) ?_
  refine fg_4_3 hb kw_1_100 (tk_X4_copyFrom 26 rfl) ?_
  refine on_iconst (tk_X4_copyFrom 27 rfl) ?_
  refine on_al0 (tk_X4_copyFrom 28 rfl) ?_
  refine fg_4_0 hb kw_1_86 (tk_X4_copyFrom 29 rfl) fun v7 => ?_
  refine on_acpi kw_3_201 kwA_n kwA_s kwA_i (ltS_17 ho0) (ltS_17 hb) (shS_17 ho0) (shS_17 hb) rfl (tk_X4_copyFrom 30 rfl) fun σ8 => ?_
  refine on_al1 (tk_X4_copyFrom 31 rfl) ?_
  refine fg_4_4 ho0 kw_1_106 (tk_X4_copyFrom 32 rfl) ?_
  refine on_iconst (tk_X4_copyFrom 33 rfl) ?_
  refine on_al0 (tk_X4_copyFrom 34 rfl) ?_
  refine fg_4_4 hb kw_1_106 (tk_X4_copyFrom 35 rfl) ?_
  refine on_iconst (tk_X4_copyFrom 36 rfl) ?_
  refine on_al0 (tk_X4_copyFrom 37 rfl) ?_
  refine fg_4_4 hb kw_1_106 (tk_X4_copyFrom 38 rfl) ?_
  refine on_alen1 (N := 8) (ltS_18 hb) (shS_18 hb) (tk_X4_copyFrom 39 rfl) ?_
  refine on_acpi kw_3_201 kwA_n kwA_s kwA_i (ltS_18 ho0) (ltS_18 hb) (shS_18 ho0) (shS_18 hb) rfl (tk_X4_copyFrom 40 rfl) fun σ9 => ?_
  refine on_al1 (tk_X4_copyFrom 41 rfl) ?_
  refine fg_4_5 ho0 kw_1_111 (tk_X4_copyFrom 42 rfl) ?_
  refine on_iconst (tk_X4_copyFrom 43 rfl) ?_
  refine on_al0 (tk_X4_copyFrom 44 rfl) ?_
  refine fg_4_5 hb kw_1_111 (tk_X4_copyFrom 45 rfl) ?_
  refine on_iconst (tk_X4_copyFrom 46 rfl) ?_
  refine on_al0 (tk_X4_copyFrom 47 rfl) ?_
  refine fg_4_5 hb kw_1_111 (tk_X4_copyFrom 48 rfl) ?_
  refine on_alen1 (N := 8) (ltS_19 hb) (shS_19 hb) (tk_X4_copyFrom 49 rfl) ?_
  refine on_acpi kw_3_201 kwA_n kwA_s kwA_i (ltS_19 ho0) (ltS_19 hb) (shS_19 ho0) (shS_19 hb) rfl (tk_X4_copyFrom 50 rfl) fun σ10 => ?_
  exact on_vret (tk_X4_copyFrom 51 rfl)
def tb_X4_wearDown : List (Nat × Nat × Nat × Instr) := [(0, 1, 1, .aload_n 0), (1, 3, 4, .getfield 15), (4, 1, 5, .iload_n 1), (5, 1, 6, .iaload), (6, 1, 7, .iload_n 2), (7, 1, 8, .imul), (8, 1, 9, .istore_n 3), (9, 1, 10, .iload_n 1), (10, 1, 11, .iconst 4), (11, 1, 12, .imul), (12, 2, 14, .istore 4), (14, 2, 16, .iload 4), (16, 1, 17, .iload_n 1), (17, 1, 18, .iconst 4), (18, 1, 19, .imul), (19, 1, 20, .iconst 4), (20, 1, 21, .iadd), (21, 3, 24, .if_icmp .ge 29), (24, 1, 25, .aload_n 0), (25, 3, 28, .getfield 21), (28, 2, 30, .iload 4), (30, 1, 31, .iconst 0), (31, 1, 32, .aload_n 0), (32, 3, 35, .getfield 21), (35, 2, 37, .iload 4), (37, 1, 38, .iaload), (38, 1, 39, .iload_n 3), (39, 1, 40, .isub), (40, 3, 43, .invokestatic 43), (43, 1, 44, .iastore), (44, 3, 47, .iinc 4 1), (47, 3, 50, .goto (-33)), (50, 1, 51, .return_)]
set_option maxRecDepth 100000 in
theorem tk_X4_wearDown (k : Nat) {pc n pc2 : Nat} {i : Instr} (hk : tb_X4_wearDown[k]? = some (pc, n, pc2, i)) : on_dq cX4_wearDown pc n pc2 i := on_ta (by decide +kernel) k hk
theorem ms_X4_wearDown : on_Mv yX4_wearDown cX4_wearDown 5 none 2 := ⟨kw_4_142, kw_4_140, kw_4_141, kw_1_4, by decide, by decide, by decide +kernel⟩
def pf_X4_wearDown_14 (b : Nat) : Nat → Int → Int → Int → on_S → Option on_O
  | 0, _, _, _, _ => none
  | nf + 1, l1, l3, l4, σ =>
    on_Lt l4 ((l1 * 4) + 4) (
      on_Rd σ (b + 18) 8 l4 fun v2 =>
      on_Mx 0 (v2 - l3) fun v3 =>
      on_Wr σ (b + 18) 8 l4 v3 fun σ4 =>
      pf_X4_wearDown_14 b nf l1 l3 (l4 + 1) σ4) (
      some (0, σ))
def pf_X4_wearDown (b : Nat) (p0 : Int) (p1 : Int) (σ : on_S) : Option on_O :=
  on_Rd σ (b + 16) 2 p0 fun v1 =>
  pf_X4_wearDown_14 b on_N p0 (v1 * p1) (p0 * 4) σ
set_option maxRecDepth 100000 in
set_option maxHeartbeats 4000000 in
theorem gl_X4_wearDown_14 {E : on_E} {z n : Nat} (X : on_X) (b : Nat) (hN : 100 ≤ n) (hb : on_Sb n b) : ∀ (nf : Nat) (l1 : Int) (l3 : Int) (l4 : Int) (σ : on_S), on_G X E cX4_wearDown RX4 none 1 21 5 z n σ (pf_X4_wearDown_14 b nf l1 l3 l4 σ) 14 [some (.ref (z + (b + 14))), some (.int (on_i l1)), none, some (.int (on_i l3)), some (.int (on_i l4))] [] := by
  intro nf
  induction nf with
  | zero => intro l1 l3 l4 σ; exact on_none
  | succ nf ih =>
    intro l1 l3 l4 σ
    rw [pf_X4_wearDown_14]
    refine on_il4 (tk_X4_wearDown 11 rfl) ?_
    refine on_il1 (tk_X4_wearDown 12 rfl) ?_
    refine on_iconst (tk_X4_wearDown 13 rfl) ?_
    refine on_imul (tk_X4_wearDown 14 rfl) ?_
    refine on_iconst (tk_X4_wearDown 15 rfl) ?_
    refine on_iadd (tk_X4_wearDown 16 rfl) ?_
    refine on_icmp_ge (tk_X4_wearDown 17 rfl) (tgt := 50) (by decide) ?_ ?_
    · refine on_al0 (tk_X4_wearDown 18 rfl) ?_
      refine fg_4_4 hb kw_1_106 (tk_X4_wearDown 19 rfl) ?_
      refine on_il4 (tk_X4_wearDown 20 rfl) ?_
      refine on_iconst (tk_X4_wearDown 21 rfl) ?_
      refine on_al0 (tk_X4_wearDown 22 rfl) ?_
      refine fg_4_4 hb kw_1_106 (tk_X4_wearDown 23 rfl) ?_
      refine on_il4 (tk_X4_wearDown 24 rfl) ?_
      refine on_iald (ltS_18 hb) (shS_18 hb) (tk_X4_wearDown 25 rfl) fun v2 => ?_
      refine on_il3 (tk_X4_wearDown 26 rfl) ?_
      refine on_isub (tk_X4_wearDown 27 rfl) ?_
      refine on_max kw_4_143 kwM_max_s kwM_i kwM_max_c rfl (tk_X4_wearDown 28 rfl) fun v3 => ?_
      refine on_iast (ltS_18 hb) (shS_18 hb) (tk_X4_wearDown 29 rfl) fun σ4 => ?_
      refine on_inc4 rfl (tk_X4_wearDown 30 rfl) ?_
      refine on_goto (tk_X4_wearDown 31 rfl) (tgt := 14) (by decide) ?_
      exact ih _ _ _ _
    · exact on_vret (tk_X4_wearDown 32 rfl)
set_option maxRecDepth 100000 in
set_option maxHeartbeats 4000000 in
theorem ct_X4_wearDown {E : on_E} {z n : Nat} {b : Nat} {p0 : Int} {p1 : Int} (hN : 100 ≤ n) (hb : on_Sb n b) {σ : on_S} : on_Sp E yX4_wearDown cX4_wearDown 5 none 1 21 z n [.ref (z + (b + 14)), .int (on_i p0), .int (on_i p1)] σ (pf_X4_wearDown b p0 p1 σ) := by
  refine on_met [some (.ref (z + (b + 14))), some (.int (on_i p0)), some (.int (on_i p1)), none, none] (by decide) rfl rfl (fun X => ?_)
  rw [pf_X4_wearDown]
  refine on_al0 (tk_X4_wearDown 0 rfl) ?_
  refine fg_4_2 hb kw_1_96 (tk_X4_wearDown 1 rfl) ?_
  refine on_il1 (tk_X4_wearDown 2 rfl) ?_
  refine on_iald (ltS_16 hb) (shS_16 hb) (tk_X4_wearDown 3 rfl) fun v1 => ?_
  refine on_il2 (tk_X4_wearDown 4 rfl) ?_
  refine on_imul (tk_X4_wearDown 5 rfl) ?_
  refine on_is3 rfl (tk_X4_wearDown 6 rfl) ?_
  refine on_il1 (tk_X4_wearDown 7 rfl) ?_
  refine on_iconst (tk_X4_wearDown 8 rfl) ?_
  refine on_imul (tk_X4_wearDown 9 rfl) ?_
  refine on_is4 rfl (tk_X4_wearDown 10 rfl) ?_
  refine on_dr2 ?_
  exact gl_X4_wearDown_14 X _ hN hb on_N _ _ _ _
def tb_J6_bitCount_0f7a4 : List (Nat × Nat × Nat × Instr) := [(0, 1, 1, .iload_n 0), (1, 1, 2, .iload_n 0), (2, 1, 3, .iconst 1), (3, 1, 4, .iushr), (4, 3, 7, .ldc_w 265), (7, 1, 8, .iand), (8, 1, 9, .isub), (9, 1, 10, .istore_n 0), (10, 1, 11, .iload_n 0), (11, 3, 14, .ldc_w 266), (14, 1, 15, .iand), (15, 1, 16, .iload_n 0), (16, 1, 17, .iconst 2), (17, 1, 18, .iushr), (18, 3, 21, .ldc_w 266), (21, 1, 22, .iand), (22, 1, 23, .iadd), (23, 1, 24, .istore_n 0), (24, 1, 25, .iload_n 0), (25, 1, 26, .iload_n 0), (26, 1, 27, .iconst 4), (27, 1, 28, .iushr), (28, 1, 29, .iadd), (29, 3, 32, .ldc_w 267), (32, 1, 33, .iand), (33, 1, 34, .istore_n 0), (34, 1, 35, .iload_n 0), (35, 1, 36, .iload_n 0), (36, 2, 38, .bipush 8), (38, 1, 39, .iushr), (39, 1, 40, .iadd), (40, 1, 41, .istore_n 0), (41, 1, 42, .iload_n 0), (42, 1, 43, .iload_n 0), (43, 2, 45, .bipush 16), (45, 1, 46, .iushr), (46, 1, 47, .iadd), (47, 1, 48, .istore_n 0), (48, 1, 49, .iload_n 0), (49, 2, 51, .bipush 63), (51, 1, 52, .iand), (52, 1, 53, .ireturn)]
set_option maxRecDepth 100000 in
theorem tk_J6_bitCount_0f7a4 (k : Nat) {pc n pc2 : Nat} {i : Instr} (hk : tb_J6_bitCount_0f7a4[k]? = some (pc, n, pc2, i)) : on_dq cJ6_bitCount_0f7a4 pc n pc2 i := on_ta (by decide +kernel) k hk
theorem ms_J6_bitCount_0f7a4 : on_Ms yJ6_bitCount_0f7a4 cJ6_bitCount_0f7a4 1 (some .int) 1 := ⟨kw_5_94, kw_5_93, kw_1_21, by decide, by decide, by decide +kernel⟩
def pf_J6_bitCount_0f7a4 (p0 : Int) (σ : on_S) : Option on_O :=
  some ((on_and (((on_and (((on_and (p0 - (on_and (on_ushr p0 1) 1431655765)) 858993459) + (on_and (on_ushr (p0 - (on_and (on_ushr p0 1) 1431655765)) 2) 858993459)) + (on_ushr ((on_and (p0 - (on_and (on_ushr p0 1) 1431655765)) 858993459) + (on_and (on_ushr (p0 - (on_and (on_ushr p0 1) 1431655765)) 2) 858993459)) 4)) 252645135) + (on_ushr (on_and (((on_and (p0 - (on_and (on_ushr p0 1) 1431655765)) 858993459) + (on_and (on_ushr (p0 - (on_and (on_ushr p0 1) 1431655765)) 2) 858993459)) + (on_ushr ((on_and (p0 - (on_and (on_ushr p0 1) 1431655765)) 858993459) + (on_and (on_ushr (p0 - (on_and (on_ushr p0 1) 1431655765)) 2) 858993459)) 4)) 252645135) 8)) + (on_ushr ((on_and (((on_and (p0 - (on_and (on_ushr p0 1) 1431655765)) 858993459) + (on_and (on_ushr (p0 - (on_and (on_ushr p0 1) 1431655765)) 2) 858993459)) + (on_ushr ((on_and (p0 - (on_and (on_ushr p0 1) 1431655765)) 858993459) + (on_and (on_ushr (p0 - (on_and (on_ushr p0 1) 1431655765)) 2) 858993459)) 4)) 252645135) + (on_ushr (on_and (((on_and (p0 - (on_and (on_ushr p0 1) 1431655765)) 858993459) + (on_and (on_ushr (p0 - (on_and (on_ushr p0 1) 1431655765)) 2) 858993459)) + (on_ushr ((on_and (p0 - (on_and (on_ushr p0 1) 1431655765)) 858993459) + (on_and (on_ushr (p0 - (on_and (on_ushr p0 1) 1431655765)) 2) 858993459)) 4)) 252645135) 8)) 16)) 63), σ)
set_option maxRecDepth 100000 in
set_option maxHeartbeats 4000000 in
theorem ct_J6_bitCount_0f7a4 {E : on_E} {z n : Nat} {p0 : Int} (hN : 100 ≤ n) {σ : on_S} : on_Sp E yJ6_bitCount_0f7a4 cJ6_bitCount_0f7a4 1 (some .int) 0 0 z n [.int (on_i p0)] σ (pf_J6_bitCount_0f7a4 p0 σ) := by
  refine on_met [some (.int (on_i p0))] (by decide) rfl rfl (fun X => ?_)
  rw [pf_J6_bitCount_0f7a4]
  refine on_il0 (tk_J6_bitCount_0f7a4 0 rfl) ?_
  refine on_il0 (tk_J6_bitCount_0f7a4 1 rfl) ?_
  refine on_iconst (tk_J6_bitCount_0f7a4 2 rfl) ?_
  refine on_iushr (tk_J6_bitCount_0f7a4 3 rfl) ?_
  refine on_ldcw (a := 1431655765) kw_5_95 (by decide +kernel) (tk_J6_bitCount_0f7a4 4 rfl) ?_
  refine on_iand (tk_J6_bitCount_0f7a4 5 rfl) ?_
  refine on_isub (tk_J6_bitCount_0f7a4 6 rfl) ?_
  refine on_is0 (tk_J6_bitCount_0f7a4 7 rfl) ?_
  refine on_il0 (tk_J6_bitCount_0f7a4 8 rfl) ?_
  refine on_ldcw (a := 858993459) kw_5_96 (by decide +kernel) (tk_J6_bitCount_0f7a4 9 rfl) ?_
  refine on_iand (tk_J6_bitCount_0f7a4 10 rfl) ?_
  refine on_il0 (tk_J6_bitCount_0f7a4 11 rfl) ?_
  refine on_iconst (tk_J6_bitCount_0f7a4 12 rfl) ?_
  refine on_iushr (tk_J6_bitCount_0f7a4 13 rfl) ?_
  refine on_ldcw (a := 858993459) kw_5_96 (by decide +kernel) (tk_J6_bitCount_0f7a4 14 rfl) ?_
  refine on_iand (tk_J6_bitCount_0f7a4 15 rfl) ?_
  refine on_iadd (tk_J6_bitCount_0f7a4 16 rfl) ?_
  refine on_is0 (tk_J6_bitCount_0f7a4 17 rfl) ?_
  refine on_il0 (tk_J6_bitCount_0f7a4 18 rfl) ?_
  refine on_il0 (tk_J6_bitCount_0f7a4 19 rfl) ?_
  refine on_iconst (tk_J6_bitCount_0f7a4 20 rfl) ?_
  refine on_iushr (tk_J6_bitCount_0f7a4 21 rfl) ?_
  refine on_iadd (tk_J6_bitCount_0f7a4 22 rfl) ?_
  refine on_ldcw (a := 252645135) kw_5_97 (by decide +kernel) (tk_J6_bitCount_0f7a4 23 rfl) ?_
  refine on_iand (tk_J6_bitCount_0f7a4 24 rfl) ?_
  refine on_is0 (tk_J6_bitCount_0f7a4 25 rfl) ?_
  refine on_il0 (tk_J6_bitCount_0f7a4 26 rfl) ?_
  refine on_il0 (tk_J6_bitCount_0f7a4 27 rfl) ?_
  refine on_bipush (tk_J6_bitCount_0f7a4 28 rfl) bp_8 ?_
  refine on_iushr (tk_J6_bitCount_0f7a4 29 rfl) ?_
  refine on_iadd (tk_J6_bitCount_0f7a4 30 rfl) ?_
  refine on_is0 (tk_J6_bitCount_0f7a4 31 rfl) ?_
  refine on_il0 (tk_J6_bitCount_0f7a4 32 rfl) ?_
  refine on_il0 (tk_J6_bitCount_0f7a4 33 rfl) ?_
  refine on_bipush (tk_J6_bitCount_0f7a4 34 rfl) bp_16 ?_
  refine on_iushr (tk_J6_bitCount_0f7a4 35 rfl) ?_
  refine on_iadd (tk_J6_bitCount_0f7a4 36 rfl) ?_
  refine on_is0 (tk_J6_bitCount_0f7a4 37 rfl) ?_
  refine on_il0 (tk_J6_bitCount_0f7a4 38 rfl) ?_
  refine on_bipush (tk_J6_bitCount_0f7a4 39 rfl) bp_63 ?_
  refine on_iand (tk_J6_bitCount_0f7a4 40 rfl) ?_
  exact on_iret (tk_J6_bitCount_0f7a4 41 rfl)
def tb_J7_fill_d0a16 : List (Nat × Nat × Nat × Instr) := [(0, 1, 1, .iconst 0), (1, 1, 2, .istore_n 3), (2, 1, 3, .aload_n 0), (3, 1, 4, .arraylength), (4, 2, 6, .istore 4), (6, 1, 7, .iload_n 3), (7, 2, 9, .iload 4), (9, 3, 12, .if_icmp .ge 13), (12, 1, 13, .aload_n 0), (13, 1, 14, .iload_n 3), (14, 1, 15, .lload_n 1), (15, 1, 16, .lastore), (16, 3, 19, .iinc 3 1), (19, 3, 22, .goto (-13)), (22, 1, 23, .return_)]
set_option maxRecDepth 100000 in
theorem tk_J7_fill_d0a16 (k : Nat) {pc n pc2 : Nat} {i : Instr} (hk : tb_J7_fill_d0a16[k]? = some (pc, n, pc2, i)) : on_dq cJ7_fill_d0a16 pc n pc2 i := on_ta (by decide +kernel) k hk
theorem ms_J7_fill_d0a16 : on_Ms yJ7_fill_d0a16 cJ7_fill_d0a16 5 none 2 := ⟨kw_6_119, kw_6_118, kw_1_15, by decide, by decide, by decide +kernel⟩
def pf_J7_fill_d0a16_6 (p0 : Nat) (p0n : Nat) : Nat → Int → Int → Int → on_S → Option on_O
  | 0, _, _, _, _ => none
  | nf + 1, l1, l3, l4, σ =>
    on_Lt l3 l4 (
      on_Wr σ p0 p0n l3 l1 fun σ1 =>
      pf_J7_fill_d0a16_6 p0 p0n nf l1 (l3 + 1) l4 σ1) (
      some (0, σ))
def pf_J7_fill_d0a16 (p0 : Nat) (p0n : Nat) (p1 : Int) (σ : on_S) : Option on_O :=
  pf_J7_fill_d0a16_6 p0 p0n on_N p1 0 (p0n : Int) σ
set_option maxRecDepth 100000 in
set_option maxHeartbeats 4000000 in
theorem gl_J7_fill_d0a16_6 {E : on_E} {z n : Nat} (X : on_X) (p0 : Nat) (p0n : Nat) (hN : 100 ≤ n) (ha0 : p0 < n) (hs0 : on_sh p0 = (3, p0n)) : ∀ (nf : Nat) (l1 : Int) (l3 : Int) (l4 : Int) (σ : on_S), on_G X E cJ7_fill_d0a16 RJ7 none 0 0 5 z n σ (pf_J7_fill_d0a16_6 p0 p0n nf l1 l3 l4 σ) 6 [some (.ref (z + p0)), some (.long (on_l l1)), none, some (.int (on_i l3)), some (.int (on_i l4))] [] := by
  intro nf
  induction nf with
  | zero => intro l1 l3 l4 σ; exact on_none
  | succ nf ih =>
    intro l1 l3 l4 σ
    rw [pf_J7_fill_d0a16_6]
    refine on_il3 (tk_J7_fill_d0a16 5 rfl) ?_
    refine on_il4 (tk_J7_fill_d0a16 6 rfl) ?_
    refine on_icmp_ge (tk_J7_fill_d0a16 7 rfl) (tgt := 22) (by decide) ?_ ?_
    · refine on_al0 (tk_J7_fill_d0a16 8 rfl) ?_
      refine on_il3 (tk_J7_fill_d0a16 9 rfl) ?_
      refine on_ll1 (tk_J7_fill_d0a16 10 rfl) ?_
      refine on_last ha0 hs0 (tk_J7_fill_d0a16 11 rfl) fun σ1 => ?_
      refine on_inc3 rfl (tk_J7_fill_d0a16 12 rfl) ?_
      refine on_goto (tk_J7_fill_d0a16 13 rfl) (tgt := 6) (by decide) ?_
      exact ih _ _ _ _
    · exact on_vret (tk_J7_fill_d0a16 14 rfl)
set_option maxRecDepth 100000 in
set_option maxHeartbeats 4000000 in
theorem ct_J7_fill_d0a16 {E : on_E} {z n : Nat} {p0 : Nat} {p0n : Nat} {p1 : Int} (hN : 100 ≤ n) (ha0 : p0 < n) (hs0 : on_sh p0 = (3, p0n)) {σ : on_S} : on_Sp E yJ7_fill_d0a16 cJ7_fill_d0a16 5 none 0 0 z n [.ref (z + p0), .long (on_l p1)] σ (pf_J7_fill_d0a16 p0 p0n p1 σ) := by
  refine on_met [some (.ref (z + p0)), some (.long (on_l p1)), none, none, none] (by decide) rfl rfl (fun X => ?_)
  rw [pf_J7_fill_d0a16]
  refine on_iconst (tk_J7_fill_d0a16 0 rfl) ?_
  refine on_is3 rfl (tk_J7_fill_d0a16 1 rfl) ?_
  refine on_al0 (tk_J7_fill_d0a16 2 rfl) ?_
  refine on_alen3 ha0 hs0 (tk_J7_fill_d0a16 3 rfl) ?_
  refine on_is4 rfl (tk_J7_fill_d0a16 4 rfl) ?_
  exact gl_J7_fill_d0a16_6 X _ _ hN ha0 hs0 on_N _ _ _ _
def tb_X8_begin : List (Nat × Nat × Nat × Instr) := [(0, 1, 1, .aload_n 0), (1, 1, 2, .iload_n 1), (2, 3, 5, .putfield 9), (5, 1, 6, .aload_n 0), (6, 1, 7, .iload_n 2), (7, 3, 10, .putfield 19), (10, 1, 11, .aload_n 0), (11, 3, 14, .getfield 15), (14, 1, 15, .lconst 0), (15, 3, 18, .invokestatic 22), (18, 1, 19, .return_)]
set_option maxRecDepth 100000 in
theorem tk_X8_begin (k : Nat) {pc n pc2 : Nat} {i : Instr} (hk : tb_X8_begin[k]? = some (pc, n, pc2, i)) : on_dq cX8_begin pc n pc2 i := on_ta (by decide +kernel) k hk
theorem ms_X8_begin : on_Mv yX8_begin cX8_begin 3 none 2 := ⟨kw_6_116, kw_6_114, kw_6_115, kw_1_12, by decide, by decide, by decide +kernel⟩
def pf_X8_begin (b : Nat) (p0 : Int) (p1 : Int) (σ : on_S) : Option on_O :=
  on_Pt σ b 0 p0 fun σ1 =>
  on_Pt σ1 b 1 p1 fun σ2 =>
  on_Cl (pf_J7_fill_d0a16 (b + 1) 60 0 σ2) fun _ σ4 =>
  some (0, σ4)
set_option maxRecDepth 100000 in
set_option maxHeartbeats 4000000 in
theorem ct_X8_begin {E : on_E} {z n : Nat} {b : Nat} {p0 : Int} {p1 : Int} (hN : 100 ≤ n) (hb : on_Lb b) {σ : on_S} : on_Sp E yX8_begin cX8_begin 3 none 1 24 z n [.ref (z + b), .int (on_i p0), .int (on_i p1)] σ (pf_X8_begin b p0 p1 σ) := by
  refine on_met [some (.ref (z + b)), some (.int (on_i p0)), some (.int (on_i p1))] (by decide) rfl rfl (fun X => ?_)
  rw [pf_X8_begin]
  refine on_al0 (tk_X8_begin 0 rfl) ?_
  refine on_il1 (tk_X8_begin 1 rfl) ?_
  refine fp_8_0 hN hb kw_2_163 (tk_X8_begin 2 rfl) fun σ1 => ?_
  refine on_al0 (tk_X8_begin 3 rfl) ?_
  refine on_il2 (tk_X8_begin 4 rfl) ?_
  refine fp_8_1 hN hb kw_2_166 (tk_X8_begin 5 rfl) fun σ2 => ?_
  refine on_al0 (tk_X8_begin 6 rfl) ?_
  refine fg_8_2 hN hb kw_2_168 (tk_X8_begin 7 rfl) ?_
  refine on_lconst0 (tk_X8_begin 8 rfl) ?_
  refine on_cS2v ms_J7_fill_d0a16 kw_6_117 (ct_J7_fill_d0a16 hN (ltL_1 hN hb) (shL_1 hb)) rfl (tk_X8_begin 9 rfl) fun v3 σ4 => ?_
  exact on_vret (tk_X8_begin 10 rfl)
def tb_X8_cut : List (Nat × Nat × Nat × Instr) := [(0, 1, 1, .iload_n 2), (1, 27, 28, .tableswitch 41 0 2 #[27, 32, 37]), (28, 1, 29, .lload_n 0), (29, 1, 30, .l2i), (30, 1, 31, .i2b), (31, 1, 32, .i2l), (32, 1, 33, .lreturn), (33, 1, 34, .lload_n 0), (34, 1, 35, .l2i), (35, 1, 36, .i2s), (36, 1, 37, .i2l), (37, 1, 38, .lreturn), (38, 1, 39, .lload_n 0), (39, 1, 40, .l2i), (40, 1, 41, .i2l), (41, 1, 42, .lreturn), (42, 1, 43, .lload_n 0), (43, 1, 44, .lreturn)]
set_option maxRecDepth 100000 in
theorem tk_X8_cut (k : Nat) {pc n pc2 : Nat} {i : Instr} (hk : tb_X8_cut[k]? = some (pc, n, pc2, i)) : on_dq cX8_cut pc n pc2 i := on_ta (by decide +kernel) k hk
theorem ms_X8_cut : on_Ms yX8_cut cX8_cut 3 (some .long) 2 := ⟨kw_6_126, kw_6_125, kw_1_12, by decide, by decide, by decide +kernel⟩
def pf_X8_cut (p0 : Int) (p1 : Int) (σ : on_S) : Option on_O :=
  on_sw p1 0 [
    (on_Ck (on_ib p0) <|
    some ((on_ib p0), σ)),
    (on_Ck (on_is p0) <|
    some ((on_is p0), σ)),
    (some ((on_nm p0), σ))] (
    some (p0, σ))
set_option maxRecDepth 100000 in
set_option maxHeartbeats 4000000 in
theorem ct_X8_cut {E : on_E} {z n : Nat} {p0 : Int} {p1 : Int} (hN : 100 ≤ n) {σ : on_S} : on_Sp E yX8_cut cX8_cut 3 (some .long) 0 0 z n [.long (on_l p0), .int (on_i p1)] σ (pf_X8_cut p0 p1 σ) := by
  refine on_met [some (.long (on_l p0)), none, some (.int (on_i p1))] (by decide) rfl rfl (fun X => ?_)
  rw [pf_X8_cut]
  refine on_il2 (tk_X8_cut 0 rfl) ?_
  refine on_tsw (dt := 42) [28, 33, 38] (tk_X8_cut 1 rfl) rfl rfl (by decide) (by decide) ?_ ?_
  · intro j q hq
    match j, hq with
    | 0, hq =>
      cases hq
      refine on_ll0 (tk_X8_cut 2 rfl) ?_
      refine on_xl2i (tk_X8_cut 3 rfl) ?_
      refine on_i2b (tk_X8_cut 4 rfl) ?_
      refine on_xi2l (tk_X8_cut 5 rfl) ?_
      exact on_lret (tk_X8_cut 6 rfl)
    | 1, hq =>
      cases hq
      refine on_ll0 (tk_X8_cut 7 rfl) ?_
      refine on_xl2i (tk_X8_cut 8 rfl) ?_
      refine on_i2s (tk_X8_cut 9 rfl) ?_
      refine on_xi2l (tk_X8_cut 10 rfl) ?_
      exact on_lret (tk_X8_cut 11 rfl)
    | 2, hq =>
      cases hq
      refine on_ll0 (tk_X8_cut 12 rfl) ?_
      refine on_xl2i (tk_X8_cut 13 rfl) ?_
      refine on_xi2ln (tk_X8_cut 14 rfl) ?_
      exact on_lret (tk_X8_cut 15 rfl)
    | j + 3, hq => simp at hq
  · refine on_ll0 (tk_X8_cut 16 rfl) ?_
    exact on_lret (tk_X8_cut 17 rfl)
def tb_X8_has : List (Nat × Nat × Nat × Instr) := [(0, 1, 1, .iload_n 1), (1, 3, 4, .ifCond .lt 29), (4, 1, 5, .iload_n 2), (5, 3, 8, .ifCond .lt 25), (8, 1, 9, .iload_n 1), (9, 1, 10, .aload_n 0), (10, 3, 13, .getfield 19), (13, 3, 16, .if_icmp .gt 17), (16, 1, 17, .iload_n 2), (17, 1, 18, .aload_n 0), (18, 3, 21, .getfield 19), (21, 1, 22, .iload_n 1), (22, 1, 23, .isub), (23, 3, 26, .if_icmp .gt 7), (26, 1, 27, .iconst 1), (27, 3, 30, .goto 4), (30, 1, 31, .iconst 0), (31, 1, 32, .ireturn)]
set_option maxRecDepth 100000 in
theorem tk_X8_has (k : Nat) {pc n pc2 : Nat} {i : Instr} (hk : tb_X8_has[k]? = some (pc, n, pc2, i)) : on_dq cX8_has pc n pc2 i := on_ta (by decide +kernel) k hk
theorem ms_X8_has : on_Mv yX8_has cX8_has 3 (some .boolean) 2 := ⟨kw_6_134, kw_6_132, kw_6_133, kw_1_12, by decide, by decide, by decide +kernel⟩
def pf_X8_has_30 (σ : on_S) : Option on_O :=
  some (0, σ)
def pf_X8_has (b : Nat) (p0 : Int) (p1 : Int) (σ : on_S) : Option on_O :=
  on_Lt p0 0 (
    pf_X8_has_30 σ) (
    on_Lt p1 0 (
      pf_X8_has_30 σ) (
      on_Gt σ b 1 fun v1 =>
      on_Le p0 v1 (
        on_Gt σ b 1 fun v2 =>
        on_Le p1 (v2 - p0) (
          some (1, σ)) (
          pf_X8_has_30 σ)) (
        pf_X8_has_30 σ)))
set_option maxRecDepth 100000 in
set_option maxHeartbeats 4000000 in
theorem gb_X8_has_30 {E : on_E} {z n : Nat} (X : on_X) (hN : 100 ≤ n) (σ : on_S) : on_G X E cX8_has RX8 (some .boolean) 0 0 3 z n σ (pf_X8_has_30  σ) 30 [none, none, none] [] := by
  rw [pf_X8_has_30]
  refine on_iconst (tk_X8_has 16 rfl) ?_
  exact on_zret0 (tk_X8_has 17 rfl)
set_option maxRecDepth 100000 in
set_option maxHeartbeats 4000000 in
theorem ct_X8_has {E : on_E} {z n : Nat} {b : Nat} {p0 : Int} {p1 : Int} (hN : 100 ≤ n) (hb : on_Lb b) {σ : on_S} : on_Sp E yX8_has cX8_has 3 (some .boolean) 0 0 z n [.ref (z + b), .int (on_i p0), .int (on_i p1)] σ (pf_X8_has b p0 p1 σ) := by
  refine on_met [some (.ref (z + b)), some (.int (on_i p0)), some (.int (on_i p1))] (by decide) rfl rfl (fun X => ?_)
  rw [pf_X8_has]
  refine on_il1 (tk_X8_has 0 rfl) ?_
  refine on_if_lt (tk_X8_has 1 rfl) (tgt := 30) (by decide) ?_ ?_
  · refine on_il2 (tk_X8_has 2 rfl) ?_
    refine on_if_lt (tk_X8_has 3 rfl) (tgt := 30) (by decide) ?_ ?_
    · refine on_il1 (tk_X8_has 4 rfl) ?_
      refine on_al0 (tk_X8_has 5 rfl) ?_
      refine fg_8_1 hN hb kw_2_166 (tk_X8_has 6 rfl) fun v1 => ?_
      refine on_icmp_gt (tk_X8_has 7 rfl) (tgt := 30) (by decide) ?_ ?_
      · refine on_il2 (tk_X8_has 8 rfl) ?_
        refine on_al0 (tk_X8_has 9 rfl) ?_
        refine fg_8_1 hN hb kw_2_166 (tk_X8_has 10 rfl) fun v2 => ?_
        refine on_il1 (tk_X8_has 11 rfl) ?_
        refine on_isub (tk_X8_has 12 rfl) ?_
        refine on_icmp_gt (tk_X8_has 13 rfl) (tgt := 30) (by decide) ?_ ?_
        · refine on_iconst (tk_X8_has 14 rfl) ?_
          refine on_goto (tk_X8_has 15 rfl) (tgt := 31) (by decide) ?_
          exact on_zret1 (tk_X8_has 17 rfl)
        · refine on_dr0 ?_
          refine on_dr1 ?_
          refine on_dr2 ?_
          exact gb_X8_has_30 X  hN _
      · refine on_dr0 ?_
        refine on_dr1 ?_
        refine on_dr2 ?_
        exact gb_X8_has_30 X  hN _
    · refine on_dr0 ?_
      refine on_dr1 ?_
      refine on_dr2 ?_
      exact gb_X8_has_30 X  hN _
  · refine on_dr0 ?_
    refine on_dr1 ?_
    refine on_dr2 ?_
    exact gb_X8_has_30 X  hN _
