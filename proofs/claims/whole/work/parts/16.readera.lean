def tb_X6_kindAt : List (Nat × Nat × Nat × Instr) := [(0, 1, 1, .iload_n 1), (1, 1, 2, .aload_n 0), (2, 3, 5, .getfield 29), (5, 3, 8, .if_icmp .lt 5), (8, 1, 9, .iconst 0), (9, 1, 10, .ireturn), (10, 1, 11, .aload_n 0), (11, 3, 14, .getfield 15), (14, 1, 15, .iload_n 1), (15, 1, 16, .baload), (16, 1, 17, .istore_n 2), (17, 1, 18, .iload_n 2), (18, 2, 20, .bipush 97), (20, 3, 23, .if_icmp .lt 11), (23, 1, 24, .iload_n 2), (24, 2, 26, .bipush 122), (26, 3, 29, .if_icmp .gt 5), (29, 1, 30, .iconst 1), (30, 1, 31, .ireturn), (31, 1, 32, .iload_n 2), (32, 2, 34, .bipush 48), (34, 3, 37, .if_icmp .lt 11), (37, 1, 38, .iload_n 2), (38, 2, 40, .bipush 57), (40, 3, 43, .if_icmp .gt 5), (43, 1, 44, .iconst 2), (44, 1, 45, .ireturn), (45, 1, 46, .iload_n 2), (46, 2, 48, .bipush 59), (48, 3, 51, .if_icmp .ne 7), (51, 1, 52, .iconst 3), (52, 3, 55, .goto 4), (55, 1, 56, .iconst 4), (56, 1, 57, .ireturn)]
set_option maxRecDepth 100000 in
theorem tk_X6_kindAt (k : Nat) {pc n pc2 : Nat} {i : Instr} (hk : tb_X6_kindAt[k]? = some (pc, n, pc2, i)) : on_dq cX6_kindAt pc n pc2 i := on_ta (by decide +kernel) k hk
theorem ms_X6_kindAt : on_Mv yX6_kindAt cX6_kindAt 3 (some .int) 1 := ⟨kw_3_23, kw_3_21, kw_3_22, kw_1_6, by decide, by decide, by decide +kernel⟩
def pf_X6_kindAt_45 (l2 : Int) (σ : on_S) : Option on_O :=
  on_Eq l2 59 (
    some (3, σ)) (
    some (4, σ))
def pf_X6_kindAt_31 (l2 : Int) (σ : on_S) : Option on_O :=
  on_Lt l2 48 (
    pf_X6_kindAt_45 l2 σ) (
    on_Le l2 57 (
      some (2, σ)) (
      pf_X6_kindAt_45 l2 σ))
def pf_X6_kindAt (p0 : Int) (σ : on_S) : Option on_O :=
  on_Gt σ 52 2 fun v1 =>
  on_Lt p0 v1 (
    on_Rd σ 1 1400 p0 fun v2 =>
    on_Lt v2 97 (
      pf_X6_kindAt_31 v2 σ) (
      on_Le v2 122 (
        some (1, σ)) (
        pf_X6_kindAt_31 v2 σ))) (
    some (0, σ))
set_option maxRecDepth 100000 in
set_option maxHeartbeats 4000000 in
theorem gb_X6_kindAt_45 {E : on_E} {z n : Nat} (X : on_X) (hN : 100 ≤ n) (l2 : Int) (σ : on_S) : on_G X E cX6_kindAt RX6 (some .int) 0 0 3 z n σ (pf_X6_kindAt_45 l2 σ) 45 [none, none, some (.int (on_i l2))] [] := by
  rw [pf_X6_kindAt_45]
  refine on_il2 (tk_X6_kindAt 27 rfl) ?_
  refine on_bipush (tk_X6_kindAt 28 rfl) bp_59 ?_
  refine on_icmp_ne (tk_X6_kindAt 29 rfl) (tgt := 55) (by decide) ?_ ?_
  · refine on_iconst (tk_X6_kindAt 30 rfl) ?_
    refine on_goto (tk_X6_kindAt 31 rfl) (tgt := 56) (by decide) ?_
    exact on_iret (tk_X6_kindAt 33 rfl)
  · refine on_iconst (tk_X6_kindAt 32 rfl) ?_
    exact on_iret (tk_X6_kindAt 33 rfl)
set_option maxRecDepth 100000 in
set_option maxHeartbeats 4000000 in
theorem gb_X6_kindAt_31 {E : on_E} {z n : Nat} (X : on_X) (hN : 100 ≤ n) (l2 : Int) (σ : on_S) : on_G X E cX6_kindAt RX6 (some .int) 0 0 3 z n σ (pf_X6_kindAt_31 l2 σ) 31 [none, none, some (.int (on_i l2))] [] := by
  rw [pf_X6_kindAt_31]
  refine on_il2 (tk_X6_kindAt 19 rfl) ?_
  refine on_bipush (tk_X6_kindAt 20 rfl) bp_48 ?_
  refine on_icmp_lt (tk_X6_kindAt 21 rfl) (tgt := 45) (by decide) ?_ ?_
  · refine on_il2 (tk_X6_kindAt 22 rfl) ?_
    refine on_bipush (tk_X6_kindAt 23 rfl) bp_57 ?_
    refine on_icmp_gt (tk_X6_kindAt 24 rfl) (tgt := 45) (by decide) ?_ ?_
    · refine on_iconst (tk_X6_kindAt 25 rfl) ?_
      exact on_iret (tk_X6_kindAt 26 rfl)
    · exact gb_X6_kindAt_45 X  hN _ _
  · exact gb_X6_kindAt_45 X  hN _ _
set_option maxRecDepth 100000 in
set_option maxHeartbeats 4000000 in
theorem ct_X6_kindAt {E : on_E} {z n : Nat} {p0 : Int} (hN : 100 ≤ n) {σ : on_S} : on_Sp E yX6_kindAt cX6_kindAt 3 (some .int) 0 0 z n [.ref (z + 52), .int (on_i p0)] σ (pf_X6_kindAt p0 σ) := by
  refine on_met [some (.ref (z + 52)), some (.int (on_i p0)), none] (by decide) rfl rfl (fun X => ?_)
  rw [pf_X6_kindAt]
  refine on_il1 (tk_X6_kindAt 0 rfl) ?_
  refine on_al0 (tk_X6_kindAt 1 rfl) ?_
  refine fg_6_2 hN kw_2_1 (tk_X6_kindAt 2 rfl) fun v1 => ?_
  refine on_icmp_lt (tk_X6_kindAt 3 rfl) (tgt := 10) (by decide) ?_ ?_
  · refine on_iconst (tk_X6_kindAt 4 rfl) ?_
    exact on_iret (tk_X6_kindAt 5 rfl)
  · refine on_al0 (tk_X6_kindAt 6 rfl) ?_
    refine fg_6_0 hN kw_1_239 (tk_X6_kindAt 7 rfl) ?_
    refine on_il1 (tk_X6_kindAt 8 rfl) ?_
    refine on_bald (ltc_1 hN) sh_1 (tk_X6_kindAt 9 rfl) fun v2 => ?_
    refine on_is2 rfl (tk_X6_kindAt 10 rfl) ?_
    refine on_il2 (tk_X6_kindAt 11 rfl) ?_
    refine on_bipush (tk_X6_kindAt 12 rfl) bp_97 ?_
    refine on_icmp_lt (tk_X6_kindAt 13 rfl) (tgt := 31) (by decide) ?_ ?_
    · refine on_il2 (tk_X6_kindAt 14 rfl) ?_
      refine on_bipush (tk_X6_kindAt 15 rfl) bp_122 ?_
      refine on_icmp_gt (tk_X6_kindAt 16 rfl) (tgt := 31) (by decide) ?_ ?_
      · refine on_iconst (tk_X6_kindAt 17 rfl) ?_
        exact on_iret (tk_X6_kindAt 18 rfl)
      · refine on_dr0 ?_
        refine on_dr1 ?_
        exact gb_X6_kindAt_31 X  hN _ _
    · refine on_dr0 ?_
      refine on_dr1 ?_
      exact gb_X6_kindAt_31 X  hN _ _
def tb_X6_readToken : List (Nat × Nat × Nat × Instr) := [(0, 1, 1, .aload_n 0), (1, 3, 4, .getfield 32), (4, 1, 5, .aload_n 0), (5, 3, 8, .getfield 29), (8, 3, 11, .if_icmp .ge 44), (11, 1, 12, .aload_n 0), (12, 3, 15, .getfield 15), (15, 1, 16, .aload_n 0), (16, 3, 19, .getfield 32), (19, 1, 20, .baload), (20, 2, 22, .bipush 32), (22, 3, 25, .if_icmp .eq 17), (25, 1, 26, .aload_n 0), (26, 3, 29, .getfield 15), (29, 1, 30, .aload_n 0), (30, 3, 33, .getfield 32), (33, 1, 34, .baload), (34, 2, 36, .bipush 10), (36, 3, 39, .if_icmp .ne 16), (39, 1, 40, .aload_n 0), (40, 1, 41, .dup), (41, 3, 44, .getfield 32), (44, 1, 45, .iconst 1), (45, 1, 46, .iadd), (46, 3, 49, .putfield 32), (49, 3, 52, .goto (-49)), (52, 1, 53, .aload_n 0), (53, 1, 54, .aload_n 0), (54, 3, 57, .getfield 32), (57, 3, 60, .putfield 52), (60, 1, 61, .aload_n 0), (61, 1, 62, .iconst 0), (62, 3, 65, .putfield 55), (65, 1, 66, .aload_n 0), (66, 1, 67, .aload_n 0), (67, 1, 68, .aload_n 0), (68, 3, 71, .getfield 32), (71, 3, 74, .invokevirtual 58), (74, 3, 77, .putfield 46), (77, 1, 78, .aload_n 0), (78, 3, 81, .getfield 46), (81, 3, 84, .ifCond .ne 4), (84, 1, 85, .return_), (85, 1, 86, .aload_n 0), (86, 3, 89, .getfield 46), (89, 1, 90, .iconst 1), (90, 3, 93, .if_icmp .eq 11), (93, 1, 94, .aload_n 0), (94, 3, 97, .getfield 46), (97, 1, 98, .iconst 2), (98, 3, 101, .if_icmp .ne 7), (101, 1, 102, .iconst 1), (102, 3, 105, .goto 4), (105, 1, 106, .iconst 0), (106, 1, 107, .istore_n 1), (107, 1, 108, .aload_n 0), (108, 3, 111, .getfield 46), (111, 1, 112, .iconst 2), (112, 3, 115, .if_icmp .ne 33), (115, 1, 116, .aload_n 0), (116, 3, 119, .sipush 1000), (119, 1, 120, .aload_n 0), (120, 3, 123, .getfield 55), (123, 2, 125, .bipush 10), (125, 1, 126, .imul), (126, 1, 127, .aload_n 0), (127, 3, 130, .getfield 15), (130, 1, 131, .aload_n 0), (131, 3, 134, .getfield 32), (134, 1, 135, .baload), (135, 1, 136, .iadd), (136, 2, 138, .bipush 48), (138, 1, 139, .isub), (139, 3, 142, .invokestatic 23), (142, 3, 145, .putfield 55), (145, 1, 146, .aload_n 0), (146, 1, 147, .dup), (147, 3, 150, .getfield 32), (150, 1, 151, .iconst 1), (151, 1, 152, .iadd), (152, 3, 155, .putfield 32), (155, 1, 156, .iload_n 1), (156, 3, 159, .ifCond .eq 29), (159, 1, 160, .aload_n 0), (160, 3, 163, .getfield 32), (163, 1, 164, .aload_n 0), (164, 3, 167, .getfield 29), (167, 3, 170, .if_icmp .ge 18), (170, 1, 171, .aload_n 0), (171, 1, 172, .aload_n 0), (172, 3, 175, .getfield 32), (175, 3, 178, .invokevirtual 58), (178, 1, 179, .aload_n 0), (179, 3, 182, .getfield 46), (182, 3, 185, .if_icmp .eq (-75)), (185, 1, 186, .return_)]
set_option maxRecDepth 100000 in
theorem tk_X6_readToken (k : Nat) {pc n pc2 : Nat} {i : Instr} (hk : tb_X6_readToken[k]? = some (pc, n, pc2, i)) : on_dq cX6_readToken pc n pc2 i := on_ta (by decide +kernel) k hk
theorem ms_X6_readToken : on_Mv yX6_readToken cX6_readToken 2 none 0 := ⟨kw_3_19, kw_3_17, kw_3_18, kw_1_6, by decide, by decide, by decide +kernel⟩
def pf_X6_readToken_39 (k0 : on_S → Option on_O) (σ : on_S) : Option on_O :=
  on_Gt σ 52 3 fun v7 =>
  on_Pt σ 52 3 (v7 + 1) fun σ8 =>
  k0 σ8
def pf_X6_readToken_145 (k107 : Int → on_S → Option on_O) (l1 : Int) (σ : on_S) : Option on_O :=
  on_Gt σ 52 3 fun v25 =>
  on_Pt σ 52 3 (v25 + 1) fun σ26 =>
  on_Eq l1 0 (
    some (0, σ26)) (
    on_Gt σ26 52 3 fun v27 =>
    on_Gt σ26 52 2 fun v28 =>
    on_Lt v27 v28 (
      on_Gt σ26 52 3 fun v29 =>
      on_Cl (pf_X6_kindAt v29 σ26) fun v30 σ31 =>
      on_Gt σ31 52 4 fun v32 =>
      on_Eq v30 v32 (
        k107 l1 σ31) (
        some (0, σ31))) (
      some (0, σ26)))
def pf_X6_readToken_107 : Nat → Int → on_S → Option on_O
  | 0, _, _ => none
  | nf + 1, l1, σ =>
    on_Gt σ 52 4 fun v19 =>
    on_Eq v19 2 (
      on_Gt σ 52 6 fun v20 =>
      on_Gt σ 52 3 fun v21 =>
      on_Rd σ 1 1400 v21 fun v22 =>
      on_Mn 1000 (((v20 * 10) + v22) - 48) fun v23 =>
      on_Pt σ 52 6 v23 fun σ24 =>
      pf_X6_readToken_145 (pf_X6_readToken_107 nf) l1 σ24) (
      pf_X6_readToken_145 (pf_X6_readToken_107 nf) l1 σ)
def pf_X6_readToken_106 (s0 : Int) (σ : on_S) : Option on_O :=
  pf_X6_readToken_107 on_N s0 σ
def pf_X6_readToken_101 (σ : on_S) : Option on_O :=
  pf_X6_readToken_106 1 σ
def pf_X6_readToken_52 (σ : on_S) : Option on_O :=
  on_Gt σ 52 3 fun v9 =>
  on_Pt σ 52 5 v9 fun σ10 =>
  on_Pt σ10 52 6 0 fun σ11 =>
  on_Gt σ11 52 3 fun v12 =>
  on_Cl (pf_X6_kindAt v12 σ11) fun v13 σ14 =>
  on_Pt σ14 52 4 v13 fun σ15 =>
  on_Gt σ15 52 4 fun v16 =>
  on_Eq v16 0 (
    some (0, σ15)) (
    on_Gt σ15 52 4 fun v17 =>
    on_Eq v17 1 (
      pf_X6_readToken_101 σ15) (
      on_Gt σ15 52 4 fun v18 =>
      on_Eq v18 2 (
        pf_X6_readToken_101 σ15) (
        pf_X6_readToken_106 0 σ15)))
def pf_X6_readToken_0 : Nat → on_S → Option on_O
  | 0, _ => none
  | nf + 1, σ =>
    on_Gt σ 52 3 fun v1 =>
    on_Gt σ 52 2 fun v2 =>
    on_Lt v1 v2 (
      on_Gt σ 52 3 fun v3 =>
      on_Rd σ 1 1400 v3 fun v4 =>
      on_Eq v4 32 (
        pf_X6_readToken_39 (pf_X6_readToken_0 nf) σ) (
        on_Gt σ 52 3 fun v5 =>
        on_Rd σ 1 1400 v5 fun v6 =>
        on_Eq v6 10 (
          pf_X6_readToken_39 (pf_X6_readToken_0 nf) σ) (
          pf_X6_readToken_52 σ))) (
      pf_X6_readToken_52 σ)
def pf_X6_readToken (σ : on_S) : Option on_O :=
  pf_X6_readToken_0 on_N σ
set_option maxRecDepth 100000 in
set_option maxHeartbeats 4000000 in
theorem gb_X6_readToken_39 {E : on_E} {z n : Nat} (X : on_X) (k0 : on_S → Option on_O) (hN : 100 ≤ n) (hk0 : ∀ (σ : on_S), on_G X E cX6_readToken RX6 none 1 22 2 z n σ (k0 σ) 0 [some (.ref (z + 52)), none] []) (σ : on_S) : on_G X E cX6_readToken RX6 none 1 22 2 z n σ (pf_X6_readToken_39 k0  σ) 39 [some (.ref (z + 52)), none] [] := by
  rw [pf_X6_readToken_39]
  refine on_al0 (tk_X6_readToken 19 rfl) ?_
  refine on_dup rfl (tk_X6_readToken 20 rfl) ?_
  refine fg_6_3 hN kw_2_2 (tk_X6_readToken 21 rfl) fun v7 => ?_
  refine on_iconst (tk_X6_readToken 22 rfl) ?_
  refine on_iadd (tk_X6_readToken 23 rfl) ?_
  refine fp_6_3 hN kw_2_2 (tk_X6_readToken 24 rfl) fun σ8 => ?_
  refine on_goto (tk_X6_readToken 25 rfl) (tgt := 0) (by decide) ?_
  exact hk0 _
set_option maxRecDepth 100000 in
set_option maxHeartbeats 4000000 in
theorem gb_X6_readToken_145 {E : on_E} {z n : Nat} (X : on_X) (k107 : Int → on_S → Option on_O) (hN : 100 ≤ n) (hk107 : ∀ (l1 : Int) (σ : on_S), on_G X E cX6_readToken RX6 none 1 22 2 z n σ (k107 l1 σ) 107 [some (.ref (z + 52)), some (.int (on_i l1))] []) (l1 : Int) (σ : on_S) : on_G X E cX6_readToken RX6 none 1 22 2 z n σ (pf_X6_readToken_145 k107 l1 σ) 145 [some (.ref (z + 52)), some (.int (on_i l1))] [] := by
  rw [pf_X6_readToken_145]
  refine on_al0 (tk_X6_readToken 75 rfl) ?_
  refine on_dup rfl (tk_X6_readToken 76 rfl) ?_
  refine fg_6_3 hN kw_2_2 (tk_X6_readToken 77 rfl) fun v25 => ?_
  refine on_iconst (tk_X6_readToken 78 rfl) ?_
  refine on_iadd (tk_X6_readToken 79 rfl) ?_
  refine fp_6_3 hN kw_2_2 (tk_X6_readToken 80 rfl) fun σ26 => ?_
  refine on_il1 (tk_X6_readToken 81 rfl) ?_
  refine on_if_eq (tk_X6_readToken 82 rfl) (tgt := 185) (by decide) ?_ ?_
  · refine on_al0 (tk_X6_readToken 83 rfl) ?_
    refine fg_6_3 hN kw_2_2 (tk_X6_readToken 84 rfl) fun v27 => ?_
    refine on_al0 (tk_X6_readToken 85 rfl) ?_
    refine fg_6_2 hN kw_2_1 (tk_X6_readToken 86 rfl) fun v28 => ?_
    refine on_icmp_ge (tk_X6_readToken 87 rfl) (tgt := 185) (by decide) ?_ ?_
    · refine on_al0 (tk_X6_readToken 88 rfl) ?_
      refine on_al0 (tk_X6_readToken 89 rfl) ?_
      refine fg_6_3 hN kw_2_2 (tk_X6_readToken 90 rfl) fun v29 => ?_
      refine on_cV1i 6 ms_X6_kindAt kw_3_20 rfl rfl (ltc_52 hN) sh_52 (ct_X6_kindAt hN) rfl (tk_X6_readToken 91 rfl) fun v30 σ31 => ?_
      refine on_al0 (tk_X6_readToken 92 rfl) ?_
      refine fg_6_4 hN kw_2_3 (tk_X6_readToken 93 rfl) fun v32 => ?_
      refine on_icmp_eq (tk_X6_readToken 94 rfl) (tgt := 107) (by decide) ?_ ?_
      · exact on_vret (tk_X6_readToken 95 rfl)
      · exact hk107 _ _
    · exact on_vret (tk_X6_readToken 95 rfl)
  · exact on_vret (tk_X6_readToken 95 rfl)
set_option maxRecDepth 100000 in
set_option maxHeartbeats 4000000 in
theorem gl_X6_readToken_107 {E : on_E} {z n : Nat} (X : on_X) (hN : 100 ≤ n) : ∀ (nf : Nat) (l1 : Int) (σ : on_S), on_G X E cX6_readToken RX6 none 1 22 2 z n σ (pf_X6_readToken_107 nf l1 σ) 107 [some (.ref (z + 52)), some (.int (on_i l1))] [] := by
  intro nf
  induction nf with
  | zero => intro l1 σ; exact on_none
  | succ nf ih =>
    intro l1 σ
    rw [pf_X6_readToken_107]
    refine on_al0 (tk_X6_readToken 55 rfl) ?_
    refine fg_6_4 hN kw_2_3 (tk_X6_readToken 56 rfl) fun v19 => ?_
    refine on_iconst (tk_X6_readToken 57 rfl) ?_
    refine on_icmp_ne (tk_X6_readToken 58 rfl) (tgt := 145) (by decide) ?_ ?_
    · refine on_al0 (tk_X6_readToken 59 rfl) ?_
      refine on_sipush (tk_X6_readToken 60 rfl) sp_1000 ?_
      refine on_al0 (tk_X6_readToken 61 rfl) ?_
      refine fg_6_6 hN kw_2_5 (tk_X6_readToken 62 rfl) fun v20 => ?_
      refine on_bipush (tk_X6_readToken 63 rfl) bp_10 ?_
      refine on_imul (tk_X6_readToken 64 rfl) ?_
      refine on_al0 (tk_X6_readToken 65 rfl) ?_
      refine fg_6_0 hN kw_1_239 (tk_X6_readToken 66 rfl) ?_
      refine on_al0 (tk_X6_readToken 67 rfl) ?_
      refine fg_6_3 hN kw_2_2 (tk_X6_readToken 68 rfl) fun v21 => ?_
      refine on_bald (ltc_1 hN) sh_1 (tk_X6_readToken 69 rfl) fun v22 => ?_
      refine on_iadd (tk_X6_readToken 70 rfl) ?_
      refine on_bipush (tk_X6_readToken 71 rfl) bp_48 ?_
      refine on_isub (tk_X6_readToken 72 rfl) ?_
      refine on_min kw_2_236 kwM_min_s kwM_i kwM_min_c rfl (tk_X6_readToken 73 rfl) fun v23 => ?_
      refine fp_6_6 hN kw_2_5 (tk_X6_readToken 74 rfl) fun σ24 => ?_
      exact gb_X6_readToken_145 X _ hN ih _ _
    · exact gb_X6_readToken_145 X _ hN ih _ _
set_option maxRecDepth 100000 in
set_option maxHeartbeats 4000000 in
theorem gb_X6_readToken_106 {E : on_E} {z n : Nat} (X : on_X) (hN : 100 ≤ n) (s0 : Int) (σ : on_S) : on_G X E cX6_readToken RX6 none 1 22 2 z n σ (pf_X6_readToken_106 s0 σ) 106 [some (.ref (z + 52)), none] [.int (on_i s0)] := by
  rw [pf_X6_readToken_106]
  refine on_is1 rfl (tk_X6_readToken 54 rfl) ?_
  exact gl_X6_readToken_107 X  hN on_N _ _
set_option maxRecDepth 100000 in
set_option maxHeartbeats 4000000 in
theorem gb_X6_readToken_101 {E : on_E} {z n : Nat} (X : on_X) (hN : 100 ≤ n) (σ : on_S) : on_G X E cX6_readToken RX6 none 1 22 2 z n σ (pf_X6_readToken_101  σ) 101 [some (.ref (z + 52)), none] [] := by
  rw [pf_X6_readToken_101]
  refine on_iconst (tk_X6_readToken 51 rfl) ?_
  refine on_goto (tk_X6_readToken 52 rfl) (tgt := 106) (by decide) ?_
  exact gb_X6_readToken_106 X  hN _ _
set_option maxRecDepth 100000 in
set_option maxHeartbeats 4000000 in
theorem gb_X6_readToken_52 {E : on_E} {z n : Nat} (X : on_X) (hN : 100 ≤ n) (σ : on_S) : on_G X E cX6_readToken RX6 none 1 22 2 z n σ (pf_X6_readToken_52  σ) 52 [some (.ref (z + 52)), none] [] := by
  rw [pf_X6_readToken_52]
  refine on_al0 (tk_X6_readToken 26 rfl) ?_
  refine on_al0 (tk_X6_readToken 27 rfl) ?_
  refine fg_6_3 hN kw_2_2 (tk_X6_readToken 28 rfl) fun v9 => ?_
  refine fp_6_5 hN kw_2_4 (tk_X6_readToken 29 rfl) fun σ10 => ?_
  refine on_al0 (tk_X6_readToken 30 rfl) ?_
  refine on_iconst (tk_X6_readToken 31 rfl) ?_
  refine fp_6_6 hN kw_2_5 (tk_X6_readToken 32 rfl) fun σ11 => ?_
  refine on_al0 (tk_X6_readToken 33 rfl) ?_
  refine on_al0 (tk_X6_readToken 34 rfl) ?_
  refine on_al0 (tk_X6_readToken 35 rfl) ?_
  refine fg_6_3 hN kw_2_2 (tk_X6_readToken 36 rfl) fun v12 => ?_
  refine on_cV1i 6 ms_X6_kindAt kw_3_20 rfl rfl (ltc_52 hN) sh_52 (ct_X6_kindAt hN) rfl (tk_X6_readToken 37 rfl) fun v13 σ14 => ?_
  refine fp_6_4 hN kw_2_3 (tk_X6_readToken 38 rfl) fun σ15 => ?_
  refine on_al0 (tk_X6_readToken 39 rfl) ?_
  refine fg_6_4 hN kw_2_3 (tk_X6_readToken 40 rfl) fun v16 => ?_
  refine on_if_ne (tk_X6_readToken 41 rfl) (tgt := 85) (by decide) ?_ ?_
  · exact on_vret (tk_X6_readToken 42 rfl)
  · refine on_al0 (tk_X6_readToken 43 rfl) ?_
    refine fg_6_4 hN kw_2_3 (tk_X6_readToken 44 rfl) fun v17 => ?_
    refine on_iconst (tk_X6_readToken 45 rfl) ?_
    refine on_icmp_eq (tk_X6_readToken 46 rfl) (tgt := 101) (by decide) ?_ ?_
    · refine on_al0 (tk_X6_readToken 47 rfl) ?_
      refine fg_6_4 hN kw_2_3 (tk_X6_readToken 48 rfl) fun v18 => ?_
      refine on_iconst (tk_X6_readToken 49 rfl) ?_
      refine on_icmp_ne (tk_X6_readToken 50 rfl) (tgt := 105) (by decide) ?_ ?_
      · exact gb_X6_readToken_101 X  hN _
      · refine on_iconst (tk_X6_readToken 53 rfl) ?_
        exact gb_X6_readToken_106 X  hN _ _
    · exact gb_X6_readToken_101 X  hN _
set_option maxRecDepth 100000 in
set_option maxHeartbeats 4000000 in
theorem gl_X6_readToken_0 {E : on_E} {z n : Nat} (X : on_X) (hN : 100 ≤ n) : ∀ (nf : Nat) (σ : on_S), on_G X E cX6_readToken RX6 none 1 22 2 z n σ (pf_X6_readToken_0 nf  σ) 0 [some (.ref (z + 52)), none] [] := by
  intro nf
  induction nf with
  | zero => intro σ; exact on_none
  | succ nf ih =>
    intro σ
    rw [pf_X6_readToken_0]
    refine on_al0 (tk_X6_readToken 0 rfl) ?_
    refine fg_6_3 hN kw_2_2 (tk_X6_readToken 1 rfl) fun v1 => ?_
    refine on_al0 (tk_X6_readToken 2 rfl) ?_
    refine fg_6_2 hN kw_2_1 (tk_X6_readToken 3 rfl) fun v2 => ?_
    refine on_icmp_ge (tk_X6_readToken 4 rfl) (tgt := 52) (by decide) ?_ ?_
    · refine on_al0 (tk_X6_readToken 5 rfl) ?_
      refine fg_6_0 hN kw_1_239 (tk_X6_readToken 6 rfl) ?_
      refine on_al0 (tk_X6_readToken 7 rfl) ?_
      refine fg_6_3 hN kw_2_2 (tk_X6_readToken 8 rfl) fun v3 => ?_
      refine on_bald (ltc_1 hN) sh_1 (tk_X6_readToken 9 rfl) fun v4 => ?_
      refine on_bipush (tk_X6_readToken 10 rfl) bp_32 ?_
      refine on_icmp_eq (tk_X6_readToken 11 rfl) (tgt := 39) (by decide) ?_ ?_
      · refine on_al0 (tk_X6_readToken 12 rfl) ?_
        refine fg_6_0 hN kw_1_239 (tk_X6_readToken 13 rfl) ?_
        refine on_al0 (tk_X6_readToken 14 rfl) ?_
        refine fg_6_3 hN kw_2_2 (tk_X6_readToken 15 rfl) fun v5 => ?_
        refine on_bald (ltc_1 hN) sh_1 (tk_X6_readToken 16 rfl) fun v6 => ?_
        refine on_bipush (tk_X6_readToken 17 rfl) bp_10 ?_
        refine on_icmp_ne (tk_X6_readToken 18 rfl) (tgt := 52) (by decide) ?_ ?_
        · exact gb_X6_readToken_39 X _ hN ih _
        · exact gb_X6_readToken_52 X  hN _
      · exact gb_X6_readToken_39 X _ hN ih _
    · exact gb_X6_readToken_52 X  hN _
set_option maxRecDepth 100000 in
set_option maxHeartbeats 4000000 in
theorem ct_X6_readToken {E : on_E} {z n : Nat} (hN : 100 ≤ n) {σ : on_S} : on_Sp E yX6_readToken cX6_readToken 2 none 1 22 z n [.ref (z + 52)] σ (pf_X6_readToken  σ) := by
  refine on_met [some (.ref (z + 52)), none] (by decide) rfl rfl (fun X => ?_)
  rw [pf_X6_readToken]
  exact gl_X6_readToken_0 X  hN on_N _
def tb_X6_isWord : List (Nat × Nat × Nat × Instr) := [(0, 1, 1, .aload_n 0), (1, 3, 4, .getfield 46), (4, 1, 5, .iconst 1), (5, 3, 8, .if_icmp .ne 19), (8, 1, 9, .aload_n 0), (9, 3, 12, .getfield 32), (12, 1, 13, .aload_n 0), (13, 3, 16, .getfield 52), (16, 1, 17, .isub), (17, 1, 18, .aload_n 1), (18, 3, 21, .invokevirtual 62), (21, 3, 24, .if_icmp .eq 5), (24, 1, 25, .iconst 0), (25, 1, 26, .ireturn), (26, 1, 27, .iconst 0), (27, 1, 28, .istore_n 2), (28, 1, 29, .iload_n 2), (29, 1, 30, .aload_n 1), (30, 3, 33, .invokevirtual 62), (33, 3, 36, .if_icmp .ge 30), (36, 1, 37, .aload_n 0), (37, 3, 40, .getfield 15), (40, 1, 41, .aload_n 0), (41, 3, 44, .getfield 52), (44, 1, 45, .iload_n 2), (45, 1, 46, .iadd), (46, 1, 47, .baload), (47, 1, 48, .aload_n 1), (48, 1, 49, .iload_n 2), (49, 3, 52, .invokevirtual 67), (52, 3, 55, .if_icmp .eq 5), (55, 1, 56, .iconst 0), (56, 1, 57, .ireturn), (57, 3, 60, .iinc 2 1), (60, 3, 63, .goto (-32)), (63, 1, 64, .iconst 1), (64, 1, 65, .ireturn)]
set_option maxRecDepth 100000 in
theorem tk_X6_isWord (k : Nat) {pc n pc2 : Nat} {i : Instr} (hk : tb_X6_isWord[k]? = some (pc, n, pc2, i)) : on_dq cX6_isWord pc n pc2 i := on_ta (by decide +kernel) k hk
theorem ms_X6_isWord : on_Mv yX6_isWord cX6_isWord 3 (some .boolean) 1 := ⟨kw_3_40, kw_3_38, kw_3_39, kw_1_6, by decide, by decide, by decide +kernel⟩
def pf_X6_isWord_28 (p0 : Nat) : Nat → Int → on_S → Option on_O
  | 0, _, _ => none
  | nf + 1, l2, σ =>
    on_Sl p0 fun v5 =>
    on_Lt l2 v5 (
      on_Gt σ 52 5 fun v6 =>
      on_Rd σ 1 1400 (v6 + l2) fun v7 =>
      on_Sc p0 l2 fun v8 =>
      on_Eq v7 v8 (
        pf_X6_isWord_28 p0 nf (l2 + 1) σ) (
        some (0, σ))) (
      some (1, σ))
def pf_X6_isWord (p0 : Nat) (σ : on_S) : Option on_O :=
  on_Gt σ 52 4 fun v1 =>
  on_Eq v1 1 (
    on_Gt σ 52 3 fun v2 =>
    on_Gt σ 52 5 fun v3 =>
    on_Sl p0 fun v4 =>
    on_Eq (v2 - v3) v4 (
      pf_X6_isWord_28 p0 on_N 0 σ) (
      some (0, σ))) (
    some (0, σ))
set_option maxRecDepth 100000 in
set_option maxHeartbeats 4000000 in
theorem gl_X6_isWord_28 {E : on_E} {z n : Nat} (X : on_X) (p0 : Nat) (hN : 100 ≤ n) (hj0 : p0 < 17) : ∀ (nf : Nat) (l2 : Int) (σ : on_S), on_G X E cX6_isWord RX6 (some .boolean) 4 85 3 z n σ (pf_X6_isWord_28 p0 nf l2 σ) 28 [some (.ref (z + 52)), some (.ref (E.2.2.2.1 p0)), some (.int (on_i l2))] [] := by
  intro nf
  induction nf with
  | zero => intro l2 σ; exact on_none
  | succ nf ih =>
    intro l2 σ
    rw [pf_X6_isWord_28]
    refine on_il2 (tk_X6_isWord 16 rfl) ?_
    refine on_al1 (tk_X6_isWord 17 rfl) ?_
    refine on_slen hj0 kw_3_41 rfl (tk_X6_isWord 18 rfl) fun v5 => ?_
    refine on_icmp_ge (tk_X6_isWord 19 rfl) (tgt := 63) (by decide) ?_ ?_
    · refine on_al0 (tk_X6_isWord 20 rfl) ?_
      refine fg_6_0 hN kw_1_239 (tk_X6_isWord 21 rfl) ?_
      refine on_al0 (tk_X6_isWord 22 rfl) ?_
      refine fg_6_5 hN kw_2_4 (tk_X6_isWord 23 rfl) fun v6 => ?_
      refine on_il2 (tk_X6_isWord 24 rfl) ?_
      refine on_iadd (tk_X6_isWord 25 rfl) ?_
      refine on_bald (ltc_1 hN) sh_1 (tk_X6_isWord 26 rfl) fun v7 => ?_
      refine on_al1 (tk_X6_isWord 27 rfl) ?_
      refine on_il2 (tk_X6_isWord 28 rfl) ?_
      refine on_schr hj0 kw_3_51 rfl (tk_X6_isWord 29 rfl) fun v8 => ?_
      refine on_icmp_eq (tk_X6_isWord 30 rfl) (tgt := 57) (by decide) ?_ ?_
      · refine on_iconst (tk_X6_isWord 31 rfl) ?_
        exact on_zret0 (tk_X6_isWord 32 rfl)
      · refine on_inc2 rfl (tk_X6_isWord 33 rfl) ?_
        refine on_goto (tk_X6_isWord 34 rfl) (tgt := 28) (by decide) ?_
        exact ih _ _
    · refine on_iconst (tk_X6_isWord 35 rfl) ?_
      exact on_zret1 (tk_X6_isWord 36 rfl)
set_option maxRecDepth 100000 in
set_option maxHeartbeats 4000000 in
theorem ct_X6_isWord {E : on_E} {z n : Nat} {p0 : Nat} (hN : 100 ≤ n) (hj0 : p0 < 17) {σ : on_S} : on_Sp E yX6_isWord cX6_isWord 3 (some .boolean) 4 85 z n [.ref (z + 52), .ref (E.2.2.2.1 p0)] σ (pf_X6_isWord p0 σ) := by
  refine on_met [some (.ref (z + 52)), some (.ref (E.2.2.2.1 p0)), none] (by decide) rfl rfl (fun X => ?_)
  rw [pf_X6_isWord]
  refine on_al0 (tk_X6_isWord 0 rfl) ?_
  refine fg_6_4 hN kw_2_3 (tk_X6_isWord 1 rfl) fun v1 => ?_
  refine on_iconst (tk_X6_isWord 2 rfl) ?_
  refine on_icmp_ne (tk_X6_isWord 3 rfl) (tgt := 24) (by decide) ?_ ?_
  · refine on_al0 (tk_X6_isWord 4 rfl) ?_
    refine fg_6_3 hN kw_2_2 (tk_X6_isWord 5 rfl) fun v2 => ?_
    refine on_al0 (tk_X6_isWord 6 rfl) ?_
    refine fg_6_5 hN kw_2_4 (tk_X6_isWord 7 rfl) fun v3 => ?_
    refine on_isub (tk_X6_isWord 8 rfl) ?_
    refine on_al1 (tk_X6_isWord 9 rfl) ?_
    refine on_slen hj0 kw_3_41 rfl (tk_X6_isWord 10 rfl) fun v4 => ?_
    refine on_icmp_eq (tk_X6_isWord 11 rfl) (tgt := 26) (by decide) ?_ ?_
    · refine on_iconst (tk_X6_isWord 12 rfl) ?_
      exact on_zret0 (tk_X6_isWord 13 rfl)
    · refine on_iconst (tk_X6_isWord 14 rfl) ?_
      refine on_is2 rfl (tk_X6_isWord 15 rfl) ?_
      exact gl_X6_isWord_28 X _ hN hj0 on_N _ _
  · refine on_iconst (tk_X6_isWord 12 rfl) ?_
    exact on_zret0 (tk_X6_isWord 13 rfl)
def tb_X6_refuse : List (Nat × Nat × Nat × Instr) := [(0, 1, 1, .aload_n 0), (1, 3, 4, .getfield 35), (4, 3, 7, .ifCond .ne 13), (7, 1, 8, .aload_n 0), (8, 1, 9, .iload_n 1), (9, 3, 12, .putfield 35), (12, 1, 13, .aload_n 0), (13, 1, 14, .iload_n 2), (14, 3, 17, .putfield 9), (17, 1, 18, .return_)]
set_option maxRecDepth 100000 in
theorem tk_X6_refuse (k : Nat) {pc n pc2 : Nat} {i : Instr} (hk : tb_X6_refuse[k]? = some (pc, n, pc2, i)) : on_dq cX6_refuse pc n pc2 i := on_ta (by decide +kernel) k hk
theorem ms_X6_refuse : on_Mv yX6_refuse cX6_refuse 3 none 2 := ⟨kw_3_92, kw_3_90, kw_3_91, kw_1_6, by decide, by decide, by decide +kernel⟩
def pf_X6_refuse (p0 : Int) (p1 : Int) (σ : on_S) : Option on_O :=
  on_Gt σ 52 8 fun v1 =>
  on_Eq v1 0 (
    on_Pt σ 52 8 p0 fun σ2 =>
    on_Pt σ2 52 9 p1 fun σ3 =>
    some (0, σ3)) (
    some (0, σ))
set_option maxRecDepth 100000 in
set_option maxHeartbeats 4000000 in
theorem ct_X6_refuse {E : on_E} {z n : Nat} {p0 : Int} {p1 : Int} (hN : 100 ≤ n) {σ : on_S} : on_Sp E yX6_refuse cX6_refuse 3 none 0 0 z n [.ref (z + 52), .int (on_i p0), .int (on_i p1)] σ (pf_X6_refuse p0 p1 σ) := by
  refine on_met [some (.ref (z + 52)), some (.int (on_i p0)), some (.int (on_i p1))] (by decide) rfl rfl (fun X => ?_)
  rw [pf_X6_refuse]
  refine on_al0 (tk_X6_refuse 0 rfl) ?_
  refine fg_6_8 hN kw_2_7 (tk_X6_refuse 1 rfl) fun v1 => ?_
  refine on_if_ne (tk_X6_refuse 2 rfl) (tgt := 17) (by decide) ?_ ?_
  · refine on_al0 (tk_X6_refuse 3 rfl) ?_
    refine on_il1 (tk_X6_refuse 4 rfl) ?_
    refine fp_6_8 hN kw_2_7 (tk_X6_refuse 5 rfl) fun σ2 => ?_
    refine on_al0 (tk_X6_refuse 6 rfl) ?_
    refine on_il2 (tk_X6_refuse 7 rfl) ?_
    refine fp_6_9 hN kw_2_9 (tk_X6_refuse 8 rfl) fun σ3 => ?_
    exact on_vret (tk_X6_refuse 9 rfl)
  · exact on_vret (tk_X6_refuse 9 rfl)
def tb_X6_needWord : List (Nat × Nat × Nat × Instr) := [(0, 1, 1, .aload_n 0), (1, 3, 4, .getfield 35), (4, 3, 7, .ifCond .ne 18), (7, 1, 8, .aload_n 0), (8, 1, 9, .aload_n 1), (9, 3, 12, .invokevirtual 71), (12, 3, 15, .ifCond .eq 10), (15, 1, 16, .aload_n 0), (16, 3, 19, .invokevirtual 43), (19, 3, 22, .goto 12), (22, 1, 23, .aload_n 0), (23, 1, 24, .iconst 1), (24, 1, 25, .aload_n 0), (25, 3, 28, .getfield 52), (28, 3, 31, .invokevirtual 75), (31, 1, 32, .return_)]
set_option maxRecDepth 100000 in
theorem tk_X6_needWord (k : Nat) {pc n pc2 : Nat} {i : Instr} (hk : tb_X6_needWord[k]? = some (pc, n, pc2, i)) : on_dq cX6_needWord pc n pc2 i := on_ta (by decide +kernel) k hk
theorem ms_X6_needWord : on_Mv yX6_needWord cX6_needWord 2 none 1 := ⟨kw_3_36, kw_3_34, kw_3_35, kw_1_6, by decide, by decide, by decide +kernel⟩
def pf_X6_needWord_22 (σ : on_S) : Option on_O :=
  on_Gt σ 52 5 fun v6 =>
  on_Cl (pf_X6_refuse 1 v6 σ) fun _ σ8 =>
  some (0, σ8)
def pf_X6_needWord (p0 : Nat) (σ : on_S) : Option on_O :=
  on_Gt σ 52 8 fun v1 =>
  on_Eq v1 0 (
    on_Cl (pf_X6_isWord p0 σ) fun v2 σ3 =>
    on_Eq v2 0 (
      pf_X6_needWord_22 σ3) (
      on_Cl (pf_X6_readToken σ3) fun _ σ5 =>
      some (0, σ5))) (
    pf_X6_needWord_22 σ)
set_option maxRecDepth 100000 in
set_option maxHeartbeats 4000000 in
theorem gb_X6_needWord_22 {E : on_E} {z n : Nat} (X : on_X) (hN : 100 ≤ n) (σ : on_S) : on_G X E cX6_needWord RX6 none 5 107 2 z n σ (pf_X6_needWord_22  σ) 22 [some (.ref (z + 52)), none] [] := by
  rw [pf_X6_needWord_22]
  refine on_al0 (tk_X6_needWord 10 rfl) ?_
  refine on_iconst (tk_X6_needWord 11 rfl) ?_
  refine on_al0 (tk_X6_needWord 12 rfl) ?_
  refine fg_6_5 hN kw_2_4 (tk_X6_needWord 13 rfl) fun v6 => ?_
  refine on_cV2v 6 ms_X6_refuse kw_3_89 rfl rfl (ltc_52 hN) sh_52 (ct_X6_refuse hN) rfl (tk_X6_needWord 14 rfl) fun v7 σ8 => ?_
  exact on_vret (tk_X6_needWord 15 rfl)
set_option maxRecDepth 100000 in
set_option maxHeartbeats 4000000 in
theorem ct_X6_needWord {E : on_E} {z n : Nat} {p0 : Nat} (hN : 100 ≤ n) (hj0 : p0 < 17) {σ : on_S} : on_Sp E yX6_needWord cX6_needWord 2 none 5 107 z n [.ref (z + 52), .ref (E.2.2.2.1 p0)] σ (pf_X6_needWord p0 σ) := by
  refine on_met [some (.ref (z + 52)), some (.ref (E.2.2.2.1 p0))] (by decide) rfl rfl (fun X => ?_)
  rw [pf_X6_needWord]
  refine on_al0 (tk_X6_needWord 0 rfl) ?_
  refine fg_6_8 hN kw_2_7 (tk_X6_needWord 1 rfl) fun v1 => ?_
  refine on_if_ne (tk_X6_needWord 2 rfl) (tgt := 22) (by decide) ?_ ?_
  · refine on_al0 (tk_X6_needWord 3 rfl) ?_
    refine on_al1 (tk_X6_needWord 4 rfl) ?_
    refine on_cV1z 6 ms_X6_isWord kw_3_37 rfl rfl (ltc_52 hN) sh_52 (ct_X6_isWord hN hj0) rfl (tk_X6_needWord 5 rfl) fun v2 σ3 => ?_
    refine on_if_eq (tk_X6_needWord 6 rfl) (tgt := 22) (by decide) ?_ ?_
    · refine on_al0 (tk_X6_needWord 7 rfl) ?_
      refine on_cV0v 6 ms_X6_readToken kw_3_16 rfl rfl (ltc_52 hN) sh_52 (ct_X6_readToken hN) rfl (tk_X6_needWord 8 rfl) fun v4 σ5 => ?_
      refine on_goto (tk_X6_needWord 9 rfl) (tgt := 31) (by decide) ?_
      exact on_vret (tk_X6_needWord 15 rfl)
    · refine on_dr1 ?_
      exact gb_X6_needWord_22 X  hN _
  · refine on_dr1 ?_
    exact gb_X6_needWord_22 X  hN _
def tb_X6_needNumber : List (Nat × Nat × Nat × Instr) := [(0, 1, 1, .aload_n 0), (1, 3, 4, .getfield 55), (4, 1, 5, .istore_n 3), (5, 1, 6, .aload_n 0), (6, 1, 7, .aload_n 0), (7, 3, 10, .getfield 52), (10, 3, 13, .putfield 79), (13, 1, 14, .aload_n 0), (14, 3, 17, .getfield 46), (17, 1, 18, .iconst 2), (18, 3, 21, .if_icmp .ne 22), (21, 1, 22, .iload_n 3), (22, 1, 23, .iload_n 1), (23, 3, 26, .if_icmp .lt 8), (26, 1, 27, .iload_n 3), (27, 1, 28, .iload_n 2), (28, 3, 31, .if_icmp .le 12), (31, 1, 32, .aload_n 0), (32, 1, 33, .iconst 2), (33, 1, 34, .aload_n 0), (34, 3, 37, .getfield 52), (37, 3, 40, .invokevirtual 75), (40, 1, 41, .aload_n 0), (41, 3, 44, .getfield 35), (44, 3, 47, .ifCond .ne 17), (47, 1, 48, .aload_n 0), (48, 3, 51, .getfield 46), (51, 1, 52, .iconst 2), (52, 3, 55, .if_icmp .ne 9), (55, 1, 56, .aload_n 0), (56, 3, 59, .invokevirtual 43), (59, 1, 60, .iload_n 3), (60, 1, 61, .ireturn), (61, 1, 62, .aload_n 0), (62, 1, 63, .iconst 1), (63, 1, 64, .aload_n 0), (64, 3, 67, .getfield 52), (67, 3, 70, .invokevirtual 75), (70, 1, 71, .iload_n 1), (71, 1, 72, .ireturn)]
set_option maxRecDepth 100000 in
theorem tk_X6_needNumber (k : Nat) {pc n pc2 : Nat} {i : Instr} (hk : tb_X6_needNumber[k]? = some (pc, n, pc2, i)) : on_dq cX6_needNumber pc n pc2 i := on_ta (by decide +kernel) k hk
theorem ms_X6_needNumber : on_Mv yX6_needNumber cX6_needNumber 4 (some .int) 2 := ⟨kw_3_97, kw_3_95, kw_3_96, kw_1_6, by decide, by decide, by decide +kernel⟩
def pf_X6_needNumber_61 (l1 : Int) (σ : on_S) : Option on_O :=
  on_Gt σ 52 5 fun v12 =>
  on_Cl (pf_X6_refuse 1 v12 σ) fun _ σ14 =>
  some (l1, σ14)
def pf_X6_needNumber_40 (l1 : Int) (l3 : Int) (σ : on_S) : Option on_O :=
  on_Gt σ 52 8 fun v8 =>
  on_Eq v8 0 (
    on_Gt σ 52 4 fun v9 =>
    on_Eq v9 2 (
      on_Cl (pf_X6_readToken σ) fun _ σ11 =>
      some (l3, σ11)) (
      pf_X6_needNumber_61 l1 σ)) (
    pf_X6_needNumber_61 l1 σ)
def pf_X6_needNumber_31 (l1 : Int) (l3 : Int) (σ : on_S) : Option on_O :=
  on_Gt σ 52 5 fun v5 =>
  on_Cl (pf_X6_refuse 2 v5 σ) fun _ σ7 =>
  pf_X6_needNumber_40 l1 l3 σ7
def pf_X6_needNumber (p0 : Int) (p1 : Int) (σ : on_S) : Option on_O :=
  on_Gt σ 52 6 fun v1 =>
  on_Gt σ 52 5 fun v2 =>
  on_Pt σ 52 7 v2 fun σ3 =>
  on_Gt σ3 52 4 fun v4 =>
  on_Eq v4 2 (
    on_Lt v1 p0 (
      pf_X6_needNumber_31 p0 v1 σ3) (
      on_Le v1 p1 (
        pf_X6_needNumber_40 p0 v1 σ3) (
        pf_X6_needNumber_31 p0 v1 σ3))) (
    pf_X6_needNumber_40 p0 v1 σ3)
set_option maxRecDepth 100000 in
set_option maxHeartbeats 4000000 in
theorem gb_X6_needNumber_61 {E : on_E} {z n : Nat} (X : on_X) (hN : 100 ≤ n) (l1 : Int) (σ : on_S) : on_G X E cX6_needNumber RX6 (some .int) 2 43 4 z n σ (pf_X6_needNumber_61 l1 σ) 61 [some (.ref (z + 52)), some (.int (on_i l1)), none, none] [] := by
  rw [pf_X6_needNumber_61]
  refine on_al0 (tk_X6_needNumber 33 rfl) ?_
  refine on_iconst (tk_X6_needNumber 34 rfl) ?_
  refine on_al0 (tk_X6_needNumber 35 rfl) ?_
  refine fg_6_5 hN kw_2_4 (tk_X6_needNumber 36 rfl) fun v12 => ?_
  refine on_cV2v 6 ms_X6_refuse kw_3_89 rfl rfl (ltc_52 hN) sh_52 (ct_X6_refuse hN) rfl (tk_X6_needNumber 37 rfl) fun v13 σ14 => ?_
  refine on_il1 (tk_X6_needNumber 38 rfl) ?_
  exact on_iret (tk_X6_needNumber 39 rfl)
set_option maxRecDepth 100000 in
set_option maxHeartbeats 4000000 in
theorem gb_X6_needNumber_40 {E : on_E} {z n : Nat} (X : on_X) (hN : 100 ≤ n) (l1 : Int) (l3 : Int) (σ : on_S) : on_G X E cX6_needNumber RX6 (some .int) 2 43 4 z n σ (pf_X6_needNumber_40 l1 l3 σ) 40 [some (.ref (z + 52)), some (.int (on_i l1)), none, some (.int (on_i l3))] [] := by
  rw [pf_X6_needNumber_40]
  refine on_al0 (tk_X6_needNumber 22 rfl) ?_
  refine fg_6_8 hN kw_2_7 (tk_X6_needNumber 23 rfl) fun v8 => ?_
  refine on_if_ne (tk_X6_needNumber 24 rfl) (tgt := 61) (by decide) ?_ ?_
  · refine on_al0 (tk_X6_needNumber 25 rfl) ?_
    refine fg_6_4 hN kw_2_3 (tk_X6_needNumber 26 rfl) fun v9 => ?_
    refine on_iconst (tk_X6_needNumber 27 rfl) ?_
    refine on_icmp_ne (tk_X6_needNumber 28 rfl) (tgt := 61) (by decide) ?_ ?_
    · refine on_al0 (tk_X6_needNumber 29 rfl) ?_
      refine on_cV0v 6 ms_X6_readToken kw_3_16 rfl rfl (ltc_52 hN) sh_52 (ct_X6_readToken hN) rfl (tk_X6_needNumber 30 rfl) fun v10 σ11 => ?_
      refine on_il3 (tk_X6_needNumber 31 rfl) ?_
      exact on_iret (tk_X6_needNumber 32 rfl)
    · refine on_dr3 ?_
      exact gb_X6_needNumber_61 X  hN _ _
  · refine on_dr3 ?_
    exact gb_X6_needNumber_61 X  hN _ _
set_option maxRecDepth 100000 in
set_option maxHeartbeats 4000000 in
theorem gb_X6_needNumber_31 {E : on_E} {z n : Nat} (X : on_X) (hN : 100 ≤ n) (l1 : Int) (l3 : Int) (σ : on_S) : on_G X E cX6_needNumber RX6 (some .int) 2 43 4 z n σ (pf_X6_needNumber_31 l1 l3 σ) 31 [some (.ref (z + 52)), some (.int (on_i l1)), none, some (.int (on_i l3))] [] := by
  rw [pf_X6_needNumber_31]
  refine on_al0 (tk_X6_needNumber 17 rfl) ?_
  refine on_iconst (tk_X6_needNumber 18 rfl) ?_
  refine on_al0 (tk_X6_needNumber 19 rfl) ?_
  refine fg_6_5 hN kw_2_4 (tk_X6_needNumber 20 rfl) fun v5 => ?_
  refine on_cV2v 6 ms_X6_refuse kw_3_89 rfl rfl (ltc_52 hN) sh_52 (ct_X6_refuse hN) rfl (tk_X6_needNumber 21 rfl) fun v6 σ7 => ?_
  exact gb_X6_needNumber_40 X  hN _ _ _
set_option maxRecDepth 100000 in
set_option maxHeartbeats 4000000 in
theorem ct_X6_needNumber {E : on_E} {z n : Nat} {p0 : Int} {p1 : Int} (hN : 100 ≤ n) {σ : on_S} : on_Sp E yX6_needNumber cX6_needNumber 4 (some .int) 2 43 z n [.ref (z + 52), .int (on_i p0), .int (on_i p1)] σ (pf_X6_needNumber p0 p1 σ) := by
  refine on_met [some (.ref (z + 52)), some (.int (on_i p0)), some (.int (on_i p1)), none] (by decide) rfl rfl (fun X => ?_)
  rw [pf_X6_needNumber]
  refine on_al0 (tk_X6_needNumber 0 rfl) ?_
  refine fg_6_6 hN kw_2_5 (tk_X6_needNumber 1 rfl) fun v1 => ?_
  refine on_is3 rfl (tk_X6_needNumber 2 rfl) ?_
  refine on_al0 (tk_X6_needNumber 3 rfl) ?_
  refine on_al0 (tk_X6_needNumber 4 rfl) ?_
  refine fg_6_5 hN kw_2_4 (tk_X6_needNumber 5 rfl) fun v2 => ?_
  refine fp_6_7 hN kw_2_6 (tk_X6_needNumber 6 rfl) fun σ3 => ?_
  refine on_al0 (tk_X6_needNumber 7 rfl) ?_
  refine fg_6_4 hN kw_2_3 (tk_X6_needNumber 8 rfl) fun v4 => ?_
  refine on_iconst (tk_X6_needNumber 9 rfl) ?_
  refine on_icmp_ne (tk_X6_needNumber 10 rfl) (tgt := 40) (by decide) ?_ ?_
  · refine on_il3 (tk_X6_needNumber 11 rfl) ?_
    refine on_il1 (tk_X6_needNumber 12 rfl) ?_
    refine on_icmp_lt (tk_X6_needNumber 13 rfl) (tgt := 31) (by decide) ?_ ?_
    · refine on_il3 (tk_X6_needNumber 14 rfl) ?_
      refine on_il2 (tk_X6_needNumber 15 rfl) ?_
      refine on_icmp_le (tk_X6_needNumber 16 rfl) (tgt := 40) (by decide) ?_ ?_
      · refine on_dr2 ?_
        exact gb_X6_needNumber_31 X  hN _ _ _
      · refine on_dr2 ?_
        exact gb_X6_needNumber_40 X  hN _ _ _
    · refine on_dr2 ?_
      exact gb_X6_needNumber_31 X  hN _ _ _
  · refine on_dr2 ?_
    exact gb_X6_needNumber_40 X  hN _ _ _
def tb_X6_readHead : List (Nat × Nat × Nat × Instr) := [(0, 1, 1, .aload_n 0), (1, 2, 3, .ldc 131), (3, 3, 6, .invokevirtual 133), (6, 1, 7, .aload_n 0), (7, 2, 9, .ldc 137), (9, 3, 12, .invokevirtual 133), (12, 1, 13, .aload_n 0), (13, 3, 16, .getfield 19), (16, 1, 17, .aload_n 0), (17, 1, 18, .iconst 2), (18, 1, 19, .iconst 4), (19, 3, 22, .invokevirtual 139), (22, 3, 25, .putfield 142), (25, 1, 26, .aload_n 0), (26, 2, 28, .ldc 144), (28, 3, 31, .invokevirtual 133), (31, 1, 32, .aload_n 0), (32, 3, 35, .getfield 19), (35, 1, 36, .aload_n 0), (36, 1, 37, .iconst 1), (37, 2, 39, .bipush 6), (39, 3, 42, .invokevirtual 139), (42, 3, 45, .putfield 146), (45, 1, 46, .return_)]
set_option maxRecDepth 100000 in
theorem tk_X6_readHead (k : Nat) {pc n pc2 : Nat} {i : Instr} (hk : tb_X6_readHead[k]? = some (pc, n, pc2, i)) : on_dq cX6_readHead pc n pc2 i := on_ta (by decide +kernel) k hk
theorem ms_X6_readHead : on_Mv yX6_readHead cX6_readHead 1 none 0 := ⟨kw_3_31, kw_3_29, kw_3_30, kw_1_6, by decide, by decide, by decide +kernel⟩
def pf_X6_readHead (σ : on_S) : Option on_O :=
  on_Cl (pf_X6_needWord 0 σ) fun _ σ2 =>
  on_Cl (pf_X6_needWord 1 σ2) fun _ σ4 =>
  on_Cl (pf_X6_needNumber 2 4 σ4) fun v5 σ6 =>
  on_Pt σ6 27 0 v5 fun σ7 =>
  on_Cl (pf_X6_needWord 2 σ7) fun _ σ9 =>
  on_Cl (pf_X6_needNumber 1 6 σ9) fun v10 σ11 =>
  on_Pt σ11 27 1 v10 fun σ12 =>
  some (0, σ12)
set_option maxRecDepth 100000 in
set_option maxHeartbeats 4000000 in
theorem ct_X6_readHead {E : on_E} {z n : Nat} (hN : 100 ≤ n) {σ : on_S} : on_Sp E yX6_readHead cX6_readHead 1 none 6 128 z n [.ref (z + 52)] σ (pf_X6_readHead  σ) := by
  refine on_met [some (.ref (z + 52))] (by decide) rfl rfl (fun X => ?_)
  rw [pf_X6_readHead]
  refine on_al0 (tk_X6_readHead 0 rfl) ?_
  refine on_ldcs (show ("OppositeNets$Reader", 131, "street", 0) ∈ on_strs by decide +kernel) (tk_X6_readHead 1 rfl) ?_
  refine on_cV1v 6 ms_X6_needWord kw_3_33 rfl rfl (ltc_52 hN) sh_52 (ct_X6_needWord hN (by decide)) rfl (tk_X6_readHead 2 rfl) fun v1 σ2 => ?_
  refine on_al0 (tk_X6_readHead 3 rfl) ?_
  refine on_ldcs (show ("OppositeNets$Reader", 137, "houses", 1) ∈ on_strs by decide +kernel) (tk_X6_readHead 4 rfl) ?_
  refine on_cV1v 6 ms_X6_needWord kw_3_33 rfl rfl (ltc_52 hN) sh_52 (ct_X6_needWord hN (by decide)) rfl (tk_X6_readHead 5 rfl) fun v3 σ4 => ?_
  refine on_al0 (tk_X6_readHead 6 rfl) ?_
  refine fg_6_1 hN kw_2_0 (tk_X6_readHead 7 rfl) ?_
  refine on_al0 (tk_X6_readHead 8 rfl) ?_
  refine on_iconst (tk_X6_readHead 9 rfl) ?_
  refine on_iconst (tk_X6_readHead 10 rfl) ?_
  refine on_cV2i 6 ms_X6_needNumber kw_3_94 rfl rfl (ltc_52 hN) sh_52 (ct_X6_needNumber hN) rfl (tk_X6_readHead 11 rfl) fun v5 σ6 => ?_
  refine fp_9_0 (on_Sb27 hN) kw_1_154 (tk_X6_readHead 12 rfl) fun σ7 => ?_
  refine on_al0 (tk_X6_readHead 13 rfl) ?_
  refine on_ldcs (show ("OppositeNets$Reader", 144, "storeys", 2) ∈ on_strs by decide +kernel) (tk_X6_readHead 14 rfl) ?_
  refine on_cV1v 6 ms_X6_needWord kw_3_33 rfl rfl (ltc_52 hN) sh_52 (ct_X6_needWord hN (by decide)) rfl (tk_X6_readHead 15 rfl) fun v8 σ9 => ?_
  refine on_al0 (tk_X6_readHead 16 rfl) ?_
  refine fg_6_1 hN kw_2_0 (tk_X6_readHead 17 rfl) ?_
  refine on_al0 (tk_X6_readHead 18 rfl) ?_
  refine on_iconst (tk_X6_readHead 19 rfl) ?_
  refine on_bipush (tk_X6_readHead 20 rfl) bp_6 ?_
  refine on_cV2i 6 ms_X6_needNumber kw_3_94 rfl rfl (ltc_52 hN) sh_52 (ct_X6_needNumber hN) rfl (tk_X6_readHead 21 rfl) fun v10 σ11 => ?_
  refine fp_9_1 (on_Sb27 hN) kw_1_158 (tk_X6_readHead 22 rfl) fun σ12 => ?_
  exact on_vret (tk_X6_readHead 23 rfl)
def tb_X6_needSign : List (Nat × Nat × Nat × Instr) := [(0, 1, 1, .aload_n 0), (1, 3, 4, .getfield 35), (4, 3, 7, .ifCond .ne 18), (7, 1, 8, .aload_n 0), (8, 3, 11, .getfield 46), (11, 1, 12, .iconst 3), (12, 3, 15, .if_icmp .ne 10), (15, 1, 16, .aload_n 0), (16, 3, 19, .invokevirtual 43), (19, 3, 22, .goto 12), (22, 1, 23, .aload_n 0), (23, 1, 24, .iconst 1), (24, 1, 25, .aload_n 0), (25, 3, 28, .getfield 52), (28, 3, 31, .invokevirtual 75), (31, 1, 32, .return_)]
set_option maxRecDepth 100000 in
theorem tk_X6_needSign (k : Nat) {pc n pc2 : Nat} {i : Instr} (hk : tb_X6_needSign[k]? = some (pc, n, pc2, i)) : on_dq cX6_needSign pc n pc2 i := on_ta (by decide +kernel) k hk
theorem ms_X6_needSign : on_Mv yX6_needSign cX6_needSign 1 none 0 := ⟨kw_3_184, kw_3_182, kw_3_183, kw_1_6, by decide, by decide, by decide +kernel⟩
def pf_X6_needSign_22 (σ : on_S) : Option on_O :=
  on_Gt σ 52 5 fun v5 =>
  on_Cl (pf_X6_refuse 1 v5 σ) fun _ σ7 =>
  some (0, σ7)
def pf_X6_needSign (σ : on_S) : Option on_O :=
  on_Gt σ 52 8 fun v1 =>
  on_Eq v1 0 (
    on_Gt σ 52 4 fun v2 =>
    on_Eq v2 3 (
      on_Cl (pf_X6_readToken σ) fun _ σ4 =>
      some (0, σ4)) (
      pf_X6_needSign_22 σ)) (
    pf_X6_needSign_22 σ)
set_option maxRecDepth 100000 in
set_option maxHeartbeats 4000000 in
theorem gb_X6_needSign_22 {E : on_E} {z n : Nat} (X : on_X) (hN : 100 ≤ n) (σ : on_S) : on_G X E cX6_needSign RX6 none 2 43 1 z n σ (pf_X6_needSign_22  σ) 22 [some (.ref (z + 52))] [] := by
  rw [pf_X6_needSign_22]
  refine on_al0 (tk_X6_needSign 10 rfl) ?_
  refine on_iconst (tk_X6_needSign 11 rfl) ?_
  refine on_al0 (tk_X6_needSign 12 rfl) ?_
  refine fg_6_5 hN kw_2_4 (tk_X6_needSign 13 rfl) fun v5 => ?_
  refine on_cV2v 6 ms_X6_refuse kw_3_89 rfl rfl (ltc_52 hN) sh_52 (ct_X6_refuse hN) rfl (tk_X6_needSign 14 rfl) fun v6 σ7 => ?_
  exact on_vret (tk_X6_needSign 15 rfl)
set_option maxRecDepth 100000 in
set_option maxHeartbeats 4000000 in
theorem ct_X6_needSign {E : on_E} {z n : Nat} (hN : 100 ≤ n) {σ : on_S} : on_Sp E yX6_needSign cX6_needSign 1 none 2 43 z n [.ref (z + 52)] σ (pf_X6_needSign  σ) := by
  refine on_met [some (.ref (z + 52))] (by decide) rfl rfl (fun X => ?_)
  rw [pf_X6_needSign]
  refine on_al0 (tk_X6_needSign 0 rfl) ?_
  refine fg_6_8 hN kw_2_7 (tk_X6_needSign 1 rfl) fun v1 => ?_
  refine on_if_ne (tk_X6_needSign 2 rfl) (tgt := 22) (by decide) ?_ ?_
  · refine on_al0 (tk_X6_needSign 3 rfl) ?_
    refine fg_6_4 hN kw_2_3 (tk_X6_needSign 4 rfl) fun v2 => ?_
    refine on_iconst (tk_X6_needSign 5 rfl) ?_
    refine on_icmp_ne (tk_X6_needSign 6 rfl) (tgt := 22) (by decide) ?_ ?_
    · refine on_al0 (tk_X6_needSign 7 rfl) ?_
      refine on_cV0v 6 ms_X6_readToken kw_3_16 rfl rfl (ltc_52 hN) sh_52 (ct_X6_readToken hN) rfl (tk_X6_needSign 8 rfl) fun v3 σ4 => ?_
      refine on_goto (tk_X6_needSign 9 rfl) (tgt := 31) (by decide) ?_
      exact on_vret (tk_X6_needSign 15 rfl)
    · exact gb_X6_needSign_22 X  hN _
  · exact gb_X6_needSign_22 X  hN _
def tb_X6_needRoom : List (Nat × Nat × Nat × Instr) := [(0, 1, 1, .iload_n 1), (1, 1, 2, .iload_n 2), (2, 3, 5, .if_icmp .lt 15), (5, 1, 6, .aload_n 0), (6, 1, 7, .iconst 3), (7, 1, 8, .aload_n 0), (8, 3, 11, .getfield 52), (11, 3, 14, .invokevirtual 75), (14, 3, 17, .goto 7), (17, 1, 18, .aload_n 0), (18, 3, 21, .invokevirtual 43), (21, 1, 22, .return_)]
set_option maxRecDepth 100000 in
theorem tk_X6_needRoom (k : Nat) {pc n pc2 : Nat} {i : Instr} (hk : tb_X6_needRoom[k]? = some (pc, n, pc2, i)) : on_dq cX6_needRoom pc n pc2 i := on_ta (by decide +kernel) k hk
theorem ms_X6_needRoom : on_Mv yX6_needRoom cX6_needRoom 3 none 2 := ⟨kw_3_107, kw_3_105, kw_3_106, kw_1_6, by decide, by decide, by decide +kernel⟩
def pf_X6_needRoom (p0 : Int) (p1 : Int) (σ : on_S) : Option on_O :=
  on_Lt p0 p1 (
    on_Cl (pf_X6_readToken σ) fun _ σ5 =>
    some (0, σ5)) (
    on_Gt σ 52 5 fun v1 =>
    on_Cl (pf_X6_refuse 3 v1 σ) fun _ σ3 =>
    some (0, σ3))
set_option maxRecDepth 100000 in
set_option maxHeartbeats 4000000 in
theorem ct_X6_needRoom {E : on_E} {z n : Nat} {p0 : Int} {p1 : Int} (hN : 100 ≤ n) {σ : on_S} : on_Sp E yX6_needRoom cX6_needRoom 3 none 2 43 z n [.ref (z + 52), .int (on_i p0), .int (on_i p1)] σ (pf_X6_needRoom p0 p1 σ) := by
  refine on_met [some (.ref (z + 52)), some (.int (on_i p0)), some (.int (on_i p1))] (by decide) rfl rfl (fun X => ?_)
  rw [pf_X6_needRoom]
  refine on_il1 (tk_X6_needRoom 0 rfl) ?_
  refine on_il2 (tk_X6_needRoom 1 rfl) ?_
  refine on_icmp_lt (tk_X6_needRoom 2 rfl) (tgt := 17) (by decide) ?_ ?_
  · refine on_al0 (tk_X6_needRoom 3 rfl) ?_
    refine on_iconst (tk_X6_needRoom 4 rfl) ?_
    refine on_al0 (tk_X6_needRoom 5 rfl) ?_
    refine fg_6_5 hN kw_2_4 (tk_X6_needRoom 6 rfl) fun v1 => ?_
    refine on_cV2v 6 ms_X6_refuse kw_3_89 rfl rfl (ltc_52 hN) sh_52 (ct_X6_refuse hN) rfl (tk_X6_needRoom 7 rfl) fun v2 σ3 => ?_
    refine on_goto (tk_X6_needRoom 8 rfl) (tgt := 21) (by decide) ?_
    exact on_vret (tk_X6_needRoom 11 rfl)
  · refine on_al0 (tk_X6_needRoom 9 rfl) ?_
    refine on_cV0v 6 ms_X6_readToken kw_3_16 rfl rfl (ltc_52 hN) sh_52 (ct_X6_readToken hN) rfl (tk_X6_needRoom 10 rfl) fun v4 σ5 => ?_
    exact on_vret (tk_X6_needRoom 11 rfl)
def tb_X6_readWindow : List (Nat × Nat × Nat × Instr) := [(0, 1, 1, .aload_n 0), (1, 1, 2, .aload_n 0), (2, 3, 5, .getfield 19), (5, 3, 8, .getfield 148), (8, 2, 10, .bipush 9), (10, 3, 13, .invokevirtual 151), (13, 1, 14, .aload_n 0), (14, 1, 15, .iconst 0), (15, 1, 16, .aload_n 0), (16, 3, 19, .getfield 19), (19, 3, 22, .getfield 142), (22, 1, 23, .iconst 1), (23, 1, 24, .isub), (24, 3, 27, .invokevirtual 139), (27, 1, 28, .istore_n 1), (28, 1, 29, .aload_n 0), (29, 1, 30, .iconst 1), (30, 1, 31, .aload_n 0), (31, 3, 34, .getfield 19), (34, 3, 37, .getfield 146), (37, 3, 40, .invokevirtual 139), (40, 1, 41, .istore_n 2), (41, 1, 42, .aload_n 0), (42, 3, 45, .getfield 35), (45, 3, 48, .ifCond .ne 12), (48, 1, 49, .aload_n 0), (49, 3, 52, .getfield 19), (52, 1, 53, .iload_n 1), (53, 1, 54, .iload_n 2), (54, 3, 57, .invokevirtual 154), (57, 1, 58, .return_)]
set_option maxRecDepth 100000 in
theorem tk_X6_readWindow (k : Nat) {pc n pc2 : Nat} {i : Instr} (hk : tb_X6_readWindow[k]? = some (pc, n, pc2, i)) : on_dq cX6_readWindow pc n pc2 i := on_ta (by decide +kernel) k hk
theorem ms_X6_readWindow : on_Mv yX6_readWindow cX6_readWindow 3 none 0 := ⟨kw_3_103, kw_3_101, kw_3_102, kw_1_6, by decide, by decide, by decide +kernel⟩
def pf_X6_readWindow (σ : on_S) : Option on_O :=
  on_Gt σ 27 3 fun v1 =>
  on_Cl (pf_X6_needRoom v1 9 σ) fun _ σ3 =>
  on_Gt σ3 27 0 fun v4 =>
  on_Cl (pf_X6_needNumber 0 (v4 - 1) σ3) fun v5 σ6 =>
  on_Gt σ6 27 1 fun v7 =>
  on_Cl (pf_X6_needNumber 1 v7 σ6) fun v8 σ9 =>
  on_Gt σ9 52 8 fun v10 =>
  on_Eq v10 0 (
    on_Cl (pf_X9_addWindow 27 v5 v8 σ9) fun _ σ12 =>
    some (0, σ12)) (
    some (0, σ9))
set_option maxRecDepth 100000 in
set_option maxHeartbeats 4000000 in
theorem ct_X6_readWindow {E : on_E} {z n : Nat} (hN : 100 ≤ n) {σ : on_S} : on_Sp E yX6_readWindow cX6_readWindow 3 none 3 66 z n [.ref (z + 52)] σ (pf_X6_readWindow  σ) := by
  refine on_met [some (.ref (z + 52)), none, none] (by decide) rfl rfl (fun X => ?_)
  rw [pf_X6_readWindow]
  refine on_al0 (tk_X6_readWindow 0 rfl) ?_
  refine on_al0 (tk_X6_readWindow 1 rfl) ?_
  refine fg_6_1 hN kw_2_0 (tk_X6_readWindow 2 rfl) ?_
  refine fg_9_3 (on_Sb27 hN) kw_1_164 (tk_X6_readWindow 3 rfl) fun v1 => ?_
  refine on_bipush (tk_X6_readWindow 4 rfl) bp_9 ?_
  refine on_cV2v 6 ms_X6_needRoom kw_3_104 rfl rfl (ltc_52 hN) sh_52 (ct_X6_needRoom hN) rfl (tk_X6_readWindow 5 rfl) fun v2 σ3 => ?_
  refine on_al0 (tk_X6_readWindow 6 rfl) ?_
  refine on_iconst (tk_X6_readWindow 7 rfl) ?_
  refine on_al0 (tk_X6_readWindow 8 rfl) ?_
  refine fg_6_1 hN kw_2_0 (tk_X6_readWindow 9 rfl) ?_
  refine fg_9_0 (on_Sb27 hN) kw_1_154 (tk_X6_readWindow 10 rfl) fun v4 => ?_
  refine on_iconst (tk_X6_readWindow 11 rfl) ?_
  refine on_isub (tk_X6_readWindow 12 rfl) ?_
  refine on_cV2i 6 ms_X6_needNumber kw_3_94 rfl rfl (ltc_52 hN) sh_52 (ct_X6_needNumber hN) rfl (tk_X6_readWindow 13 rfl) fun v5 σ6 => ?_
  refine on_is1 rfl (tk_X6_readWindow 14 rfl) ?_
  refine on_al0 (tk_X6_readWindow 15 rfl) ?_
  refine on_iconst (tk_X6_readWindow 16 rfl) ?_
  refine on_al0 (tk_X6_readWindow 17 rfl) ?_
  refine fg_6_1 hN kw_2_0 (tk_X6_readWindow 18 rfl) ?_
  refine fg_9_1 (on_Sb27 hN) kw_1_158 (tk_X6_readWindow 19 rfl) fun v7 => ?_
  refine on_cV2i 6 ms_X6_needNumber kw_3_94 rfl rfl (ltc_52 hN) sh_52 (ct_X6_needNumber hN) rfl (tk_X6_readWindow 20 rfl) fun v8 σ9 => ?_
  refine on_is2 rfl (tk_X6_readWindow 21 rfl) ?_
  refine on_al0 (tk_X6_readWindow 22 rfl) ?_
  refine fg_6_8 hN kw_2_7 (tk_X6_readWindow 23 rfl) fun v10 => ?_
  refine on_if_ne (tk_X6_readWindow 24 rfl) (tgt := 57) (by decide) ?_ ?_
  · refine on_al0 (tk_X6_readWindow 25 rfl) ?_
    refine fg_6_1 hN kw_2_0 (tk_X6_readWindow 26 rfl) ?_
    refine on_il1 (tk_X6_readWindow 27 rfl) ?_
    refine on_il2 (tk_X6_readWindow 28 rfl) ?_
    refine on_cV2v 9 ms_X9_addWindow kw_3_108 rfl rfl (ltS_0 (on_Sb27 hN)) (shS_0 (on_Sb27 hN)) (ct_X9_addWindow hN (on_Sb27 hN)) rfl (tk_X6_readWindow 29 rfl) fun v11 σ12 => ?_
    exact on_vret (tk_X6_readWindow 30 rfl)
  · exact on_vret (tk_X6_readWindow 30 rfl)
def tb_X6_readMan : List (Nat × Nat × Nat × Instr) := [(0, 1, 1, .aload_n 0), (1, 1, 2, .aload_n 0), (2, 3, 5, .getfield 19), (5, 3, 8, .getfield 157), (8, 3, 11, .getfield 161), (11, 2, 13, .bipush 9), (13, 3, 16, .invokevirtual 151), (16, 1, 17, .aload_n 0), (17, 1, 18, .iconst 0), (18, 1, 19, .aload_n 0), (19, 3, 22, .getfield 19), (22, 3, 25, .getfield 142), (25, 1, 26, .iconst 1), (26, 1, 27, .isub), (27, 3, 30, .invokevirtual 139), (30, 1, 31, .istore_n 1), (31, 1, 32, .aload_n 0), (32, 2, 34, .ldc 166), (34, 3, 37, .invokevirtual 133), (37, 1, 38, .aload_n 0), (38, 1, 39, .iconst 1), (39, 2, 41, .bipush 60), (41, 3, 44, .invokevirtual 139), (44, 1, 45, .istore_n 2), (45, 1, 46, .aload_n 0), (46, 3, 49, .getfield 35), (49, 3, 52, .ifCond .ne 15), (52, 1, 53, .aload_n 0), (53, 3, 56, .getfield 19), (56, 3, 59, .getfield 157), (59, 1, 60, .iload_n 1), (60, 1, 61, .iload_n 2), (61, 3, 64, .invokevirtual 168), (64, 1, 65, .return_)]
set_option maxRecDepth 100000 in
theorem tk_X6_readMan (k : Nat) {pc n pc2 : Nat} {i : Instr} (hk : tb_X6_readMan[k]? = some (pc, n, pc2, i)) : on_dq cX6_readMan pc n pc2 i := on_ta (by decide +kernel) k hk
theorem ms_X6_readMan : on_Mv yX6_readMan cX6_readMan 3 none 0 := ⟨kw_3_116, kw_3_114, kw_3_115, kw_1_6, by decide, by decide, by decide +kernel⟩
def pf_X6_readMan (σ : on_S) : Option on_O :=
  on_Gt σ (27 + 8) 0 fun v1 =>
  on_Cl (pf_X6_needRoom v1 9 σ) fun _ σ3 =>
  on_Gt σ3 27 0 fun v4 =>
  on_Cl (pf_X6_needNumber 0 (v4 - 1) σ3) fun v5 σ6 =>
  on_Cl (pf_X6_needWord 5 σ6) fun _ σ8 =>
  on_Cl (pf_X6_needNumber 1 60 σ8) fun v9 σ10 =>
  on_Gt σ10 52 8 fun v11 =>
  on_Eq v11 0 (
    on_Cl (pf_X3_hire 27 v5 v9 σ10) fun _ σ13 =>
    some (0, σ13)) (
    some (0, σ10))
set_option maxRecDepth 100000 in
set_option maxHeartbeats 4000000 in
theorem ct_X6_readMan {E : on_E} {z n : Nat} (hN : 100 ≤ n) {σ : on_S} : on_Sp E yX6_readMan cX6_readMan 3 none 6 128 z n [.ref (z + 52)] σ (pf_X6_readMan  σ) := by
  refine on_met [some (.ref (z + 52)), none, none] (by decide) rfl rfl (fun X => ?_)
  rw [pf_X6_readMan]
  refine on_al0 (tk_X6_readMan 0 rfl) ?_
  refine on_al0 (tk_X6_readMan 1 rfl) ?_
  refine fg_6_1 hN kw_2_0 (tk_X6_readMan 2 rfl) ?_
  refine fg_9_12 (on_Sb27 hN) kw_1_189 (tk_X6_readMan 3 rfl) ?_
  refine fg_3_0 (on_Sb27 hN) kw_1_46 (tk_X6_readMan 4 rfl) fun v1 => ?_
  refine on_bipush (tk_X6_readMan 5 rfl) bp_9 ?_
  refine on_cV2v 6 ms_X6_needRoom kw_3_104 rfl rfl (ltc_52 hN) sh_52 (ct_X6_needRoom hN) rfl (tk_X6_readMan 6 rfl) fun v2 σ3 => ?_
  refine on_al0 (tk_X6_readMan 7 rfl) ?_
  refine on_iconst (tk_X6_readMan 8 rfl) ?_
  refine on_al0 (tk_X6_readMan 9 rfl) ?_
  refine fg_6_1 hN kw_2_0 (tk_X6_readMan 10 rfl) ?_
  refine fg_9_0 (on_Sb27 hN) kw_1_154 (tk_X6_readMan 11 rfl) fun v4 => ?_
  refine on_iconst (tk_X6_readMan 12 rfl) ?_
  refine on_isub (tk_X6_readMan 13 rfl) ?_
  refine on_cV2i 6 ms_X6_needNumber kw_3_94 rfl rfl (ltc_52 hN) sh_52 (ct_X6_needNumber hN) rfl (tk_X6_readMan 14 rfl) fun v5 σ6 => ?_
  refine on_is1 rfl (tk_X6_readMan 15 rfl) ?_
  refine on_al0 (tk_X6_readMan 16 rfl) ?_
  refine on_ldcs (show ("OppositeNets$Reader", 166, "strength", 5) ∈ on_strs by decide +kernel) (tk_X6_readMan 17 rfl) ?_
  refine on_cV1v 6 ms_X6_needWord kw_3_33 rfl rfl (ltc_52 hN) sh_52 (ct_X6_needWord hN (by decide)) rfl (tk_X6_readMan 18 rfl) fun v7 σ8 => ?_
  refine on_al0 (tk_X6_readMan 19 rfl) ?_
  refine on_iconst (tk_X6_readMan 20 rfl) ?_
  refine on_bipush (tk_X6_readMan 21 rfl) bp_60 ?_
  refine on_cV2i 6 ms_X6_needNumber kw_3_94 rfl rfl (ltc_52 hN) sh_52 (ct_X6_needNumber hN) rfl (tk_X6_readMan 22 rfl) fun v9 σ10 => ?_
  refine on_is2 rfl (tk_X6_readMan 23 rfl) ?_
  refine on_al0 (tk_X6_readMan 24 rfl) ?_
  refine fg_6_8 hN kw_2_7 (tk_X6_readMan 25 rfl) fun v11 => ?_
  refine on_if_ne (tk_X6_readMan 26 rfl) (tgt := 64) (by decide) ?_ ?_
  · refine on_al0 (tk_X6_readMan 27 rfl) ?_
    refine fg_6_1 hN kw_2_0 (tk_X6_readMan 28 rfl) ?_
    refine fg_9_12 (on_Sb27 hN) kw_1_189 (tk_X6_readMan 29 rfl) ?_
    refine on_il1 (tk_X6_readMan 30 rfl) ?_
    refine on_il2 (tk_X6_readMan 31 rfl) ?_
    refine on_cV2v 3 ms_X3_hire kw_3_118 rfl rfl (ltS_8 (on_Sb27 hN)) (shS_8 (on_Sb27 hN)) (ct_X3_hire hN (on_Sb27 hN)) rfl (tk_X6_readMan 32 rfl) fun v12 σ13 => ?_
    exact on_vret (tk_X6_readMan 33 rfl)
  · exact on_vret (tk_X6_readMan 33 rfl)
def tb_X6_needAsSaid : List (Nat × Nat × Nat × Instr) := [(0, 1, 1, .iload_n 1), (1, 3, 4, .ifCond .ne 12), (4, 1, 5, .aload_n 0), (5, 1, 6, .iconst 2), (6, 1, 7, .aload_n 0), (7, 3, 10, .getfield 79), (10, 3, 13, .invokevirtual 75), (13, 1, 14, .return_)]
set_option maxRecDepth 100000 in
theorem tk_X6_needAsSaid (k : Nat) {pc n pc2 : Nat} {i : Instr} (hk : tb_X6_needAsSaid[k]? = some (pc, n, pc2, i)) : on_dq cX6_needAsSaid pc n pc2 i := on_ta (by decide +kernel) k hk
theorem ms_X6_needAsSaid : on_Mv yX6_needAsSaid cX6_needAsSaid 2 none 1 := ⟨kw_3_131, kw_3_129, kw_3_130, kw_1_6, by decide, by decide, by decide +kernel⟩
def pf_X6_needAsSaid (p0 : Int) (σ : on_S) : Option on_O :=
  on_Eq p0 0 (
    on_Gt σ 52 7 fun v1 =>
    on_Cl (pf_X6_refuse 2 v1 σ) fun _ σ3 =>
    some (0, σ3)) (
    some (0, σ))
set_option maxRecDepth 100000 in
set_option maxHeartbeats 4000000 in
theorem ct_X6_needAsSaid {E : on_E} {z n : Nat} {p0 : Int} (hN : 100 ≤ n) {σ : on_S} : on_Sp E yX6_needAsSaid cX6_needAsSaid 2 none 1 22 z n [.ref (z + 52), .int (on_i p0)] σ (pf_X6_needAsSaid p0 σ) := by
  refine on_met [some (.ref (z + 52)), some (.int (on_i p0))] (by decide) rfl rfl (fun X => ?_)
  rw [pf_X6_needAsSaid]
  refine on_il1 (tk_X6_needAsSaid 0 rfl) ?_
  refine on_if_ne (tk_X6_needAsSaid 1 rfl) (tgt := 13) (by decide) ?_ ?_
  · refine on_al0 (tk_X6_needAsSaid 2 rfl) ?_
    refine on_iconst (tk_X6_needAsSaid 3 rfl) ?_
    refine on_al0 (tk_X6_needAsSaid 4 rfl) ?_
    refine fg_6_7 hN kw_2_6 (tk_X6_needAsSaid 5 rfl) fun v1 => ?_
    refine on_cV2v 6 ms_X6_refuse kw_3_89 rfl rfl (ltc_52 hN) sh_52 (ct_X6_refuse hN) rfl (tk_X6_needAsSaid 6 rfl) fun v2 σ3 => ?_
    exact on_vret (tk_X6_needAsSaid 7 rfl)
  · exact on_vret (tk_X6_needAsSaid 7 rfl)
def tb_X6_readNet : List (Nat × Nat × Nat × Instr) := [(0, 1, 1, .aload_n 0), (1, 3, 4, .getfield 19), (4, 3, 7, .getfield 171), (7, 3, 10, .getfield 175), (10, 1, 11, .istore_n 1), (11, 1, 12, .aload_n 0), (12, 1, 13, .iload_n 1), (13, 1, 14, .iconst 2), (14, 3, 17, .invokevirtual 151), (17, 1, 18, .aload_n 0), (18, 2, 20, .ldc 178), (20, 3, 23, .invokevirtual 133), (23, 1, 24, .aload_n 0), (24, 1, 25, .iconst 0), (25, 1, 26, .aload_n 0), (26, 3, 29, .getfield 19), (29, 3, 32, .getfield 148), (32, 1, 33, .iconst 1), (33, 1, 34, .isub), (34, 3, 37, .invokevirtual 139), (37, 1, 38, .istore_n 2), (38, 1, 39, .aload_n 0), (39, 3, 42, .getfield 35), (42, 3, 45, .ifCond .ne 25), (45, 1, 46, .aload_n 0), (46, 1, 47, .aload_n 0), (47, 3, 50, .getfield 19), (50, 3, 53, .getfield 179), (53, 1, 54, .iload_n 2), (54, 1, 55, .iaload), (55, 1, 56, .iconst (-1)), (56, 3, 59, .if_icmp .ne 7), (59, 1, 60, .iconst 1), (60, 3, 63, .goto 4), (63, 1, 64, .iconst 0), (64, 3, 67, .invokevirtual 183), (67, 1, 68, .aload_n 0), (68, 2, 70, .ldc 187), (70, 3, 73, .invokevirtual 133), (73, 1, 74, .iconst 0), (74, 1, 75, .istore_n 3), (75, 1, 76, .iload_n 3), (76, 1, 77, .iconst 4), (77, 3, 80, .if_icmp .ge 43), (80, 1, 81, .aload_n 0), (81, 1, 82, .iconst 1), (82, 2, 84, .bipush 99), (84, 3, 87, .invokevirtual 139), (87, 2, 89, .istore 4), (89, 1, 90, .aload_n 0), (90, 3, 93, .getfield 35), (93, 3, 96, .ifCond .ne 21), (96, 1, 97, .aload_n 0), (97, 3, 100, .getfield 19), (100, 3, 103, .getfield 171), (103, 3, 106, .getfield 189), (106, 1, 107, .iload_n 1), (107, 1, 108, .iconst 4), (108, 1, 109, .imul), (109, 1, 110, .iload_n 3), (110, 1, 111, .iadd), (111, 2, 113, .iload 4), (113, 1, 114, .iastore), (114, 3, 117, .iinc 3 1), (117, 3, 120, .goto (-42)), (120, 1, 121, .aload_n 0), (121, 2, 123, .ldc 191), (123, 3, 126, .invokevirtual 133), (126, 1, 127, .aload_n 0), (127, 1, 128, .iconst 0), (128, 2, 130, .bipush 9), (130, 3, 133, .invokevirtual 139), (133, 1, 134, .istore_n 3), (134, 1, 135, .aload_n 0), (135, 3, 138, .getfield 35), (138, 3, 141, .ifCond .ne 16), (141, 1, 142, .aload_n 0), (142, 2, 144, .ldc 193), (144, 3, 147, .invokevirtual 71), (147, 3, 150, .ifCond .eq 7), (150, 1, 151, .iconst 1), (151, 3, 154, .goto 4), (154, 1, 155, .iconst 0), (155, 2, 157, .istore 4), (157, 2, 159, .iload 4), (159, 3, 162, .ifCond .eq 7), (162, 1, 163, .aload_n 0), (163, 3, 166, .invokevirtual 43), (166, 1, 167, .aload_n 0), (167, 3, 170, .getfield 35), (170, 3, 173, .ifCond .ne 77), (173, 1, 174, .aload_n 0), (174, 3, 177, .getfield 19), (177, 3, 180, .getfield 171), (180, 3, 183, .getfield 195), (183, 1, 184, .iload_n 1), (184, 1, 185, .iload_n 2), (185, 1, 186, .iastore), (186, 1, 187, .aload_n 0), (187, 3, 190, .getfield 19), (190, 3, 193, .getfield 171), (193, 3, 196, .getfield 197), (196, 1, 197, .iload_n 1), (197, 1, 198, .iload_n 3), (198, 1, 199, .iastore), (199, 1, 200, .aload_n 0), (200, 3, 203, .getfield 19), (203, 3, 206, .getfield 171), (206, 3, 209, .getfield 199), (209, 1, 210, .iload_n 1), (210, 2, 212, .iload 4), (212, 3, 215, .ifCond .eq 7), (215, 1, 216, .iconst 1), (216, 3, 219, .goto 4), (219, 1, 220, .iconst 0), (220, 1, 221, .iastore), (221, 1, 222, .aload_n 0), (222, 3, 225, .getfield 19), (225, 3, 228, .getfield 179), (228, 1, 229, .iload_n 2), (229, 1, 230, .iload_n 1), (230, 1, 231, .iastore), (231, 1, 232, .aload_n 0), (232, 3, 235, .getfield 19), (235, 3, 238, .getfield 171), (238, 1, 239, .dup), (239, 3, 242, .getfield 175), (242, 1, 243, .iconst 1), (243, 1, 244, .iadd), (244, 3, 247, .putfield 175), (247, 1, 248, .return_)]
set_option maxRecDepth 100000 in
theorem tk_X6_readNet (k : Nat) {pc n pc2 : Nat} {i : Instr} (hk : tb_X6_readNet[k]? = some (pc, n, pc2, i)) : on_dq cX6_readNet pc n pc2 i := on_ta (by decide +kernel) k hk
theorem ms_X6_readNet : on_Mv yX6_readNet cX6_readNet 5 none 0 := ⟨kw_3_126, kw_3_124, kw_3_125, kw_1_6, by decide, by decide, by decide +kernel⟩
def pf_X6_readNet_220 (l1 : Int) (l2 : Int) (s1 : Int) (s2 : Int) (σ : on_S) : Option on_O :=
  on_Wr σ (27 + 17) 2 s1 s2 fun σ31 =>
  on_Wr σ31 (27 + 3) 9 l2 l1 fun σ32 =>
  on_Gt σ32 (27 + 14) 0 fun v33 =>
  on_Pt σ32 (27 + 14) 0 (v33 + 1) fun σ34 =>
  some (0, σ34)
def pf_X6_readNet_166 (l1 : Int) (l2 : Int) (l3 : Int) (l4 : Int) (σ : on_S) : Option on_O :=
  on_Gt σ 52 8 fun v28 =>
  on_Eq v28 0 (
    on_Wr σ (27 + 15) 2 l1 l2 fun σ29 =>
    on_Wr σ29 (27 + 16) 2 l1 l3 fun σ30 =>
    on_Eq l4 0 (
      pf_X6_readNet_220 l1 l2 l1 0 σ30) (
      pf_X6_readNet_220 l1 l2 l1 1 σ30)) (
    some (0, σ))
def pf_X6_readNet_155 (l1 : Int) (l2 : Int) (l3 : Int) (s0 : Int) (σ : on_S) : Option on_O :=
  on_Eq s0 0 (
    pf_X6_readNet_166 l1 l2 l3 s0 σ) (
    on_Cl (pf_X6_readToken σ) fun _ σ27 =>
    pf_X6_readNet_166 l1 l2 l3 s0 σ27)
def pf_X6_readNet_154 (l1 : Int) (l2 : Int) (l3 : Int) (σ : on_S) : Option on_O :=
  pf_X6_readNet_155 l1 l2 l3 0 σ
def pf_X6_readNet_75 : Nat → Int → Int → Int → on_S → Option on_O
  | 0, _, _, _, _ => none
  | nf + 1, l1, l2, l3, σ =>
    on_Lt l3 4 (
      on_Cl (pf_X6_needNumber 1 99 σ) fun v15 σ16 =>
      on_Gt σ16 52 8 fun v17 =>
      on_Eq v17 0 (
        on_Wr σ16 (27 + 18) 8 ((l1 * 4) + l3) v15 fun σ18 =>
        pf_X6_readNet_75 nf l1 l2 (l3 + 1) σ18) (
        pf_X6_readNet_75 nf l1 l2 (l3 + 1) σ16)) (
      on_Cl (pf_X6_needWord 9 σ) fun _ σ20 =>
      on_Cl (pf_X6_needNumber 0 9 σ20) fun v21 σ22 =>
      on_Gt σ22 52 8 fun v23 =>
      on_Eq v23 0 (
        on_Cl (pf_X6_isWord 10 σ22) fun v24 σ25 =>
        on_Eq v24 0 (
          pf_X6_readNet_154 l1 l2 v21 σ25) (
          pf_X6_readNet_155 l1 l2 v21 1 σ25)) (
        pf_X6_readNet_154 l1 l2 v21 σ22))
def pf_X6_readNet_67 (l1 : Int) (l2 : Int) (σ : on_S) : Option on_O :=
  on_Cl (pf_X6_needWord 8 σ) fun _ σ14 =>
  pf_X6_readNet_75 on_N l1 l2 0 σ14
def pf_X6_readNet_64 (l1 : Int) (l2 : Int) (s1 : Int) (σ : on_S) : Option on_O :=
  on_Cl (pf_X6_needAsSaid s1 σ) fun _ σ12 =>
  pf_X6_readNet_67 l1 l2 σ12
def pf_X6_readNet (σ : on_S) : Option on_O :=
  on_Gt σ (27 + 14) 0 fun v1 =>
  on_Cl (pf_X6_needRoom v1 2 σ) fun _ σ3 =>
  on_Cl (pf_X6_needWord 7 σ3) fun _ σ5 =>
  on_Gt σ5 27 3 fun v6 =>
  on_Cl (pf_X6_needNumber 0 (v6 - 1) σ5) fun v7 σ8 =>
  on_Gt σ8 52 8 fun v9 =>
  on_Eq v9 0 (
    on_Rd σ8 (27 + 3) 9 v7 fun v10 =>
    on_Eq v10 (-1) (
      pf_X6_readNet_64 v1 v7 1 σ8) (
      pf_X6_readNet_64 v1 v7 0 σ8)) (
    pf_X6_readNet_67 v1 v7 σ8)
set_option maxRecDepth 100000 in
set_option maxHeartbeats 4000000 in
theorem gb_X6_readNet_220 {E : on_E} {z n : Nat} (X : on_X) (hN : 100 ≤ n) (l1 : Int) (l2 : Int) (s1 : Int) (s2 : Int) (σ : on_S) : on_G X E cX6_readNet RX6 none 6 128 5 z n σ (pf_X6_readNet_220 l1 l2 s1 s2 σ) 220 [some (.ref (z + 52)), some (.int (on_i l1)), some (.int (on_i l2)), none, none] [.int (on_i s2), .int (on_i s1), .ref (z + (27 + 17))] := by
  rw [pf_X6_readNet_220]
  refine on_iast (ltS_17 (on_Sb27 hN)) (shS_17 (on_Sb27 hN)) (tk_X6_readNet 115 rfl) fun σ31 => ?_
  refine on_al0 (tk_X6_readNet 116 rfl) ?_
  refine fg_6_1 hN kw_2_0 (tk_X6_readNet 117 rfl) ?_
  refine fg_9_6 (on_Sb27 hN) kw_1_172 (tk_X6_readNet 118 rfl) ?_
  refine on_il2 (tk_X6_readNet 119 rfl) ?_
  refine on_il1 (tk_X6_readNet 120 rfl) ?_
  refine on_iast (ltS_3 (on_Sb27 hN)) (shS_3 (on_Sb27 hN)) (tk_X6_readNet 121 rfl) fun σ32 => ?_
  refine on_al0 (tk_X6_readNet 122 rfl) ?_
  refine fg_6_1 hN kw_2_0 (tk_X6_readNet 123 rfl) ?_
  refine fg_9_13 (on_Sb27 hN) kw_1_196 (tk_X6_readNet 124 rfl) ?_
  refine on_dup rfl (tk_X6_readNet 125 rfl) ?_
  refine fg_4_0 (on_Sb27 hN) kw_1_89 (tk_X6_readNet 126 rfl) fun v33 => ?_
  refine on_iconst (tk_X6_readNet 127 rfl) ?_
  refine on_iadd (tk_X6_readNet 128 rfl) ?_
  refine fp_4_0 (on_Sb27 hN) kw_1_89 (tk_X6_readNet 129 rfl) fun σ34 => ?_
  exact on_vret (tk_X6_readNet 130 rfl)
set_option maxRecDepth 100000 in
set_option maxHeartbeats 4000000 in
theorem gb_X6_readNet_166 {E : on_E} {z n : Nat} (X : on_X) (hN : 100 ≤ n) (l1 : Int) (l2 : Int) (l3 : Int) (l4 : Int) (σ : on_S) : on_G X E cX6_readNet RX6 none 6 128 5 z n σ (pf_X6_readNet_166 l1 l2 l3 l4 σ) 166 [some (.ref (z + 52)), some (.int (on_i l1)), some (.int (on_i l2)), some (.int (on_i l3)), some (.int (on_i l4))] [] := by
  rw [pf_X6_readNet_166]
  refine on_al0 (tk_X6_readNet 88 rfl) ?_
  refine fg_6_8 hN kw_2_7 (tk_X6_readNet 89 rfl) fun v28 => ?_
  refine on_if_ne (tk_X6_readNet 90 rfl) (tgt := 247) (by decide) ?_ ?_
  · refine on_al0 (tk_X6_readNet 91 rfl) ?_
    refine fg_6_1 hN kw_2_0 (tk_X6_readNet 92 rfl) ?_
    refine fg_9_13 (on_Sb27 hN) kw_1_196 (tk_X6_readNet 93 rfl) ?_
    refine fg_4_1 (on_Sb27 hN) kw_1_95 (tk_X6_readNet 94 rfl) ?_
    refine on_il1 (tk_X6_readNet 95 rfl) ?_
    refine on_il2 (tk_X6_readNet 96 rfl) ?_
    refine on_iast (ltS_15 (on_Sb27 hN)) (shS_15 (on_Sb27 hN)) (tk_X6_readNet 97 rfl) fun σ29 => ?_
    refine on_al0 (tk_X6_readNet 98 rfl) ?_
    refine fg_6_1 hN kw_2_0 (tk_X6_readNet 99 rfl) ?_
    refine fg_9_13 (on_Sb27 hN) kw_1_196 (tk_X6_readNet 100 rfl) ?_
    refine fg_4_2 (on_Sb27 hN) kw_1_99 (tk_X6_readNet 101 rfl) ?_
    refine on_il1 (tk_X6_readNet 102 rfl) ?_
    refine on_il3 (tk_X6_readNet 103 rfl) ?_
    refine on_iast (ltS_16 (on_Sb27 hN)) (shS_16 (on_Sb27 hN)) (tk_X6_readNet 104 rfl) fun σ30 => ?_
    refine on_al0 (tk_X6_readNet 105 rfl) ?_
    refine fg_6_1 hN kw_2_0 (tk_X6_readNet 106 rfl) ?_
    refine fg_9_13 (on_Sb27 hN) kw_1_196 (tk_X6_readNet 107 rfl) ?_
    refine fg_4_3 (on_Sb27 hN) kw_1_104 (tk_X6_readNet 108 rfl) ?_
    refine on_il1 (tk_X6_readNet 109 rfl) ?_
    refine on_il4 (tk_X6_readNet 110 rfl) ?_
    refine on_if_eq (tk_X6_readNet 111 rfl) (tgt := 219) (by decide) ?_ ?_
    · refine on_iconst (tk_X6_readNet 112 rfl) ?_
      refine on_goto (tk_X6_readNet 113 rfl) (tgt := 220) (by decide) ?_
      refine on_dr3 ?_
      refine on_dr4 ?_
      exact gb_X6_readNet_220 X  hN _ _ _ _ _
    · refine on_iconst (tk_X6_readNet 114 rfl) ?_
      refine on_dr3 ?_
      refine on_dr4 ?_
      exact gb_X6_readNet_220 X  hN _ _ _ _ _
  · exact on_vret (tk_X6_readNet 130 rfl)
set_option maxRecDepth 100000 in
set_option maxHeartbeats 4000000 in
theorem gb_X6_readNet_155 {E : on_E} {z n : Nat} (X : on_X) (hN : 100 ≤ n) (l1 : Int) (l2 : Int) (l3 : Int) (s0 : Int) (σ : on_S) : on_G X E cX6_readNet RX6 none 6 128 5 z n σ (pf_X6_readNet_155 l1 l2 l3 s0 σ) 155 [some (.ref (z + 52)), some (.int (on_i l1)), some (.int (on_i l2)), some (.int (on_i l3)), none] [.int (on_i s0)] := by
  rw [pf_X6_readNet_155]
  refine on_is4 rfl (tk_X6_readNet 83 rfl) ?_
  refine on_il4 (tk_X6_readNet 84 rfl) ?_
  refine on_if_eq (tk_X6_readNet 85 rfl) (tgt := 166) (by decide) ?_ ?_
  · refine on_al0 (tk_X6_readNet 86 rfl) ?_
    refine on_cV0v 6 ms_X6_readToken kw_3_16 rfl rfl (ltc_52 hN) sh_52 (ct_X6_readToken hN) rfl (tk_X6_readNet 87 rfl) fun v26 σ27 => ?_
    exact gb_X6_readNet_166 X  hN _ _ _ _ _
  · exact gb_X6_readNet_166 X  hN _ _ _ _ _
set_option maxRecDepth 100000 in
set_option maxHeartbeats 4000000 in
theorem gb_X6_readNet_154 {E : on_E} {z n : Nat} (X : on_X) (hN : 100 ≤ n) (l1 : Int) (l2 : Int) (l3 : Int) (σ : on_S) : on_G X E cX6_readNet RX6 none 6 128 5 z n σ (pf_X6_readNet_154 l1 l2 l3 σ) 154 [some (.ref (z + 52)), some (.int (on_i l1)), some (.int (on_i l2)), some (.int (on_i l3)), none] [] := by
  rw [pf_X6_readNet_154]
  refine on_iconst (tk_X6_readNet 82 rfl) ?_
  exact gb_X6_readNet_155 X  hN _ _ _ _ _
set_option maxRecDepth 100000 in
set_option maxHeartbeats 4000000 in
theorem gl_X6_readNet_75 {E : on_E} {z n : Nat} (X : on_X) (hN : 100 ≤ n) : ∀ (nf : Nat) (l1 : Int) (l2 : Int) (l3 : Int) (σ : on_S), on_G X E cX6_readNet RX6 none 6 128 5 z n σ (pf_X6_readNet_75 nf l1 l2 l3 σ) 75 [some (.ref (z + 52)), some (.int (on_i l1)), some (.int (on_i l2)), some (.int (on_i l3)), none] [] := by
  intro nf
  induction nf with
  | zero => intro l1 l2 l3 σ; exact on_none
  | succ nf ih =>
    intro l1 l2 l3 σ
    rw [pf_X6_readNet_75]
    refine on_il3 (tk_X6_readNet 41 rfl) ?_
    refine on_iconst (tk_X6_readNet 42 rfl) ?_
    refine on_icmp_ge (tk_X6_readNet 43 rfl) (tgt := 120) (by decide) ?_ ?_
    · refine on_al0 (tk_X6_readNet 44 rfl) ?_
      refine on_iconst (tk_X6_readNet 45 rfl) ?_
      refine on_bipush (tk_X6_readNet 46 rfl) bp_99 ?_
      refine on_cV2i 6 ms_X6_needNumber kw_3_94 rfl rfl (ltc_52 hN) sh_52 (ct_X6_needNumber hN) rfl (tk_X6_readNet 47 rfl) fun v15 σ16 => ?_
      refine on_is4 rfl (tk_X6_readNet 48 rfl) ?_
      refine on_al0 (tk_X6_readNet 49 rfl) ?_
      refine fg_6_8 hN kw_2_7 (tk_X6_readNet 50 rfl) fun v17 => ?_
      refine on_if_ne (tk_X6_readNet 51 rfl) (tgt := 114) (by decide) ?_ ?_
      · refine on_al0 (tk_X6_readNet 52 rfl) ?_
        refine fg_6_1 hN kw_2_0 (tk_X6_readNet 53 rfl) ?_
        refine fg_9_13 (on_Sb27 hN) kw_1_196 (tk_X6_readNet 54 rfl) ?_
        refine fg_4_4 (on_Sb27 hN) kw_1_109 (tk_X6_readNet 55 rfl) ?_
        refine on_il1 (tk_X6_readNet 56 rfl) ?_
        refine on_iconst (tk_X6_readNet 57 rfl) ?_
        refine on_imul (tk_X6_readNet 58 rfl) ?_
        refine on_il3 (tk_X6_readNet 59 rfl) ?_
        refine on_iadd (tk_X6_readNet 60 rfl) ?_
        refine on_il4 (tk_X6_readNet 61 rfl) ?_
        refine on_iast (ltS_18 (on_Sb27 hN)) (shS_18 (on_Sb27 hN)) (tk_X6_readNet 62 rfl) fun σ18 => ?_
        refine on_inc3 rfl (tk_X6_readNet 63 rfl) ?_
        refine on_goto (tk_X6_readNet 64 rfl) (tgt := 75) (by decide) ?_
        refine on_dr4 ?_
        exact ih _ _ _ _
      · refine on_inc3 rfl (tk_X6_readNet 63 rfl) ?_
        refine on_goto (tk_X6_readNet 64 rfl) (tgt := 75) (by decide) ?_
        refine on_dr4 ?_
        exact ih _ _ _ _
    · refine on_al0 (tk_X6_readNet 65 rfl) ?_
      refine on_ldcs (show ("OppositeNets$Reader", 191, "wears", 9) ∈ on_strs by decide +kernel) (tk_X6_readNet 66 rfl) ?_
      refine on_cV1v 6 ms_X6_needWord kw_3_33 rfl rfl (ltc_52 hN) sh_52 (ct_X6_needWord hN (by decide)) rfl (tk_X6_readNet 67 rfl) fun v19 σ20 => ?_
      refine on_al0 (tk_X6_readNet 68 rfl) ?_
      refine on_iconst (tk_X6_readNet 69 rfl) ?_
      refine on_bipush (tk_X6_readNet 70 rfl) bp_9 ?_
      refine on_cV2i 6 ms_X6_needNumber kw_3_94 rfl rfl (ltc_52 hN) sh_52 (ct_X6_needNumber hN) rfl (tk_X6_readNet 71 rfl) fun v21 σ22 => ?_
      refine on_is3 rfl (tk_X6_readNet 72 rfl) ?_
      refine on_al0 (tk_X6_readNet 73 rfl) ?_
      refine fg_6_8 hN kw_2_7 (tk_X6_readNet 74 rfl) fun v23 => ?_
      refine on_if_ne (tk_X6_readNet 75 rfl) (tgt := 154) (by decide) ?_ ?_
      · refine on_al0 (tk_X6_readNet 76 rfl) ?_
        refine on_ldcs (show ("OppositeNets$Reader", 193, "wet", 10) ∈ on_strs by decide +kernel) (tk_X6_readNet 77 rfl) ?_
        refine on_cV1z 6 ms_X6_isWord kw_3_37 rfl rfl (ltc_52 hN) sh_52 (ct_X6_isWord hN (by decide)) rfl (tk_X6_readNet 78 rfl) fun v24 σ25 => ?_
        refine on_if_eq (tk_X6_readNet 79 rfl) (tgt := 154) (by decide) ?_ ?_
        · refine on_iconst (tk_X6_readNet 80 rfl) ?_
          refine on_goto (tk_X6_readNet 81 rfl) (tgt := 155) (by decide) ?_
          exact gb_X6_readNet_155 X  hN _ _ _ _ _
        · exact gb_X6_readNet_154 X  hN _ _ _ _
      · exact gb_X6_readNet_154 X  hN _ _ _ _
set_option maxRecDepth 100000 in
set_option maxHeartbeats 4000000 in
theorem gb_X6_readNet_67 {E : on_E} {z n : Nat} (X : on_X) (hN : 100 ≤ n) (l1 : Int) (l2 : Int) (σ : on_S) : on_G X E cX6_readNet RX6 none 6 128 5 z n σ (pf_X6_readNet_67 l1 l2 σ) 67 [some (.ref (z + 52)), some (.int (on_i l1)), some (.int (on_i l2)), none, none] [] := by
  rw [pf_X6_readNet_67]
  refine on_al0 (tk_X6_readNet 36 rfl) ?_
  refine on_ldcs (show ("OppositeNets$Reader", 187, "knots", 8) ∈ on_strs by decide +kernel) (tk_X6_readNet 37 rfl) ?_
  refine on_cV1v 6 ms_X6_needWord kw_3_33 rfl rfl (ltc_52 hN) sh_52 (ct_X6_needWord hN (by decide)) rfl (tk_X6_readNet 38 rfl) fun v13 σ14 => ?_
  refine on_iconst (tk_X6_readNet 39 rfl) ?_
  refine on_is3 rfl (tk_X6_readNet 40 rfl) ?_
  exact gl_X6_readNet_75 X  hN on_N _ _ _ _
set_option maxRecDepth 100000 in
set_option maxHeartbeats 4000000 in
theorem gb_X6_readNet_64 {E : on_E} {z n : Nat} (X : on_X) (hN : 100 ≤ n) (l1 : Int) (l2 : Int) (s1 : Int) (σ : on_S) : on_G X E cX6_readNet RX6 none 6 128 5 z n σ (pf_X6_readNet_64 l1 l2 s1 σ) 64 [some (.ref (z + 52)), some (.int (on_i l1)), some (.int (on_i l2)), none, none] [.int (on_i s1), .ref (z + 52)] := by
  rw [pf_X6_readNet_64]
  refine on_cV1v 6 ms_X6_needAsSaid kw_3_128 rfl rfl (ltc_52 hN) sh_52 (ct_X6_needAsSaid hN) rfl (tk_X6_readNet 35 rfl) fun v11 σ12 => ?_
  exact gb_X6_readNet_67 X  hN _ _ _
set_option maxRecDepth 100000 in
set_option maxHeartbeats 4000000 in
theorem ct_X6_readNet {E : on_E} {z n : Nat} (hN : 100 ≤ n) {σ : on_S} : on_Sp E yX6_readNet cX6_readNet 5 none 6 128 z n [.ref (z + 52)] σ (pf_X6_readNet  σ) := by
  refine on_met [some (.ref (z + 52)), none, none, none, none] (by decide) rfl rfl (fun X => ?_)
  rw [pf_X6_readNet]
  refine on_al0 (tk_X6_readNet 0 rfl) ?_
  refine fg_6_1 hN kw_2_0 (tk_X6_readNet 1 rfl) ?_
  refine fg_9_13 (on_Sb27 hN) kw_1_196 (tk_X6_readNet 2 rfl) ?_
  refine fg_4_0 (on_Sb27 hN) kw_1_89 (tk_X6_readNet 3 rfl) fun v1 => ?_
  refine on_is1 rfl (tk_X6_readNet 4 rfl) ?_
  refine on_al0 (tk_X6_readNet 5 rfl) ?_
  refine on_il1 (tk_X6_readNet 6 rfl) ?_
  refine on_iconst (tk_X6_readNet 7 rfl) ?_
  refine on_cV2v 6 ms_X6_needRoom kw_3_104 rfl rfl (ltc_52 hN) sh_52 (ct_X6_needRoom hN) rfl (tk_X6_readNet 8 rfl) fun v2 σ3 => ?_
  refine on_al0 (tk_X6_readNet 9 rfl) ?_
  refine on_ldcs (show ("OppositeNets$Reader", 178, "at", 7) ∈ on_strs by decide +kernel) (tk_X6_readNet 10 rfl) ?_
  refine on_cV1v 6 ms_X6_needWord kw_3_33 rfl rfl (ltc_52 hN) sh_52 (ct_X6_needWord hN (by decide)) rfl (tk_X6_readNet 11 rfl) fun v4 σ5 => ?_
  refine on_al0 (tk_X6_readNet 12 rfl) ?_
  refine on_iconst (tk_X6_readNet 13 rfl) ?_
  refine on_al0 (tk_X6_readNet 14 rfl) ?_
  refine fg_6_1 hN kw_2_0 (tk_X6_readNet 15 rfl) ?_
  refine fg_9_3 (on_Sb27 hN) kw_1_164 (tk_X6_readNet 16 rfl) fun v6 => ?_
  refine on_iconst (tk_X6_readNet 17 rfl) ?_
  refine on_isub (tk_X6_readNet 18 rfl) ?_
  refine on_cV2i 6 ms_X6_needNumber kw_3_94 rfl rfl (ltc_52 hN) sh_52 (ct_X6_needNumber hN) rfl (tk_X6_readNet 19 rfl) fun v7 σ8 => ?_
  refine on_is2 rfl (tk_X6_readNet 20 rfl) ?_
  refine on_al0 (tk_X6_readNet 21 rfl) ?_
  refine fg_6_8 hN kw_2_7 (tk_X6_readNet 22 rfl) fun v9 => ?_
  refine on_if_ne (tk_X6_readNet 23 rfl) (tgt := 67) (by decide) ?_ ?_
  · refine on_al0 (tk_X6_readNet 24 rfl) ?_
    refine on_al0 (tk_X6_readNet 25 rfl) ?_
    refine fg_6_1 hN kw_2_0 (tk_X6_readNet 26 rfl) ?_
    refine fg_9_6 (on_Sb27 hN) kw_1_172 (tk_X6_readNet 27 rfl) ?_
    refine on_il2 (tk_X6_readNet 28 rfl) ?_
    refine on_iald (ltS_3 (on_Sb27 hN)) (shS_3 (on_Sb27 hN)) (tk_X6_readNet 29 rfl) fun v10 => ?_
    refine on_iconst (tk_X6_readNet 30 rfl) ?_
    refine on_icmp_ne (tk_X6_readNet 31 rfl) (tgt := 63) (by decide) ?_ ?_
    · refine on_iconst (tk_X6_readNet 32 rfl) ?_
      refine on_goto (tk_X6_readNet 33 rfl) (tgt := 64) (by decide) ?_
      exact gb_X6_readNet_64 X  hN _ _ _ _
    · refine on_iconst (tk_X6_readNet 34 rfl) ?_
      exact gb_X6_readNet_64 X  hN _ _ _ _
  · exact gb_X6_readNet_67 X  hN _ _ _
def tb_X6_readStands : List (Nat × Nat × Nat × Instr) := [(0, 1, 1, .aload_n 0), (1, 3, 4, .invokevirtual 43), (4, 1, 5, .aload_n 0), (5, 1, 6, .iconst 0), (6, 1, 7, .aload_n 0), (7, 3, 10, .getfield 19), (10, 3, 13, .getfield 157), (13, 3, 16, .getfield 161), (16, 1, 17, .iconst 1), (17, 1, 18, .isub), (18, 3, 21, .invokevirtual 139), (21, 1, 22, .istore_n 1), (22, 1, 23, .aload_n 0), (23, 3, 26, .getfield 35), (26, 3, 29, .ifCond .ne 28), (29, 1, 30, .aload_n 0), (30, 1, 31, .aload_n 0), (31, 3, 34, .getfield 19), (34, 3, 37, .getfield 157), (37, 3, 40, .getfield 201), (40, 1, 41, .iload_n 1), (41, 1, 42, .iaload), (42, 1, 43, .iconst (-1)), (43, 3, 46, .if_icmp .ne 7), (46, 1, 47, .iconst 1), (47, 3, 50, .goto 4), (50, 1, 51, .iconst 0), (51, 3, 54, .invokevirtual 183), (54, 1, 55, .aload_n 0), (55, 2, 57, .ldc 178), (57, 3, 60, .invokevirtual 133), (60, 1, 61, .aload_n 0), (61, 1, 62, .iconst 0), (62, 1, 63, .aload_n 0), (63, 3, 66, .getfield 19), (66, 3, 69, .getfield 171), (69, 3, 72, .getfield 175), (72, 1, 73, .iconst 1), (73, 1, 74, .isub), (74, 3, 77, .invokevirtual 139), (77, 1, 78, .istore_n 2), (78, 1, 79, .aload_n 0), (79, 1, 80, .iconst 0), (80, 1, 81, .iconst 3), (81, 3, 84, .invokevirtual 139), (84, 1, 85, .istore_n 3), (85, 1, 86, .aload_n 0), (86, 3, 89, .getfield 35), (89, 3, 92, .ifCond .ne 32), (92, 1, 93, .aload_n 0), (93, 1, 94, .aload_n 0), (94, 3, 97, .getfield 19), (97, 3, 100, .getfield 171), (100, 3, 103, .getfield 203), (103, 1, 104, .iload_n 2), (104, 1, 105, .iconst 4), (105, 1, 106, .imul), (106, 1, 107, .iload_n 3), (107, 1, 108, .iadd), (108, 1, 109, .iaload), (109, 1, 110, .iconst (-1)), (110, 3, 113, .if_icmp .ne 7), (113, 1, 114, .iconst 1), (114, 3, 117, .goto 4), (117, 1, 118, .iconst 0), (118, 3, 121, .invokevirtual 183), (121, 1, 122, .aload_n 0), (122, 3, 125, .getfield 35), (125, 3, 128, .ifCond .ne 13), (128, 1, 129, .aload_n 0), (129, 3, 132, .getfield 19), (132, 1, 133, .iload_n 1), (133, 1, 134, .iload_n 2), (134, 1, 135, .iload_n 3), (135, 3, 138, .invokevirtual 206), (138, 1, 139, .return_)]
set_option maxRecDepth 100000 in
theorem tk_X6_readStands (k : Nat) {pc n pc2 : Nat} {i : Instr} (hk : tb_X6_readStands[k]? = some (pc, n, pc2, i)) : on_dq cX6_readStands pc n pc2 i := on_ta (by decide +kernel) k hk
theorem ms_X6_readStands : on_Mv yX6_readStands cX6_readStands 4 none 0 := ⟨kw_3_139, kw_3_137, kw_3_138, kw_1_6, by decide, by decide, by decide +kernel⟩
def pf_X6_readStands_121 (l1 : Int) (l2 : Int) (l3 : Int) (σ : on_S) : Option on_O :=
  on_Gt σ 52 8 fun v21 =>
  on_Eq v21 0 (
    on_Cl (pf_X9_putAt 27 l1 l2 l3 σ) fun _ σ23 =>
    some (0, σ23)) (
    some (0, σ))
def pf_X6_readStands_118 (l1 : Int) (l2 : Int) (l3 : Int) (s1 : Int) (σ : on_S) : Option on_O :=
  on_Cl (pf_X6_needAsSaid s1 σ) fun _ σ20 =>
  pf_X6_readStands_121 l1 l2 l3 σ20
def pf_X6_readStands_54 (l1 : Int) (σ : on_S) : Option on_O :=
  on_Cl (pf_X6_needWord 7 σ) fun _ σ11 =>
  on_Gt σ11 (27 + 14) 0 fun v12 =>
  on_Cl (pf_X6_needNumber 0 (v12 - 1) σ11) fun v13 σ14 =>
  on_Cl (pf_X6_needNumber 0 3 σ14) fun v15 σ16 =>
  on_Gt σ16 52 8 fun v17 =>
  on_Eq v17 0 (
    on_Rd σ16 (27 + 19) 8 ((v13 * 4) + v15) fun v18 =>
    on_Eq v18 (-1) (
      pf_X6_readStands_118 l1 v13 v15 1 σ16) (
      pf_X6_readStands_118 l1 v13 v15 0 σ16)) (
    pf_X6_readStands_121 l1 v13 v15 σ16)
def pf_X6_readStands_51 (l1 : Int) (s1 : Int) (σ : on_S) : Option on_O :=
  on_Cl (pf_X6_needAsSaid s1 σ) fun _ σ9 =>
  pf_X6_readStands_54 l1 σ9
def pf_X6_readStands (σ : on_S) : Option on_O :=
  on_Cl (pf_X6_readToken σ) fun _ σ2 =>
  on_Gt σ2 (27 + 8) 0 fun v3 =>
  on_Cl (pf_X6_needNumber 0 (v3 - 1) σ2) fun v4 σ5 =>
  on_Gt σ5 52 8 fun v6 =>
  on_Eq v6 0 (
    on_Rd σ5 (27 + 11) 9 v4 fun v7 =>
    on_Eq v7 (-1) (
      pf_X6_readStands_51 v4 1 σ5) (
      pf_X6_readStands_51 v4 0 σ5)) (
    pf_X6_readStands_54 v4 σ5)
set_option maxRecDepth 100000 in
set_option maxHeartbeats 4000000 in
theorem gb_X6_readStands_121 {E : on_E} {z n : Nat} (X : on_X) (hN : 100 ≤ n) (l1 : Int) (l2 : Int) (l3 : Int) (σ : on_S) : on_G X E cX6_readStands RX6 none 6 128 4 z n σ (pf_X6_readStands_121 l1 l2 l3 σ) 121 [some (.ref (z + 52)), some (.int (on_i l1)), some (.int (on_i l2)), some (.int (on_i l3))] [] := by
  rw [pf_X6_readStands_121]
  refine on_al0 (tk_X6_readStands 66 rfl) ?_
  refine fg_6_8 hN kw_2_7 (tk_X6_readStands 67 rfl) fun v21 => ?_
  refine on_if_ne (tk_X6_readStands 68 rfl) (tgt := 138) (by decide) ?_ ?_
  · refine on_al0 (tk_X6_readStands 69 rfl) ?_
    refine fg_6_1 hN kw_2_0 (tk_X6_readStands 70 rfl) ?_
    refine on_il1 (tk_X6_readStands 71 rfl) ?_
    refine on_il2 (tk_X6_readStands 72 rfl) ?_
    refine on_il3 (tk_X6_readStands 73 rfl) ?_
    refine on_cV3v 9 ms_X9_putAt kw_3_140 rfl rfl (ltS_0 (on_Sb27 hN)) (shS_0 (on_Sb27 hN)) (ct_X9_putAt hN (on_Sb27 hN)) rfl (tk_X6_readStands 74 rfl) fun v22 σ23 => ?_
    exact on_vret (tk_X6_readStands 75 rfl)
  · exact on_vret (tk_X6_readStands 75 rfl)
set_option maxRecDepth 100000 in
set_option maxHeartbeats 4000000 in
theorem gb_X6_readStands_118 {E : on_E} {z n : Nat} (X : on_X) (hN : 100 ≤ n) (l1 : Int) (l2 : Int) (l3 : Int) (s1 : Int) (σ : on_S) : on_G X E cX6_readStands RX6 none 6 128 4 z n σ (pf_X6_readStands_118 l1 l2 l3 s1 σ) 118 [some (.ref (z + 52)), some (.int (on_i l1)), some (.int (on_i l2)), some (.int (on_i l3))] [.int (on_i s1), .ref (z + 52)] := by
  rw [pf_X6_readStands_118]
  refine on_cV1v 6 ms_X6_needAsSaid kw_3_128 rfl rfl (ltc_52 hN) sh_52 (ct_X6_needAsSaid hN) rfl (tk_X6_readStands 65 rfl) fun v19 σ20 => ?_
  exact gb_X6_readStands_121 X  hN _ _ _ _
set_option maxRecDepth 100000 in
set_option maxHeartbeats 4000000 in
theorem gb_X6_readStands_54 {E : on_E} {z n : Nat} (X : on_X) (hN : 100 ≤ n) (l1 : Int) (σ : on_S) : on_G X E cX6_readStands RX6 none 6 128 4 z n σ (pf_X6_readStands_54 l1 σ) 54 [some (.ref (z + 52)), some (.int (on_i l1)), none, none] [] := by
  rw [pf_X6_readStands_54]
  refine on_al0 (tk_X6_readStands 28 rfl) ?_
  refine on_ldcs (show ("OppositeNets$Reader", 178, "at", 7) ∈ on_strs by decide +kernel) (tk_X6_readStands 29 rfl) ?_
  refine on_cV1v 6 ms_X6_needWord kw_3_33 rfl rfl (ltc_52 hN) sh_52 (ct_X6_needWord hN (by decide)) rfl (tk_X6_readStands 30 rfl) fun v10 σ11 => ?_
  refine on_al0 (tk_X6_readStands 31 rfl) ?_
  refine on_iconst (tk_X6_readStands 32 rfl) ?_
  refine on_al0 (tk_X6_readStands 33 rfl) ?_
  refine fg_6_1 hN kw_2_0 (tk_X6_readStands 34 rfl) ?_
  refine fg_9_13 (on_Sb27 hN) kw_1_196 (tk_X6_readStands 35 rfl) ?_
  refine fg_4_0 (on_Sb27 hN) kw_1_89 (tk_X6_readStands 36 rfl) fun v12 => ?_
  refine on_iconst (tk_X6_readStands 37 rfl) ?_
  refine on_isub (tk_X6_readStands 38 rfl) ?_
  refine on_cV2i 6 ms_X6_needNumber kw_3_94 rfl rfl (ltc_52 hN) sh_52 (ct_X6_needNumber hN) rfl (tk_X6_readStands 39 rfl) fun v13 σ14 => ?_
  refine on_is2 rfl (tk_X6_readStands 40 rfl) ?_
  refine on_al0 (tk_X6_readStands 41 rfl) ?_
  refine on_iconst (tk_X6_readStands 42 rfl) ?_
  refine on_iconst (tk_X6_readStands 43 rfl) ?_
  refine on_cV2i 6 ms_X6_needNumber kw_3_94 rfl rfl (ltc_52 hN) sh_52 (ct_X6_needNumber hN) rfl (tk_X6_readStands 44 rfl) fun v15 σ16 => ?_
  refine on_is3 rfl (tk_X6_readStands 45 rfl) ?_
  refine on_al0 (tk_X6_readStands 46 rfl) ?_
  refine fg_6_8 hN kw_2_7 (tk_X6_readStands 47 rfl) fun v17 => ?_
  refine on_if_ne (tk_X6_readStands 48 rfl) (tgt := 121) (by decide) ?_ ?_
  · refine on_al0 (tk_X6_readStands 49 rfl) ?_
    refine on_al0 (tk_X6_readStands 50 rfl) ?_
    refine fg_6_1 hN kw_2_0 (tk_X6_readStands 51 rfl) ?_
    refine fg_9_13 (on_Sb27 hN) kw_1_196 (tk_X6_readStands 52 rfl) ?_
    refine fg_4_5 (on_Sb27 hN) kw_1_113 (tk_X6_readStands 53 rfl) ?_
    refine on_il2 (tk_X6_readStands 54 rfl) ?_
    refine on_iconst (tk_X6_readStands 55 rfl) ?_
    refine on_imul (tk_X6_readStands 56 rfl) ?_
    refine on_il3 (tk_X6_readStands 57 rfl) ?_
    refine on_iadd (tk_X6_readStands 58 rfl) ?_
    refine on_iald (ltS_19 (on_Sb27 hN)) (shS_19 (on_Sb27 hN)) (tk_X6_readStands 59 rfl) fun v18 => ?_
    refine on_iconst (tk_X6_readStands 60 rfl) ?_
    refine on_icmp_ne (tk_X6_readStands 61 rfl) (tgt := 117) (by decide) ?_ ?_
    · refine on_iconst (tk_X6_readStands 62 rfl) ?_
      refine on_goto (tk_X6_readStands 63 rfl) (tgt := 118) (by decide) ?_
      exact gb_X6_readStands_118 X  hN _ _ _ _ _
    · refine on_iconst (tk_X6_readStands 64 rfl) ?_
      exact gb_X6_readStands_118 X  hN _ _ _ _ _
  · exact gb_X6_readStands_121 X  hN _ _ _ _
set_option maxRecDepth 100000 in
set_option maxHeartbeats 4000000 in
theorem gb_X6_readStands_51 {E : on_E} {z n : Nat} (X : on_X) (hN : 100 ≤ n) (l1 : Int) (s1 : Int) (σ : on_S) : on_G X E cX6_readStands RX6 none 6 128 4 z n σ (pf_X6_readStands_51 l1 s1 σ) 51 [some (.ref (z + 52)), some (.int (on_i l1)), none, none] [.int (on_i s1), .ref (z + 52)] := by
  rw [pf_X6_readStands_51]
  refine on_cV1v 6 ms_X6_needAsSaid kw_3_128 rfl rfl (ltc_52 hN) sh_52 (ct_X6_needAsSaid hN) rfl (tk_X6_readStands 27 rfl) fun v8 σ9 => ?_
  exact gb_X6_readStands_54 X  hN _ _
set_option maxRecDepth 100000 in
set_option maxHeartbeats 4000000 in
theorem ct_X6_readStands {E : on_E} {z n : Nat} (hN : 100 ≤ n) {σ : on_S} : on_Sp E yX6_readStands cX6_readStands 4 none 6 128 z n [.ref (z + 52)] σ (pf_X6_readStands  σ) := by
  refine on_met [some (.ref (z + 52)), none, none, none] (by decide) rfl rfl (fun X => ?_)
  rw [pf_X6_readStands]
  refine on_al0 (tk_X6_readStands 0 rfl) ?_
  refine on_cV0v 6 ms_X6_readToken kw_3_16 rfl rfl (ltc_52 hN) sh_52 (ct_X6_readToken hN) rfl (tk_X6_readStands 1 rfl) fun v1 σ2 => ?_
  refine on_al0 (tk_X6_readStands 2 rfl) ?_
  refine on_iconst (tk_X6_readStands 3 rfl) ?_
  refine on_al0 (tk_X6_readStands 4 rfl) ?_
  refine fg_6_1 hN kw_2_0 (tk_X6_readStands 5 rfl) ?_
  refine fg_9_12 (on_Sb27 hN) kw_1_189 (tk_X6_readStands 6 rfl) ?_
  refine fg_3_0 (on_Sb27 hN) kw_1_46 (tk_X6_readStands 7 rfl) fun v3 => ?_
  refine on_iconst (tk_X6_readStands 8 rfl) ?_
  refine on_isub (tk_X6_readStands 9 rfl) ?_
  refine on_cV2i 6 ms_X6_needNumber kw_3_94 rfl rfl (ltc_52 hN) sh_52 (ct_X6_needNumber hN) rfl (tk_X6_readStands 10 rfl) fun v4 σ5 => ?_
  refine on_is1 rfl (tk_X6_readStands 11 rfl) ?_
  refine on_al0 (tk_X6_readStands 12 rfl) ?_
  refine fg_6_8 hN kw_2_7 (tk_X6_readStands 13 rfl) fun v6 => ?_
  refine on_if_ne (tk_X6_readStands 14 rfl) (tgt := 54) (by decide) ?_ ?_
  · refine on_al0 (tk_X6_readStands 15 rfl) ?_
    refine on_al0 (tk_X6_readStands 16 rfl) ?_
    refine fg_6_1 hN kw_2_0 (tk_X6_readStands 17 rfl) ?_
    refine fg_9_12 (on_Sb27 hN) kw_1_189 (tk_X6_readStands 18 rfl) ?_
    refine fg_3_3 (on_Sb27 hN) kw_1_58 (tk_X6_readStands 19 rfl) ?_
    refine on_il1 (tk_X6_readStands 20 rfl) ?_
    refine on_iald (ltS_11 (on_Sb27 hN)) (shS_11 (on_Sb27 hN)) (tk_X6_readStands 21 rfl) fun v7 => ?_
    refine on_iconst (tk_X6_readStands 22 rfl) ?_
    refine on_icmp_ne (tk_X6_readStands 23 rfl) (tgt := 50) (by decide) ?_ ?_
    · refine on_iconst (tk_X6_readStands 24 rfl) ?_
      refine on_goto (tk_X6_readStands 25 rfl) (tgt := 51) (by decide) ?_
      exact gb_X6_readStands_51 X  hN _ _ _
    · refine on_iconst (tk_X6_readStands 26 rfl) ?_
      exact gb_X6_readStands_51 X  hN _ _ _
  · exact gb_X6_readStands_54 X  hN _ _
def tb_X6_readQuarrel : List (Nat × Nat × Nat × Instr) := [(0, 1, 1, .aload_n 0), (1, 3, 4, .invokevirtual 43), (4, 1, 5, .aload_n 0), (5, 1, 6, .iconst 0), (6, 1, 7, .aload_n 0), (7, 3, 10, .getfield 19), (10, 3, 13, .getfield 157), (13, 3, 16, .getfield 161), (16, 1, 17, .iconst 1), (17, 1, 18, .isub), (18, 3, 21, .invokevirtual 139), (21, 1, 22, .istore_n 1), (22, 1, 23, .aload_n 0), (23, 1, 24, .iconst 0), (24, 1, 25, .aload_n 0), (25, 3, 28, .getfield 19), (28, 3, 31, .getfield 157), (31, 3, 34, .getfield 161), (34, 1, 35, .iconst 1), (35, 1, 36, .isub), (36, 3, 39, .invokevirtual 139), (39, 1, 40, .istore_n 2), (40, 1, 41, .aload_n 0), (41, 3, 44, .getfield 35), (44, 3, 47, .ifCond .ne 17), (47, 1, 48, .aload_n 0), (48, 1, 49, .iload_n 1), (49, 1, 50, .iload_n 2), (50, 3, 53, .if_icmp .eq 7), (53, 1, 54, .iconst 1), (54, 3, 57, .goto 4), (57, 1, 58, .iconst 0), (58, 3, 61, .invokevirtual 183), (61, 1, 62, .aload_n 0), (62, 1, 63, .iconst 1), (63, 2, 65, .bipush 9), (65, 3, 68, .invokevirtual 139), (68, 1, 69, .istore_n 3), (69, 1, 70, .aload_n 0), (70, 3, 73, .getfield 35), (73, 3, 76, .ifCond .ne 16), (76, 1, 77, .aload_n 0), (77, 3, 80, .getfield 19), (80, 3, 83, .getfield 157), (83, 1, 84, .iload_n 1), (84, 1, 85, .iload_n 2), (85, 1, 86, .iload_n 3), (86, 3, 89, .invokevirtual 210), (89, 1, 90, .return_)]
set_option maxRecDepth 100000 in
theorem tk_X6_readQuarrel (k : Nat) {pc n pc2 : Nat} {i : Instr} (hk : tb_X6_readQuarrel[k]? = some (pc, n, pc2, i)) : on_dq cX6_readQuarrel pc n pc2 i := on_ta (by decide +kernel) k hk
theorem ms_X6_readQuarrel : on_Mv yX6_readQuarrel cX6_readQuarrel 4 none 0 := ⟨kw_3_148, kw_3_146, kw_3_147, kw_1_6, by decide, by decide, by decide +kernel⟩
def pf_X6_readQuarrel_61 (l1 : Int) (l2 : Int) (σ : on_S) : Option on_O :=
  on_Cl (pf_X6_needNumber 1 9 σ) fun v12 σ13 =>
  on_Gt σ13 52 8 fun v14 =>
  on_Eq v14 0 (
    on_Cl (pf_X3_setQuarrel 27 l1 l2 v12 σ13) fun _ σ16 =>
    some (0, σ16)) (
    some (0, σ13))
def pf_X6_readQuarrel_58 (l1 : Int) (l2 : Int) (s1 : Int) (σ : on_S) : Option on_O :=
  on_Cl (pf_X6_needAsSaid s1 σ) fun _ σ11 =>
  pf_X6_readQuarrel_61 l1 l2 σ11
def pf_X6_readQuarrel (σ : on_S) : Option on_O :=
  on_Cl (pf_X6_readToken σ) fun _ σ2 =>
  on_Gt σ2 (27 + 8) 0 fun v3 =>
  on_Cl (pf_X6_needNumber 0 (v3 - 1) σ2) fun v4 σ5 =>
  on_Gt σ5 (27 + 8) 0 fun v6 =>
  on_Cl (pf_X6_needNumber 0 (v6 - 1) σ5) fun v7 σ8 =>
  on_Gt σ8 52 8 fun v9 =>
  on_Eq v9 0 (
    on_Eq v4 v7 (
      pf_X6_readQuarrel_58 v4 v7 0 σ8) (
      pf_X6_readQuarrel_58 v4 v7 1 σ8)) (
    pf_X6_readQuarrel_61 v4 v7 σ8)
set_option maxRecDepth 100000 in
set_option maxHeartbeats 4000000 in
theorem gb_X6_readQuarrel_61 {E : on_E} {z n : Nat} (X : on_X) (hN : 100 ≤ n) (l1 : Int) (l2 : Int) (σ : on_S) : on_G X E cX6_readQuarrel RX6 none 3 66 4 z n σ (pf_X6_readQuarrel_61 l1 l2 σ) 61 [some (.ref (z + 52)), some (.int (on_i l1)), some (.int (on_i l2)), none] [] := by
  rw [pf_X6_readQuarrel_61]
  refine on_al0 (tk_X6_readQuarrel 33 rfl) ?_
  refine on_iconst (tk_X6_readQuarrel 34 rfl) ?_
  refine on_bipush (tk_X6_readQuarrel 35 rfl) bp_9 ?_
  refine on_cV2i 6 ms_X6_needNumber kw_3_94 rfl rfl (ltc_52 hN) sh_52 (ct_X6_needNumber hN) rfl (tk_X6_readQuarrel 36 rfl) fun v12 σ13 => ?_
  refine on_is3 rfl (tk_X6_readQuarrel 37 rfl) ?_
  refine on_al0 (tk_X6_readQuarrel 38 rfl) ?_
  refine fg_6_8 hN kw_2_7 (tk_X6_readQuarrel 39 rfl) fun v14 => ?_
  refine on_if_ne (tk_X6_readQuarrel 40 rfl) (tgt := 89) (by decide) ?_ ?_
  · refine on_al0 (tk_X6_readQuarrel 41 rfl) ?_
    refine fg_6_1 hN kw_2_0 (tk_X6_readQuarrel 42 rfl) ?_
    refine fg_9_12 (on_Sb27 hN) kw_1_189 (tk_X6_readQuarrel 43 rfl) ?_
    refine on_il1 (tk_X6_readQuarrel 44 rfl) ?_
    refine on_il2 (tk_X6_readQuarrel 45 rfl) ?_
    refine on_il3 (tk_X6_readQuarrel 46 rfl) ?_
    refine on_cV3v 3 ms_X3_setQuarrel kw_3_149 rfl rfl (ltS_8 (on_Sb27 hN)) (shS_8 (on_Sb27 hN)) (ct_X3_setQuarrel hN (on_Sb27 hN)) rfl (tk_X6_readQuarrel 47 rfl) fun v15 σ16 => ?_
    exact on_vret (tk_X6_readQuarrel 48 rfl)
  · exact on_vret (tk_X6_readQuarrel 48 rfl)
set_option maxRecDepth 100000 in
set_option maxHeartbeats 4000000 in
theorem gb_X6_readQuarrel_58 {E : on_E} {z n : Nat} (X : on_X) (hN : 100 ≤ n) (l1 : Int) (l2 : Int) (s1 : Int) (σ : on_S) : on_G X E cX6_readQuarrel RX6 none 3 66 4 z n σ (pf_X6_readQuarrel_58 l1 l2 s1 σ) 58 [some (.ref (z + 52)), some (.int (on_i l1)), some (.int (on_i l2)), none] [.int (on_i s1), .ref (z + 52)] := by
  rw [pf_X6_readQuarrel_58]
  refine on_cV1v 6 ms_X6_needAsSaid kw_3_128 rfl rfl (ltc_52 hN) sh_52 (ct_X6_needAsSaid hN) rfl (tk_X6_readQuarrel 32 rfl) fun v10 σ11 => ?_
  exact gb_X6_readQuarrel_61 X  hN _ _ _
set_option maxRecDepth 100000 in
set_option maxHeartbeats 4000000 in
theorem ct_X6_readQuarrel {E : on_E} {z n : Nat} (hN : 100 ≤ n) {σ : on_S} : on_Sp E yX6_readQuarrel cX6_readQuarrel 4 none 3 66 z n [.ref (z + 52)] σ (pf_X6_readQuarrel  σ) := by
  refine on_met [some (.ref (z + 52)), none, none, none] (by decide) rfl rfl (fun X => ?_)
  rw [pf_X6_readQuarrel]
  refine on_al0 (tk_X6_readQuarrel 0 rfl) ?_
  refine on_cV0v 6 ms_X6_readToken kw_3_16 rfl rfl (ltc_52 hN) sh_52 (ct_X6_readToken hN) rfl (tk_X6_readQuarrel 1 rfl) fun v1 σ2 => ?_
  refine on_al0 (tk_X6_readQuarrel 2 rfl) ?_
  refine on_iconst (tk_X6_readQuarrel 3 rfl) ?_
  refine on_al0 (tk_X6_readQuarrel 4 rfl) ?_
  refine fg_6_1 hN kw_2_0 (tk_X6_readQuarrel 5 rfl) ?_
  refine fg_9_12 (on_Sb27 hN) kw_1_189 (tk_X6_readQuarrel 6 rfl) ?_
  refine fg_3_0 (on_Sb27 hN) kw_1_46 (tk_X6_readQuarrel 7 rfl) fun v3 => ?_
  refine on_iconst (tk_X6_readQuarrel 8 rfl) ?_
  refine on_isub (tk_X6_readQuarrel 9 rfl) ?_
  refine on_cV2i 6 ms_X6_needNumber kw_3_94 rfl rfl (ltc_52 hN) sh_52 (ct_X6_needNumber hN) rfl (tk_X6_readQuarrel 10 rfl) fun v4 σ5 => ?_
  refine on_is1 rfl (tk_X6_readQuarrel 11 rfl) ?_
  refine on_al0 (tk_X6_readQuarrel 12 rfl) ?_
  refine on_iconst (tk_X6_readQuarrel 13 rfl) ?_
  refine on_al0 (tk_X6_readQuarrel 14 rfl) ?_
  refine fg_6_1 hN kw_2_0 (tk_X6_readQuarrel 15 rfl) ?_
  refine fg_9_12 (on_Sb27 hN) kw_1_189 (tk_X6_readQuarrel 16 rfl) ?_
  refine fg_3_0 (on_Sb27 hN) kw_1_46 (tk_X6_readQuarrel 17 rfl) fun v6 => ?_
  refine on_iconst (tk_X6_readQuarrel 18 rfl) ?_
  refine on_isub (tk_X6_readQuarrel 19 rfl) ?_
  refine on_cV2i 6 ms_X6_needNumber kw_3_94 rfl rfl (ltc_52 hN) sh_52 (ct_X6_needNumber hN) rfl (tk_X6_readQuarrel 20 rfl) fun v7 σ8 => ?_
  refine on_is2 rfl (tk_X6_readQuarrel 21 rfl) ?_
  refine on_al0 (tk_X6_readQuarrel 22 rfl) ?_
  refine fg_6_8 hN kw_2_7 (tk_X6_readQuarrel 23 rfl) fun v9 => ?_
  refine on_if_ne (tk_X6_readQuarrel 24 rfl) (tgt := 61) (by decide) ?_ ?_
  · refine on_al0 (tk_X6_readQuarrel 25 rfl) ?_
    refine on_il1 (tk_X6_readQuarrel 26 rfl) ?_
    refine on_il2 (tk_X6_readQuarrel 27 rfl) ?_
    refine on_icmp_eq (tk_X6_readQuarrel 28 rfl) (tgt := 57) (by decide) ?_ ?_
    · refine on_iconst (tk_X6_readQuarrel 29 rfl) ?_
      refine on_goto (tk_X6_readQuarrel 30 rfl) (tgt := 58) (by decide) ?_
      exact gb_X6_readQuarrel_58 X  hN _ _ _ _
    · refine on_iconst (tk_X6_readQuarrel 31 rfl) ?_
      exact gb_X6_readQuarrel_58 X  hN _ _ _ _
  · exact gb_X6_readQuarrel_61 X  hN _ _ _
def tb_X6_readFeud : List (Nat × Nat × Nat × Instr) := [(0, 1, 1, .aload_n 0), (1, 3, 4, .invokevirtual 43), (4, 1, 5, .aload_n 0), (5, 1, 6, .iconst 0), (6, 1, 7, .aload_n 0), (7, 3, 10, .getfield 19), (10, 3, 13, .getfield 142), (13, 1, 14, .iconst 1), (14, 1, 15, .isub), (15, 3, 18, .invokevirtual 139), (18, 1, 19, .istore_n 1), (19, 1, 20, .aload_n 0), (20, 1, 21, .iconst 0), (21, 1, 22, .aload_n 0), (22, 3, 25, .getfield 19), (25, 3, 28, .getfield 142), (28, 1, 29, .iconst 1), (29, 1, 30, .isub), (30, 3, 33, .invokevirtual 139), (33, 1, 34, .istore_n 2), (34, 1, 35, .aload_n 0), (35, 3, 38, .getfield 35), (38, 3, 41, .ifCond .ne 17), (41, 1, 42, .aload_n 0), (42, 1, 43, .iload_n 1), (43, 1, 44, .iload_n 2), (44, 3, 47, .if_icmp .eq 7), (47, 1, 48, .iconst 1), (48, 3, 51, .goto 4), (51, 1, 52, .iconst 0), (52, 3, 55, .invokevirtual 183), (55, 1, 56, .aload_n 0), (56, 3, 59, .getfield 35), (59, 3, 62, .ifCond .ne 13), (62, 1, 63, .aload_n 0), (63, 3, 66, .getfield 19), (66, 1, 67, .iload_n 1), (67, 1, 68, .iload_n 2), (68, 1, 69, .iconst 1), (69, 3, 72, .invokevirtual 213), (72, 1, 73, .return_)]
set_option maxRecDepth 100000 in
theorem tk_X6_readFeud (k : Nat) {pc n pc2 : Nat} {i : Instr} (hk : tb_X6_readFeud[k]? = some (pc, n, pc2, i)) : on_dq cX6_readFeud pc n pc2 i := on_ta (by decide +kernel) k hk
theorem ms_X6_readFeud : on_Mv yX6_readFeud cX6_readFeud 3 none 0 := ⟨kw_3_157, kw_3_155, kw_3_156, kw_1_6, by decide, by decide, by decide +kernel⟩
def pf_X6_readFeud_55 (l1 : Int) (l2 : Int) (σ : on_S) : Option on_O :=
  on_Gt σ 52 8 fun v12 =>
  on_Eq v12 0 (
    on_Cl (pf_X9_setFeud 27 l1 l2 1 σ) fun _ σ14 =>
    some (0, σ14)) (
    some (0, σ))
def pf_X6_readFeud_52 (l1 : Int) (l2 : Int) (s1 : Int) (σ : on_S) : Option on_O :=
  on_Cl (pf_X6_needAsSaid s1 σ) fun _ σ11 =>
  pf_X6_readFeud_55 l1 l2 σ11
def pf_X6_readFeud (σ : on_S) : Option on_O :=
  on_Cl (pf_X6_readToken σ) fun _ σ2 =>
  on_Gt σ2 27 0 fun v3 =>
  on_Cl (pf_X6_needNumber 0 (v3 - 1) σ2) fun v4 σ5 =>
  on_Gt σ5 27 0 fun v6 =>
  on_Cl (pf_X6_needNumber 0 (v6 - 1) σ5) fun v7 σ8 =>
  on_Gt σ8 52 8 fun v9 =>
  on_Eq v9 0 (
    on_Eq v4 v7 (
      pf_X6_readFeud_52 v4 v7 0 σ8) (
      pf_X6_readFeud_52 v4 v7 1 σ8)) (
    pf_X6_readFeud_55 v4 v7 σ8)
set_option maxRecDepth 100000 in
set_option maxHeartbeats 4000000 in
theorem gb_X6_readFeud_55 {E : on_E} {z n : Nat} (X : on_X) (hN : 100 ≤ n) (l1 : Int) (l2 : Int) (σ : on_S) : on_G X E cX6_readFeud RX6 none 3 66 3 z n σ (pf_X6_readFeud_55 l1 l2 σ) 55 [some (.ref (z + 52)), some (.int (on_i l1)), some (.int (on_i l2))] [] := by
  rw [pf_X6_readFeud_55]
  refine on_al0 (tk_X6_readFeud 31 rfl) ?_
  refine fg_6_8 hN kw_2_7 (tk_X6_readFeud 32 rfl) fun v12 => ?_
  refine on_if_ne (tk_X6_readFeud 33 rfl) (tgt := 72) (by decide) ?_ ?_
  · refine on_al0 (tk_X6_readFeud 34 rfl) ?_
    refine fg_6_1 hN kw_2_0 (tk_X6_readFeud 35 rfl) ?_
    refine on_il1 (tk_X6_readFeud 36 rfl) ?_
    refine on_il2 (tk_X6_readFeud 37 rfl) ?_
    refine on_iconst (tk_X6_readFeud 38 rfl) ?_
    refine on_cV3v 9 ms_X9_setFeud kw_3_158 rfl rfl (ltS_0 (on_Sb27 hN)) (shS_0 (on_Sb27 hN)) (ct_X9_setFeud hN (on_Sb27 hN)) rfl (tk_X6_readFeud 39 rfl) fun v13 σ14 => ?_
    exact on_vret (tk_X6_readFeud 40 rfl)
  · exact on_vret (tk_X6_readFeud 40 rfl)
set_option maxRecDepth 100000 in
set_option maxHeartbeats 4000000 in
theorem gb_X6_readFeud_52 {E : on_E} {z n : Nat} (X : on_X) (hN : 100 ≤ n) (l1 : Int) (l2 : Int) (s1 : Int) (σ : on_S) : on_G X E cX6_readFeud RX6 none 3 66 3 z n σ (pf_X6_readFeud_52 l1 l2 s1 σ) 52 [some (.ref (z + 52)), some (.int (on_i l1)), some (.int (on_i l2))] [.int (on_i s1), .ref (z + 52)] := by
  rw [pf_X6_readFeud_52]
  refine on_cV1v 6 ms_X6_needAsSaid kw_3_128 rfl rfl (ltc_52 hN) sh_52 (ct_X6_needAsSaid hN) rfl (tk_X6_readFeud 30 rfl) fun v10 σ11 => ?_
  exact gb_X6_readFeud_55 X  hN _ _ _
set_option maxRecDepth 100000 in
set_option maxHeartbeats 4000000 in
theorem ct_X6_readFeud {E : on_E} {z n : Nat} (hN : 100 ≤ n) {σ : on_S} : on_Sp E yX6_readFeud cX6_readFeud 3 none 3 66 z n [.ref (z + 52)] σ (pf_X6_readFeud  σ) := by
  refine on_met [some (.ref (z + 52)), none, none] (by decide) rfl rfl (fun X => ?_)
  rw [pf_X6_readFeud]
  refine on_al0 (tk_X6_readFeud 0 rfl) ?_
  refine on_cV0v 6 ms_X6_readToken kw_3_16 rfl rfl (ltc_52 hN) sh_52 (ct_X6_readToken hN) rfl (tk_X6_readFeud 1 rfl) fun v1 σ2 => ?_
  refine on_al0 (tk_X6_readFeud 2 rfl) ?_
  refine on_iconst (tk_X6_readFeud 3 rfl) ?_
  refine on_al0 (tk_X6_readFeud 4 rfl) ?_
  refine fg_6_1 hN kw_2_0 (tk_X6_readFeud 5 rfl) ?_
  refine fg_9_0 (on_Sb27 hN) kw_1_154 (tk_X6_readFeud 6 rfl) fun v3 => ?_
  refine on_iconst (tk_X6_readFeud 7 rfl) ?_
  refine on_isub (tk_X6_readFeud 8 rfl) ?_
  refine on_cV2i 6 ms_X6_needNumber kw_3_94 rfl rfl (ltc_52 hN) sh_52 (ct_X6_needNumber hN) rfl (tk_X6_readFeud 9 rfl) fun v4 σ5 => ?_
  refine on_is1 rfl (tk_X6_readFeud 10 rfl) ?_
  refine on_al0 (tk_X6_readFeud 11 rfl) ?_
  refine on_iconst (tk_X6_readFeud 12 rfl) ?_
  refine on_al0 (tk_X6_readFeud 13 rfl) ?_
  refine fg_6_1 hN kw_2_0 (tk_X6_readFeud 14 rfl) ?_
  refine fg_9_0 (on_Sb27 hN) kw_1_154 (tk_X6_readFeud 15 rfl) fun v6 => ?_
  refine on_iconst (tk_X6_readFeud 16 rfl) ?_
  refine on_isub (tk_X6_readFeud 17 rfl) ?_
  refine on_cV2i 6 ms_X6_needNumber kw_3_94 rfl rfl (ltc_52 hN) sh_52 (ct_X6_needNumber hN) rfl (tk_X6_readFeud 18 rfl) fun v7 σ8 => ?_
  refine on_is2 rfl (tk_X6_readFeud 19 rfl) ?_
  refine on_al0 (tk_X6_readFeud 20 rfl) ?_
  refine fg_6_8 hN kw_2_7 (tk_X6_readFeud 21 rfl) fun v9 => ?_
  refine on_if_ne (tk_X6_readFeud 22 rfl) (tgt := 55) (by decide) ?_ ?_
  · refine on_al0 (tk_X6_readFeud 23 rfl) ?_
    refine on_il1 (tk_X6_readFeud 24 rfl) ?_
    refine on_il2 (tk_X6_readFeud 25 rfl) ?_
    refine on_icmp_eq (tk_X6_readFeud 26 rfl) (tgt := 51) (by decide) ?_ ?_
    · refine on_iconst (tk_X6_readFeud 27 rfl) ?_
      refine on_goto (tk_X6_readFeud 28 rfl) (tgt := 52) (by decide) ?_
      exact gb_X6_readFeud_52 X  hN _ _ _ _
    · refine on_iconst (tk_X6_readFeud 29 rfl) ?_
      exact gb_X6_readFeud_52 X  hN _ _ _ _
  · exact gb_X6_readFeud_55 X  hN _ _ _
def tb_X6_readJumper : List (Nat × Nat × Nat × Instr) := [(0, 1, 1, .aload_n 0), (1, 1, 2, .aload_n 0), (2, 3, 5, .getfield 19), (5, 3, 8, .getfield 216), (8, 2, 10, .bipush 9), (10, 3, 13, .invokevirtual 151), (13, 1, 14, .aload_n 0), (14, 2, 16, .ldc 219), (16, 3, 19, .invokevirtual 133), (19, 1, 20, .aload_n 0), (20, 1, 21, .iconst 1), (21, 2, 23, .bipush 99), (23, 3, 26, .invokevirtual 139), (26, 1, 27, .istore_n 1), (27, 1, 28, .aload_n 0), (28, 2, 30, .ldc 178), (30, 3, 33, .invokevirtual 133), (33, 1, 34, .aload_n 0), (34, 1, 35, .iconst 0), (35, 1, 36, .aload_n 0), (36, 3, 39, .getfield 19), (39, 3, 42, .getfield 148), (42, 1, 43, .iconst 1), (43, 1, 44, .isub), (44, 3, 47, .invokevirtual 139), (47, 1, 48, .istore_n 2), (48, 1, 49, .aload_n 0), (49, 3, 52, .getfield 35), (52, 3, 55, .ifCond .ne 12), (55, 1, 56, .aload_n 0), (56, 3, 59, .getfield 19), (59, 1, 60, .iload_n 1), (60, 1, 61, .iload_n 2), (61, 3, 64, .invokevirtual 221), (64, 1, 65, .return_)]
set_option maxRecDepth 100000 in
theorem tk_X6_readJumper (k : Nat) {pc n pc2 : Nat} {i : Instr} (hk : tb_X6_readJumper[k]? = some (pc, n, pc2, i)) : on_dq cX6_readJumper pc n pc2 i := on_ta (by decide +kernel) k hk
theorem ms_X6_readJumper : on_Mv yX6_readJumper cX6_readJumper 3 none 0 := ⟨kw_3_166, kw_3_164, kw_3_165, kw_1_6, by decide, by decide, by decide +kernel⟩
def pf_X6_readJumper (σ : on_S) : Option on_O :=
  on_Gt σ 27 7 fun v1 =>
  on_Cl (pf_X6_needRoom v1 9 σ) fun _ σ3 =>
  on_Cl (pf_X6_needWord 15 σ3) fun _ σ5 =>
  on_Cl (pf_X6_needNumber 1 99 σ5) fun v6 σ7 =>
  on_Cl (pf_X6_needWord 7 σ7) fun _ σ9 =>
  on_Gt σ9 27 3 fun v10 =>
  on_Cl (pf_X6_needNumber 0 (v10 - 1) σ9) fun v11 σ12 =>
  on_Gt σ12 52 8 fun v13 =>
  on_Eq v13 0 (
    on_Cl (pf_X9_addJumper 27 v6 v11 σ12) fun _ σ15 =>
    some (0, σ15)) (
    some (0, σ12))
set_option maxRecDepth 100000 in
set_option maxHeartbeats 4000000 in
theorem ct_X6_readJumper {E : on_E} {z n : Nat} (hN : 100 ≤ n) {σ : on_S} : on_Sp E yX6_readJumper cX6_readJumper 3 none 6 128 z n [.ref (z + 52)] σ (pf_X6_readJumper  σ) := by
  refine on_met [some (.ref (z + 52)), none, none] (by decide) rfl rfl (fun X => ?_)
  rw [pf_X6_readJumper]
  refine on_al0 (tk_X6_readJumper 0 rfl) ?_
  refine on_al0 (tk_X6_readJumper 1 rfl) ?_
  refine fg_6_1 hN kw_2_0 (tk_X6_readJumper 2 rfl) ?_
  refine fg_9_7 (on_Sb27 hN) kw_1_175 (tk_X6_readJumper 3 rfl) fun v1 => ?_
  refine on_bipush (tk_X6_readJumper 4 rfl) bp_9 ?_
  refine on_cV2v 6 ms_X6_needRoom kw_3_104 rfl rfl (ltc_52 hN) sh_52 (ct_X6_needRoom hN) rfl (tk_X6_readJumper 5 rfl) fun v2 σ3 => ?_
  refine on_al0 (tk_X6_readJumper 6 rfl) ?_
  refine on_ldcs (show ("OppositeNets$Reader", 219, "weight", 15) ∈ on_strs by decide +kernel) (tk_X6_readJumper 7 rfl) ?_
  refine on_cV1v 6 ms_X6_needWord kw_3_33 rfl rfl (ltc_52 hN) sh_52 (ct_X6_needWord hN (by decide)) rfl (tk_X6_readJumper 8 rfl) fun v4 σ5 => ?_
  refine on_al0 (tk_X6_readJumper 9 rfl) ?_
  refine on_iconst (tk_X6_readJumper 10 rfl) ?_
  refine on_bipush (tk_X6_readJumper 11 rfl) bp_99 ?_
  refine on_cV2i 6 ms_X6_needNumber kw_3_94 rfl rfl (ltc_52 hN) sh_52 (ct_X6_needNumber hN) rfl (tk_X6_readJumper 12 rfl) fun v6 σ7 => ?_
  refine on_is1 rfl (tk_X6_readJumper 13 rfl) ?_
  refine on_al0 (tk_X6_readJumper 14 rfl) ?_
  refine on_ldcs (show ("OppositeNets$Reader", 178, "at", 7) ∈ on_strs by decide +kernel) (tk_X6_readJumper 15 rfl) ?_
  refine on_cV1v 6 ms_X6_needWord kw_3_33 rfl rfl (ltc_52 hN) sh_52 (ct_X6_needWord hN (by decide)) rfl (tk_X6_readJumper 16 rfl) fun v8 σ9 => ?_
  refine on_al0 (tk_X6_readJumper 17 rfl) ?_
  refine on_iconst (tk_X6_readJumper 18 rfl) ?_
  refine on_al0 (tk_X6_readJumper 19 rfl) ?_
  refine fg_6_1 hN kw_2_0 (tk_X6_readJumper 20 rfl) ?_
  refine fg_9_3 (on_Sb27 hN) kw_1_164 (tk_X6_readJumper 21 rfl) fun v10 => ?_
  refine on_iconst (tk_X6_readJumper 22 rfl) ?_
  refine on_isub (tk_X6_readJumper 23 rfl) ?_
  refine on_cV2i 6 ms_X6_needNumber kw_3_94 rfl rfl (ltc_52 hN) sh_52 (ct_X6_needNumber hN) rfl (tk_X6_readJumper 24 rfl) fun v11 σ12 => ?_
  refine on_is2 rfl (tk_X6_readJumper 25 rfl) ?_
  refine on_al0 (tk_X6_readJumper 26 rfl) ?_
  refine fg_6_8 hN kw_2_7 (tk_X6_readJumper 27 rfl) fun v13 => ?_
  refine on_if_ne (tk_X6_readJumper 28 rfl) (tgt := 64) (by decide) ?_ ?_
  · refine on_al0 (tk_X6_readJumper 29 rfl) ?_
    refine fg_6_1 hN kw_2_0 (tk_X6_readJumper 30 rfl) ?_
    refine on_il1 (tk_X6_readJumper 31 rfl) ?_
    refine on_il2 (tk_X6_readJumper 32 rfl) ?_
    refine on_cV2v 9 ms_X9_addJumper kw_3_168 rfl rfl (ltS_0 (on_Sb27 hN)) (shS_0 (on_Sb27 hN)) (ct_X9_addJumper hN (on_Sb27 hN)) rfl (tk_X6_readJumper 33 rfl) fun v14 σ15 => ?_
    exact on_vret (tk_X6_readJumper 34 rfl)
  · exact on_vret (tk_X6_readJumper 34 rfl)
def tb_X6_readRoad : List (Nat × Nat × Nat × Instr) := [(0, 1, 1, .aload_n 0), (1, 3, 4, .invokevirtual 43), (4, 1, 5, .aload_n 0), (5, 1, 6, .iconst 0), (6, 1, 7, .aload_n 0), (7, 3, 10, .getfield 19), (10, 3, 13, .getfield 142), (13, 1, 14, .iconst 1), (14, 1, 15, .isub), (15, 3, 18, .invokevirtual 139), (18, 1, 19, .istore_n 1), (19, 1, 20, .aload_n 0), (20, 1, 21, .iconst 0), (21, 1, 22, .aload_n 0), (22, 3, 25, .getfield 19), (25, 3, 28, .getfield 142), (28, 1, 29, .iconst 1), (29, 1, 30, .isub), (30, 3, 33, .invokevirtual 139), (33, 1, 34, .istore_n 2), (34, 1, 35, .aload_n 0), (35, 3, 38, .getfield 35), (38, 3, 41, .ifCond .ne 17), (41, 1, 42, .aload_n 0), (42, 1, 43, .iload_n 1), (43, 1, 44, .iload_n 2), (44, 3, 47, .if_icmp .eq 7), (47, 1, 48, .iconst 1), (48, 3, 51, .goto 4), (51, 1, 52, .iconst 0), (52, 3, 55, .invokevirtual 183), (55, 1, 56, .aload_n 0), (56, 1, 57, .iconst 1), (57, 2, 59, .bipush 99), (59, 3, 62, .invokevirtual 139), (62, 1, 63, .istore_n 3), (63, 1, 64, .aload_n 0), (64, 3, 67, .getfield 35), (67, 3, 70, .ifCond .ne 13), (70, 1, 71, .aload_n 0), (71, 3, 74, .getfield 19), (74, 1, 75, .iload_n 1), (75, 1, 76, .iload_n 2), (76, 1, 77, .iload_n 3), (77, 3, 80, .invokevirtual 224), (80, 1, 81, .return_)]
set_option maxRecDepth 100000 in
theorem tk_X6_readRoad (k : Nat) {pc n pc2 : Nat} {i : Instr} (hk : tb_X6_readRoad[k]? = some (pc, n, pc2, i)) : on_dq cX6_readRoad pc n pc2 i := on_ta (by decide +kernel) k hk
theorem ms_X6_readRoad : on_Mv yX6_readRoad cX6_readRoad 4 none 0 := ⟨kw_3_176, kw_3_174, kw_3_175, kw_1_6, by decide, by decide, by decide +kernel⟩
def pf_X6_readRoad_55 (l1 : Int) (l2 : Int) (σ : on_S) : Option on_O :=
  on_Cl (pf_X6_needNumber 1 99 σ) fun v12 σ13 =>
  on_Gt σ13 52 8 fun v14 =>
  on_Eq v14 0 (
    on_Cl (pf_X9_setRoad 27 l1 l2 v12 σ13) fun _ σ16 =>
    some (0, σ16)) (
    some (0, σ13))
def pf_X6_readRoad_52 (l1 : Int) (l2 : Int) (s1 : Int) (σ : on_S) : Option on_O :=
  on_Cl (pf_X6_needAsSaid s1 σ) fun _ σ11 =>
  pf_X6_readRoad_55 l1 l2 σ11
def pf_X6_readRoad (σ : on_S) : Option on_O :=
  on_Cl (pf_X6_readToken σ) fun _ σ2 =>
  on_Gt σ2 27 0 fun v3 =>
  on_Cl (pf_X6_needNumber 0 (v3 - 1) σ2) fun v4 σ5 =>
  on_Gt σ5 27 0 fun v6 =>
  on_Cl (pf_X6_needNumber 0 (v6 - 1) σ5) fun v7 σ8 =>
  on_Gt σ8 52 8 fun v9 =>
  on_Eq v9 0 (
    on_Eq v4 v7 (
      pf_X6_readRoad_52 v4 v7 0 σ8) (
      pf_X6_readRoad_52 v4 v7 1 σ8)) (
    pf_X6_readRoad_55 v4 v7 σ8)
set_option maxRecDepth 100000 in
set_option maxHeartbeats 4000000 in
theorem gb_X6_readRoad_55 {E : on_E} {z n : Nat} (X : on_X) (hN : 100 ≤ n) (l1 : Int) (l2 : Int) (σ : on_S) : on_G X E cX6_readRoad RX6 none 3 66 4 z n σ (pf_X6_readRoad_55 l1 l2 σ) 55 [some (.ref (z + 52)), some (.int (on_i l1)), some (.int (on_i l2)), none] [] := by
  rw [pf_X6_readRoad_55]
  refine on_al0 (tk_X6_readRoad 31 rfl) ?_
  refine on_iconst (tk_X6_readRoad 32 rfl) ?_
  refine on_bipush (tk_X6_readRoad 33 rfl) bp_99 ?_
  refine on_cV2i 6 ms_X6_needNumber kw_3_94 rfl rfl (ltc_52 hN) sh_52 (ct_X6_needNumber hN) rfl (tk_X6_readRoad 34 rfl) fun v12 σ13 => ?_
  refine on_is3 rfl (tk_X6_readRoad 35 rfl) ?_
  refine on_al0 (tk_X6_readRoad 36 rfl) ?_
  refine fg_6_8 hN kw_2_7 (tk_X6_readRoad 37 rfl) fun v14 => ?_
  refine on_if_ne (tk_X6_readRoad 38 rfl) (tgt := 80) (by decide) ?_ ?_
  · refine on_al0 (tk_X6_readRoad 39 rfl) ?_
    refine fg_6_1 hN kw_2_0 (tk_X6_readRoad 40 rfl) ?_
    refine on_il1 (tk_X6_readRoad 41 rfl) ?_
    refine on_il2 (tk_X6_readRoad 42 rfl) ?_
    refine on_il3 (tk_X6_readRoad 43 rfl) ?_
    refine on_cV3v 9 ms_X9_setRoad kw_3_177 rfl rfl (ltS_0 (on_Sb27 hN)) (shS_0 (on_Sb27 hN)) (ct_X9_setRoad hN (on_Sb27 hN)) rfl (tk_X6_readRoad 44 rfl) fun v15 σ16 => ?_
    exact on_vret (tk_X6_readRoad 45 rfl)
  · exact on_vret (tk_X6_readRoad 45 rfl)
set_option maxRecDepth 100000 in
set_option maxHeartbeats 4000000 in
theorem gb_X6_readRoad_52 {E : on_E} {z n : Nat} (X : on_X) (hN : 100 ≤ n) (l1 : Int) (l2 : Int) (s1 : Int) (σ : on_S) : on_G X E cX6_readRoad RX6 none 3 66 4 z n σ (pf_X6_readRoad_52 l1 l2 s1 σ) 52 [some (.ref (z + 52)), some (.int (on_i l1)), some (.int (on_i l2)), none] [.int (on_i s1), .ref (z + 52)] := by
  rw [pf_X6_readRoad_52]
  refine on_cV1v 6 ms_X6_needAsSaid kw_3_128 rfl rfl (ltc_52 hN) sh_52 (ct_X6_needAsSaid hN) rfl (tk_X6_readRoad 30 rfl) fun v10 σ11 => ?_
  exact gb_X6_readRoad_55 X  hN _ _ _
set_option maxRecDepth 100000 in
set_option maxHeartbeats 4000000 in
theorem ct_X6_readRoad {E : on_E} {z n : Nat} (hN : 100 ≤ n) {σ : on_S} : on_Sp E yX6_readRoad cX6_readRoad 4 none 3 66 z n [.ref (z + 52)] σ (pf_X6_readRoad  σ) := by
  refine on_met [some (.ref (z + 52)), none, none, none] (by decide) rfl rfl (fun X => ?_)
  rw [pf_X6_readRoad]
  refine on_al0 (tk_X6_readRoad 0 rfl) ?_
  refine on_cV0v 6 ms_X6_readToken kw_3_16 rfl rfl (ltc_52 hN) sh_52 (ct_X6_readToken hN) rfl (tk_X6_readRoad 1 rfl) fun v1 σ2 => ?_
  refine on_al0 (tk_X6_readRoad 2 rfl) ?_
  refine on_iconst (tk_X6_readRoad 3 rfl) ?_
  refine on_al0 (tk_X6_readRoad 4 rfl) ?_
  refine fg_6_1 hN kw_2_0 (tk_X6_readRoad 5 rfl) ?_
  refine fg_9_0 (on_Sb27 hN) kw_1_154 (tk_X6_readRoad 6 rfl) fun v3 => ?_
  refine on_iconst (tk_X6_readRoad 7 rfl) ?_
  refine on_isub (tk_X6_readRoad 8 rfl) ?_
  refine on_cV2i 6 ms_X6_needNumber kw_3_94 rfl rfl (ltc_52 hN) sh_52 (ct_X6_needNumber hN) rfl (tk_X6_readRoad 9 rfl) fun v4 σ5 => ?_
  refine on_is1 rfl (tk_X6_readRoad 10 rfl) ?_
  refine on_al0 (tk_X6_readRoad 11 rfl) ?_
  refine on_iconst (tk_X6_readRoad 12 rfl) ?_
  refine on_al0 (tk_X6_readRoad 13 rfl) ?_
  refine fg_6_1 hN kw_2_0 (tk_X6_readRoad 14 rfl) ?_
  refine fg_9_0 (on_Sb27 hN) kw_1_154 (tk_X6_readRoad 15 rfl) fun v6 => ?_
  refine on_iconst (tk_X6_readRoad 16 rfl) ?_
  refine on_isub (tk_X6_readRoad 17 rfl) ?_
  refine on_cV2i 6 ms_X6_needNumber kw_3_94 rfl rfl (ltc_52 hN) sh_52 (ct_X6_needNumber hN) rfl (tk_X6_readRoad 18 rfl) fun v7 σ8 => ?_
  refine on_is2 rfl (tk_X6_readRoad 19 rfl) ?_
  refine on_al0 (tk_X6_readRoad 20 rfl) ?_
  refine fg_6_8 hN kw_2_7 (tk_X6_readRoad 21 rfl) fun v9 => ?_
  refine on_if_ne (tk_X6_readRoad 22 rfl) (tgt := 55) (by decide) ?_ ?_
  · refine on_al0 (tk_X6_readRoad 23 rfl) ?_
    refine on_il1 (tk_X6_readRoad 24 rfl) ?_
    refine on_il2 (tk_X6_readRoad 25 rfl) ?_
    refine on_icmp_eq (tk_X6_readRoad 26 rfl) (tgt := 51) (by decide) ?_ ?_
    · refine on_iconst (tk_X6_readRoad 27 rfl) ?_
      refine on_goto (tk_X6_readRoad 28 rfl) (tgt := 52) (by decide) ?_
      exact gb_X6_readRoad_52 X  hN _ _ _ _
    · refine on_iconst (tk_X6_readRoad 29 rfl) ?_
      exact gb_X6_readRoad_52 X  hN _ _ _ _
  · exact gb_X6_readRoad_55 X  hN _ _ _
def tb_X6_readLine : List (Nat × Nat × Nat × Instr) := [(0, 1, 1, .aload_n 0), (1, 3, 4, .getfield 19), (4, 3, 7, .getfield 82), (7, 3, 10, .ifCond .ne 10), (10, 1, 11, .aload_n 0), (11, 3, 14, .invokevirtual 85), (14, 3, 17, .goto 140), (17, 1, 18, .aload_n 0), (18, 2, 20, .ldc 88), (20, 3, 23, .invokevirtual 71), (23, 3, 26, .ifCond .eq 10), (26, 1, 27, .aload_n 0), (27, 3, 30, .invokevirtual 90), (30, 3, 33, .goto 124), (33, 1, 34, .aload_n 0), (34, 2, 36, .ldc 93), (36, 3, 39, .invokevirtual 71), (39, 3, 42, .ifCond .eq 10), (42, 1, 43, .aload_n 0), (43, 3, 46, .invokevirtual 95), (46, 3, 49, .goto 108), (49, 1, 50, .aload_n 0), (50, 2, 52, .ldc 98), (52, 3, 55, .invokevirtual 71), (55, 3, 58, .ifCond .eq 10), (58, 1, 59, .aload_n 0), (59, 3, 62, .invokevirtual 100), (62, 3, 65, .goto 92), (65, 1, 66, .aload_n 0), (66, 2, 68, .ldc 103), (68, 3, 71, .invokevirtual 71), (71, 3, 74, .ifCond .eq 10), (74, 1, 75, .aload_n 0), (75, 3, 78, .invokevirtual 105), (78, 3, 81, .goto 76), (81, 1, 82, .aload_n 0), (82, 2, 84, .ldc 108), (84, 3, 87, .invokevirtual 71), (87, 3, 90, .ifCond .eq 10), (90, 1, 91, .aload_n 0), (91, 3, 94, .invokevirtual 110), (94, 3, 97, .goto 60), (97, 1, 98, .aload_n 0), (98, 2, 100, .ldc 113), (100, 3, 103, .invokevirtual 71), (103, 3, 106, .ifCond .eq 10), (106, 1, 107, .aload_n 0), (107, 3, 110, .invokevirtual 115), (110, 3, 113, .goto 44), (113, 1, 114, .aload_n 0), (114, 2, 116, .ldc 118), (116, 3, 119, .invokevirtual 71), (119, 3, 122, .ifCond .eq 10), (122, 1, 123, .aload_n 0), (123, 3, 126, .invokevirtual 120), (126, 3, 129, .goto 28), (129, 1, 130, .aload_n 0), (130, 2, 132, .ldc 123), (132, 3, 135, .invokevirtual 71), (135, 3, 138, .ifCond .eq 10), (138, 1, 139, .aload_n 0), (139, 3, 142, .invokevirtual 125), (142, 3, 145, .goto 12), (145, 1, 146, .aload_n 0), (146, 1, 147, .iconst 1), (147, 1, 148, .aload_n 0), (148, 3, 151, .getfield 52), (151, 3, 154, .invokevirtual 75), (154, 1, 155, .aload_n 0), (155, 3, 158, .invokevirtual 128), (158, 1, 159, .aload_n 0), (159, 3, 162, .getfield 19), (162, 1, 163, .dup), (163, 3, 166, .getfield 82), (166, 1, 167, .iconst 1), (167, 1, 168, .iadd), (168, 3, 171, .putfield 82), (171, 1, 172, .return_)]
set_option maxRecDepth 100000 in
theorem tk_X6_readLine (k : Nat) {pc n pc2 : Nat} {i : Instr} (hk : tb_X6_readLine[k]? = some (pc, n, pc2, i)) : on_dq cX6_readLine pc n pc2 i := on_ta (by decide +kernel) k hk
theorem ms_X6_readLine : on_Mv yX6_readLine cX6_readLine 1 none 0 := ⟨kw_3_27, kw_3_25, kw_3_26, kw_1_6, by decide, by decide, by decide +kernel⟩
def pf_X6_readLine_154 (σ : on_S) : Option on_O :=
  on_Cl (pf_X6_needSign σ) fun _ σ5 =>
  on_Gt σ5 27 2 fun v6 =>
  on_Pt σ5 27 2 (v6 + 1) fun σ7 =>
  some (0, σ7)
def pf_X6_readLine (σ : on_S) : Option on_O :=
  on_Gt σ 27 2 fun v1 =>
  on_Eq v1 0 (
    on_Cl (pf_X6_readHead σ) fun _ σ3 =>
    pf_X6_readLine_154 σ3) (
    on_Cl (pf_X6_isWord 3 σ) fun v8 σ9 =>
    on_Eq v8 0 (
      on_Cl (pf_X6_isWord 4 σ9) fun v12 σ13 =>
      on_Eq v12 0 (
        on_Cl (pf_X6_isWord 6 σ13) fun v16 σ17 =>
        on_Eq v16 0 (
          on_Cl (pf_X6_isWord 11 σ17) fun v20 σ21 =>
          on_Eq v20 0 (
            on_Cl (pf_X6_isWord 12 σ21) fun v24 σ25 =>
            on_Eq v24 0 (
              on_Cl (pf_X6_isWord 13 σ25) fun v28 σ29 =>
              on_Eq v28 0 (
                on_Cl (pf_X6_isWord 14 σ29) fun v32 σ33 =>
                on_Eq v32 0 (
                  on_Cl (pf_X6_isWord 16 σ33) fun v36 σ37 =>
                  on_Eq v36 0 (
                    on_Gt σ37 52 5 fun v40 =>
                    on_Cl (pf_X6_refuse 1 v40 σ37) fun _ σ42 =>
                    pf_X6_readLine_154 σ42) (
                    on_Cl (pf_X6_readRoad σ37) fun _ σ39 =>
                    pf_X6_readLine_154 σ39)) (
                  on_Cl (pf_X6_readJumper σ33) fun _ σ35 =>
                  pf_X6_readLine_154 σ35)) (
                on_Cl (pf_X6_readFeud σ29) fun _ σ31 =>
                pf_X6_readLine_154 σ31)) (
              on_Cl (pf_X6_readQuarrel σ25) fun _ σ27 =>
              pf_X6_readLine_154 σ27)) (
            on_Cl (pf_X6_readStands σ21) fun _ σ23 =>
            pf_X6_readLine_154 σ23)) (
          on_Cl (pf_X6_readNet σ17) fun _ σ19 =>
          pf_X6_readLine_154 σ19)) (
        on_Cl (pf_X6_readMan σ13) fun _ σ15 =>
        pf_X6_readLine_154 σ15)) (
      on_Cl (pf_X6_readWindow σ9) fun _ σ11 =>
      pf_X6_readLine_154 σ11))
set_option maxRecDepth 100000 in
set_option maxHeartbeats 4000000 in
theorem gb_X6_readLine_154 {E : on_E} {z n : Nat} (X : on_X) (hN : 100 ≤ n) (σ : on_S) : on_G X E cX6_readLine RX6 none 7 152 1 z n σ (pf_X6_readLine_154  σ) 154 [some (.ref (z + 52))] [] := by
  rw [pf_X6_readLine_154]
  refine on_al0 (tk_X6_readLine 68 rfl) ?_
  refine on_cV0v 6 ms_X6_needSign kw_3_181 rfl rfl (ltc_52 hN) sh_52 (ct_X6_needSign hN) rfl (tk_X6_readLine 69 rfl) fun v4 σ5 => ?_
  refine on_al0 (tk_X6_readLine 70 rfl) ?_
  refine fg_6_1 hN kw_2_0 (tk_X6_readLine 71 rfl) ?_
  refine on_dup rfl (tk_X6_readLine 72 rfl) ?_
  refine fg_9_2 (on_Sb27 hN) kw_1_162 (tk_X6_readLine 73 rfl) fun v6 => ?_
  refine on_iconst (tk_X6_readLine 74 rfl) ?_
  refine on_iadd (tk_X6_readLine 75 rfl) ?_
  refine fp_9_2 (on_Sb27 hN) kw_1_162 (tk_X6_readLine 76 rfl) fun σ7 => ?_
  exact on_vret (tk_X6_readLine 77 rfl)
set_option maxRecDepth 100000 in
set_option maxHeartbeats 4000000 in
theorem ct_X6_readLine {E : on_E} {z n : Nat} (hN : 100 ≤ n) {σ : on_S} : on_Sp E yX6_readLine cX6_readLine 1 none 7 152 z n [.ref (z + 52)] σ (pf_X6_readLine  σ) := by
  refine on_met [some (.ref (z + 52))] (by decide) rfl rfl (fun X => ?_)
  rw [pf_X6_readLine]
  refine on_al0 (tk_X6_readLine 0 rfl) ?_
  refine fg_6_1 hN kw_2_0 (tk_X6_readLine 1 rfl) ?_
  refine fg_9_2 (on_Sb27 hN) kw_1_162 (tk_X6_readLine 2 rfl) fun v1 => ?_
  refine on_if_ne (tk_X6_readLine 3 rfl) (tgt := 17) (by decide) ?_ ?_
  · refine on_al0 (tk_X6_readLine 4 rfl) ?_
    refine on_cV0v 6 ms_X6_readHead kw_3_28 rfl rfl (ltc_52 hN) sh_52 (ct_X6_readHead hN) rfl (tk_X6_readLine 5 rfl) fun v2 σ3 => ?_
    refine on_goto (tk_X6_readLine 6 rfl) (tgt := 154) (by decide) ?_
    exact gb_X6_readLine_154 X  hN _
  · refine on_al0 (tk_X6_readLine 7 rfl) ?_
    refine on_ldcs (show ("OppositeNets$Reader", 88, "window", 3) ∈ on_strs by decide +kernel) (tk_X6_readLine 8 rfl) ?_
    refine on_cV1z 6 ms_X6_isWord kw_3_37 rfl rfl (ltc_52 hN) sh_52 (ct_X6_isWord hN (by decide)) rfl (tk_X6_readLine 9 rfl) fun v8 σ9 => ?_
    refine on_if_eq (tk_X6_readLine 10 rfl) (tgt := 33) (by decide) ?_ ?_
    · refine on_al0 (tk_X6_readLine 11 rfl) ?_
      refine on_cV0v 6 ms_X6_readWindow kw_3_100 rfl rfl (ltc_52 hN) sh_52 (ct_X6_readWindow hN) rfl (tk_X6_readLine 12 rfl) fun v10 σ11 => ?_
      refine on_goto (tk_X6_readLine 13 rfl) (tgt := 154) (by decide) ?_
      exact gb_X6_readLine_154 X  hN _
    · refine on_al0 (tk_X6_readLine 14 rfl) ?_
      refine on_ldcs (show ("OppositeNets$Reader", 93, "man", 4) ∈ on_strs by decide +kernel) (tk_X6_readLine 15 rfl) ?_
      refine on_cV1z 6 ms_X6_isWord kw_3_37 rfl rfl (ltc_52 hN) sh_52 (ct_X6_isWord hN (by decide)) rfl (tk_X6_readLine 16 rfl) fun v12 σ13 => ?_
      refine on_if_eq (tk_X6_readLine 17 rfl) (tgt := 49) (by decide) ?_ ?_
      · refine on_al0 (tk_X6_readLine 18 rfl) ?_
        refine on_cV0v 6 ms_X6_readMan kw_3_113 rfl rfl (ltc_52 hN) sh_52 (ct_X6_readMan hN) rfl (tk_X6_readLine 19 rfl) fun v14 σ15 => ?_
        refine on_goto (tk_X6_readLine 20 rfl) (tgt := 154) (by decide) ?_
        exact gb_X6_readLine_154 X  hN _
      · refine on_al0 (tk_X6_readLine 21 rfl) ?_
        refine on_ldcs (show ("OppositeNets$Reader", 98, "net", 6) ∈ on_strs by decide +kernel) (tk_X6_readLine 22 rfl) ?_
        refine on_cV1z 6 ms_X6_isWord kw_3_37 rfl rfl (ltc_52 hN) sh_52 (ct_X6_isWord hN (by decide)) rfl (tk_X6_readLine 23 rfl) fun v16 σ17 => ?_
        refine on_if_eq (tk_X6_readLine 24 rfl) (tgt := 65) (by decide) ?_ ?_
        · refine on_al0 (tk_X6_readLine 25 rfl) ?_
          refine on_cV0v 6 ms_X6_readNet kw_3_123 rfl rfl (ltc_52 hN) sh_52 (ct_X6_readNet hN) rfl (tk_X6_readLine 26 rfl) fun v18 σ19 => ?_
          refine on_goto (tk_X6_readLine 27 rfl) (tgt := 154) (by decide) ?_
          exact gb_X6_readLine_154 X  hN _
        · refine on_al0 (tk_X6_readLine 28 rfl) ?_
          refine on_ldcs (show ("OppositeNets$Reader", 103, "stands", 11) ∈ on_strs by decide +kernel) (tk_X6_readLine 29 rfl) ?_
          refine on_cV1z 6 ms_X6_isWord kw_3_37 rfl rfl (ltc_52 hN) sh_52 (ct_X6_isWord hN (by decide)) rfl (tk_X6_readLine 30 rfl) fun v20 σ21 => ?_
          refine on_if_eq (tk_X6_readLine 31 rfl) (tgt := 81) (by decide) ?_ ?_
          · refine on_al0 (tk_X6_readLine 32 rfl) ?_
            refine on_cV0v 6 ms_X6_readStands kw_3_136 rfl rfl (ltc_52 hN) sh_52 (ct_X6_readStands hN) rfl (tk_X6_readLine 33 rfl) fun v22 σ23 => ?_
            refine on_goto (tk_X6_readLine 34 rfl) (tgt := 154) (by decide) ?_
            exact gb_X6_readLine_154 X  hN _
          · refine on_al0 (tk_X6_readLine 35 rfl) ?_
            refine on_ldcs (show ("OppositeNets$Reader", 108, "quarrel", 12) ∈ on_strs by decide +kernel) (tk_X6_readLine 36 rfl) ?_
            refine on_cV1z 6 ms_X6_isWord kw_3_37 rfl rfl (ltc_52 hN) sh_52 (ct_X6_isWord hN (by decide)) rfl (tk_X6_readLine 37 rfl) fun v24 σ25 => ?_
            refine on_if_eq (tk_X6_readLine 38 rfl) (tgt := 97) (by decide) ?_ ?_
            · refine on_al0 (tk_X6_readLine 39 rfl) ?_
              refine on_cV0v 6 ms_X6_readQuarrel kw_3_145 rfl rfl (ltc_52 hN) sh_52 (ct_X6_readQuarrel hN) rfl (tk_X6_readLine 40 rfl) fun v26 σ27 => ?_
              refine on_goto (tk_X6_readLine 41 rfl) (tgt := 154) (by decide) ?_
              exact gb_X6_readLine_154 X  hN _
            · refine on_al0 (tk_X6_readLine 42 rfl) ?_
              refine on_ldcs (show ("OppositeNets$Reader", 113, "feud", 13) ∈ on_strs by decide +kernel) (tk_X6_readLine 43 rfl) ?_
              refine on_cV1z 6 ms_X6_isWord kw_3_37 rfl rfl (ltc_52 hN) sh_52 (ct_X6_isWord hN (by decide)) rfl (tk_X6_readLine 44 rfl) fun v28 σ29 => ?_
              refine on_if_eq (tk_X6_readLine 45 rfl) (tgt := 113) (by decide) ?_ ?_
              · refine on_al0 (tk_X6_readLine 46 rfl) ?_
                refine on_cV0v 6 ms_X6_readFeud kw_3_154 rfl rfl (ltc_52 hN) sh_52 (ct_X6_readFeud hN) rfl (tk_X6_readLine 47 rfl) fun v30 σ31 => ?_
                refine on_goto (tk_X6_readLine 48 rfl) (tgt := 154) (by decide) ?_
                exact gb_X6_readLine_154 X  hN _
              · refine on_al0 (tk_X6_readLine 49 rfl) ?_
                refine on_ldcs (show ("OppositeNets$Reader", 118, "jumper", 14) ∈ on_strs by decide +kernel) (tk_X6_readLine 50 rfl) ?_
                refine on_cV1z 6 ms_X6_isWord kw_3_37 rfl rfl (ltc_52 hN) sh_52 (ct_X6_isWord hN (by decide)) rfl (tk_X6_readLine 51 rfl) fun v32 σ33 => ?_
                refine on_if_eq (tk_X6_readLine 52 rfl) (tgt := 129) (by decide) ?_ ?_
                · refine on_al0 (tk_X6_readLine 53 rfl) ?_
                  refine on_cV0v 6 ms_X6_readJumper kw_3_163 rfl rfl (ltc_52 hN) sh_52 (ct_X6_readJumper hN) rfl (tk_X6_readLine 54 rfl) fun v34 σ35 => ?_
                  refine on_goto (tk_X6_readLine 55 rfl) (tgt := 154) (by decide) ?_
                  exact gb_X6_readLine_154 X  hN _
                · refine on_al0 (tk_X6_readLine 56 rfl) ?_
                  refine on_ldcs (show ("OppositeNets$Reader", 123, "road", 16) ∈ on_strs by decide +kernel) (tk_X6_readLine 57 rfl) ?_
                  refine on_cV1z 6 ms_X6_isWord kw_3_37 rfl rfl (ltc_52 hN) sh_52 (ct_X6_isWord hN (by decide)) rfl (tk_X6_readLine 58 rfl) fun v36 σ37 => ?_
                  refine on_if_eq (tk_X6_readLine 59 rfl) (tgt := 145) (by decide) ?_ ?_
                  · refine on_al0 (tk_X6_readLine 60 rfl) ?_
                    refine on_cV0v 6 ms_X6_readRoad kw_3_173 rfl rfl (ltc_52 hN) sh_52 (ct_X6_readRoad hN) rfl (tk_X6_readLine 61 rfl) fun v38 σ39 => ?_
                    refine on_goto (tk_X6_readLine 62 rfl) (tgt := 154) (by decide) ?_
                    exact gb_X6_readLine_154 X  hN _
                  · refine on_al0 (tk_X6_readLine 63 rfl) ?_
                    refine on_iconst (tk_X6_readLine 64 rfl) ?_
                    refine on_al0 (tk_X6_readLine 65 rfl) ?_
                    refine fg_6_5 hN kw_2_4 (tk_X6_readLine 66 rfl) fun v40 => ?_
                    refine on_cV2v 6 ms_X6_refuse kw_3_89 rfl rfl (ltc_52 hN) sh_52 (ct_X6_refuse hN) rfl (tk_X6_readLine 67 rfl) fun v41 σ42 => ?_
                    exact gb_X6_readLine_154 X  hN _
def tb_X6_readStreet : List (Nat × Nat × Nat × Instr) := [(0, 1, 1, .aload_n 0), (1, 1, 2, .iload_n 1), (2, 1, 3, .aload_n 0), (3, 3, 6, .getfield 15), (6, 1, 7, .arraylength), (7, 3, 10, .invokestatic 23), (10, 3, 13, .putfield 29), (13, 1, 14, .aload_n 0), (14, 1, 15, .iconst 0), (15, 3, 18, .putfield 32), (18, 1, 19, .aload_n 0), (19, 1, 20, .iconst 0), (20, 3, 23, .putfield 35), (23, 1, 24, .aload_n 0), (24, 1, 25, .iconst (-1)), (25, 3, 28, .putfield 9), (28, 1, 29, .aload_n 0), (29, 3, 32, .getfield 19), (32, 3, 35, .invokevirtual 38), (35, 1, 36, .aload_n 0), (36, 3, 39, .invokevirtual 43), (39, 1, 40, .iconst 0), (40, 1, 41, .istore_n 2), (41, 1, 42, .iload_n 2), (42, 3, 45, .sipush 1400), (45, 3, 48, .if_icmp .ge 27), (48, 1, 49, .aload_n 0), (49, 3, 52, .getfield 35), (52, 3, 55, .ifCond .ne 20), (55, 1, 56, .aload_n 0), (56, 3, 59, .getfield 46), (59, 3, 62, .ifCond .eq 13), (62, 1, 63, .aload_n 0), (63, 3, 66, .invokevirtual 49), (66, 3, 69, .iinc 2 1), (69, 3, 72, .goto (-28)), (72, 1, 73, .return_)]
set_option maxRecDepth 100000 in
theorem tk_X6_readStreet (k : Nat) {pc n pc2 : Nat} {i : Instr} (hk : tb_X6_readStreet[k]? = some (pc, n, pc2, i)) : on_dq cX6_readStreet pc n pc2 i := on_ta (by decide +kernel) k hk
theorem ms_X6_readStreet : on_Mv yX6_readStreet cX6_readStreet 3 none 1 := ⟨kw_2_235, kw_2_233, kw_2_234, kw_1_6, by decide, by decide, by decide +kernel⟩
def pf_X6_readStreet_41 : Nat → Int → on_S → Option on_O
  | 0, _, _ => none
  | nf + 1, l2, σ =>
    on_Lt l2 1400 (
      on_Gt σ 52 8 fun v10 =>
      on_Eq v10 0 (
        on_Gt σ 52 4 fun v11 =>
        on_Eq v11 0 (
          some (0, σ)) (
          on_Cl (pf_X6_readLine σ) fun _ σ13 =>
          pf_X6_readStreet_41 nf (l2 + 1) σ13)) (
        some (0, σ))) (
      some (0, σ))
def pf_X6_readStreet (p0 : Int) (σ : on_S) : Option on_O :=
  on_Mn p0 ((1400 : Nat) : Int) fun v1 =>
  on_Pt σ 52 2 v1 fun σ2 =>
  on_Pt σ2 52 3 0 fun σ3 =>
  on_Pt σ3 52 8 0 fun σ4 =>
  on_Pt σ4 52 9 (-1) fun σ5 =>
  on_Cl (pf_X9_clear 27 σ5) fun _ σ7 =>
  on_Cl (pf_X6_readToken σ7) fun _ σ9 =>
  pf_X6_readStreet_41 on_N 0 σ9
set_option maxRecDepth 100000 in
set_option maxHeartbeats 4000000 in
theorem gl_X6_readStreet_41 {E : on_E} {z n : Nat} (X : on_X) (hN : 100 ≤ n) : ∀ (nf : Nat) (l2 : Int) (σ : on_S), on_G X E cX6_readStreet RX6 none 8 172 3 z n σ (pf_X6_readStreet_41 nf l2 σ) 41 [some (.ref (z + 52)), none, some (.int (on_i l2))] [] := by
  intro nf
  induction nf with
  | zero => intro l2 σ; exact on_none
  | succ nf ih =>
    intro l2 σ
    rw [pf_X6_readStreet_41]
    refine on_il2 (tk_X6_readStreet 23 rfl) ?_
    refine on_sipush (tk_X6_readStreet 24 rfl) sp_1400 ?_
    refine on_icmp_ge (tk_X6_readStreet 25 rfl) (tgt := 72) (by decide) ?_ ?_
    · refine on_al0 (tk_X6_readStreet 26 rfl) ?_
      refine fg_6_8 hN kw_2_7 (tk_X6_readStreet 27 rfl) fun v10 => ?_
      refine on_if_ne (tk_X6_readStreet 28 rfl) (tgt := 72) (by decide) ?_ ?_
      · refine on_al0 (tk_X6_readStreet 29 rfl) ?_
        refine fg_6_4 hN kw_2_3 (tk_X6_readStreet 30 rfl) fun v11 => ?_
        refine on_if_eq (tk_X6_readStreet 31 rfl) (tgt := 72) (by decide) ?_ ?_
        · refine on_al0 (tk_X6_readStreet 32 rfl) ?_
          refine on_cV0v 6 ms_X6_readLine kw_3_24 rfl rfl (ltc_52 hN) sh_52 (ct_X6_readLine hN) rfl (tk_X6_readStreet 33 rfl) fun v12 σ13 => ?_
          refine on_inc2 rfl (tk_X6_readStreet 34 rfl) ?_
          refine on_goto (tk_X6_readStreet 35 rfl) (tgt := 41) (by decide) ?_
          exact ih _ _
        · exact on_vret (tk_X6_readStreet 36 rfl)
      · exact on_vret (tk_X6_readStreet 36 rfl)
    · exact on_vret (tk_X6_readStreet 36 rfl)
set_option maxRecDepth 100000 in
set_option maxHeartbeats 4000000 in
theorem ct_X6_readStreet {E : on_E} {z n : Nat} {p0 : Int} (hN : 100 ≤ n) {σ : on_S} : on_Sp E yX6_readStreet cX6_readStreet 3 none 8 172 z n [.ref (z + 52), .int (on_i p0)] σ (pf_X6_readStreet p0 σ) := by
  refine on_met [some (.ref (z + 52)), some (.int (on_i p0)), none] (by decide) rfl rfl (fun X => ?_)
  rw [pf_X6_readStreet]
  refine on_al0 (tk_X6_readStreet 0 rfl) ?_
  refine on_il1 (tk_X6_readStreet 1 rfl) ?_
  refine on_al0 (tk_X6_readStreet 2 rfl) ?_
  refine fg_6_0 hN kw_1_239 (tk_X6_readStreet 3 rfl) ?_
  refine on_alen2 (N := 1400) (ltc_1 hN) sh_1 (tk_X6_readStreet 4 rfl) ?_
  refine on_min kw_2_236 kwM_min_s kwM_i kwM_min_c rfl (tk_X6_readStreet 5 rfl) fun v1 => ?_
  refine fp_6_2 hN kw_2_1 (tk_X6_readStreet 6 rfl) fun σ2 => ?_
  refine on_al0 (tk_X6_readStreet 7 rfl) ?_
  refine on_iconst (tk_X6_readStreet 8 rfl) ?_
  refine fp_6_3 hN kw_2_2 (tk_X6_readStreet 9 rfl) fun σ3 => ?_
  refine on_al0 (tk_X6_readStreet 10 rfl) ?_
  refine on_iconst (tk_X6_readStreet 11 rfl) ?_
  refine fp_6_8 hN kw_2_7 (tk_X6_readStreet 12 rfl) fun σ4 => ?_
  refine on_al0 (tk_X6_readStreet 13 rfl) ?_
  refine on_iconst (tk_X6_readStreet 14 rfl) ?_
  refine fp_6_9 hN kw_2_9 (tk_X6_readStreet 15 rfl) fun σ5 => ?_
  refine on_al0 (tk_X6_readStreet 16 rfl) ?_
  refine fg_6_1 hN kw_2_0 (tk_X6_readStreet 17 rfl) ?_
  refine on_cV0v 9 ms_X9_clear kw_2_239 rfl rfl (ltS_0 (on_Sb27 hN)) (shS_0 (on_Sb27 hN)) (ct_X9_clear hN (on_Sb27 hN)) rfl (tk_X6_readStreet 18 rfl) fun v6 σ7 => ?_
  refine on_al0 (tk_X6_readStreet 19 rfl) ?_
  refine on_cV0v 6 ms_X6_readToken kw_3_16 rfl rfl (ltc_52 hN) sh_52 (ct_X6_readToken hN) rfl (tk_X6_readStreet 20 rfl) fun v8 σ9 => ?_
  refine on_iconst (tk_X6_readStreet 21 rfl) ?_
  refine on_is2 rfl (tk_X6_readStreet 22 rfl) ?_
  refine on_dr1 ?_
  exact gl_X6_readStreet_41 X  hN on_N _ _
