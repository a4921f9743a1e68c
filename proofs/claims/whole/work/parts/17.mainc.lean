def tb_X11_pays : List (Nat × Nat × Nat × Instr) := [(0, 1, 1, .aload_n 0), (1, 3, 4, .getfield 16), (4, 1, 5, .iload_n 1), (5, 3, 8, .invokevirtual 346), (8, 3, 11, .ifCond .eq 14), (11, 1, 12, .iload_n 2), (12, 3, 15, .ifCond .lt 10), (15, 1, 16, .iload_n 2), (16, 3, 19, .ldc_w 417), (19, 3, 22, .if_icmp .le 6), (22, 2, 24, .bipush (-2)), (24, 1, 25, .ireturn), (25, 1, 26, .iconst 0), (26, 1, 27, .istore_n 3), (27, 1, 28, .iconst 0), (28, 2, 30, .istore 4), (30, 2, 32, .iload 4), (32, 1, 33, .aload_n 0), (33, 3, 36, .getfield 16), (36, 3, 39, .getfield 361), (39, 3, 42, .if_icmp .ge 21), (42, 1, 43, .iload_n 3), (43, 1, 44, .aload_n 0), (44, 3, 47, .getfield 16), (47, 2, 49, .iload 4), (49, 3, 52, .invokevirtual 414), (52, 1, 53, .iadd), (53, 1, 54, .istore_n 3), (54, 3, 57, .iinc 4 1), (57, 3, 60, .goto (-27)), (60, 1, 61, .iload_n 3), (61, 3, 64, .ifCond .ne 7), (64, 1, 65, .iconst (-1)), (65, 3, 68, .goto 15), (68, 1, 69, .iload_n 2), (69, 1, 70, .aload_n 0), (70, 3, 73, .getfield 16), (73, 1, 74, .iload_n 1), (74, 3, 77, .invokevirtual 414), (77, 1, 78, .imul), (78, 1, 79, .iload_n 3), (79, 1, 80, .idiv), (80, 1, 81, .ireturn)]
set_option maxRecDepth 100000 in
theorem tk_X11_pays (k : Nat) {pc n pc2 : Nat} {i : Instr} (hk : tb_X11_pays[k]? = some (pc, n, pc2, i)) : on_dq cX11_pays pc n pc2 i := on_ta (by decide +kernel) k hk
theorem ms_X11_pays : on_Mv yX11_pays cX11_pays 5 (some .int) 2 := ⟨kw_6_16, kw_6_14, kw_6_15, kw_1_1, by decide, by decide, by decide +kernel⟩
def pf_X11_pays_30 : Nat → Int → Int → Int → Int → on_S → Option on_O
  | 0, _, _, _, _, _ => none
  | nf + 1, l1, l2, l3, l4, σ =>
    on_Gt σ 2 0 fun v3 =>
    on_Lt l4 v3 (
      on_Cl (pf_X9_cornersOf 2 l4 σ) fun v4 σ5 =>
      pf_X11_pays_30 nf l1 l2 (l3 + v4) (l4 + 1) σ5) (
      on_Eq l3 0 (
        some ((-1), σ)) (
        on_Cl (pf_X9_cornersOf 2 l1 σ) fun v6 σ7 =>
        on_Dv (l2 * v6) l3 fun v8 =>
        some (v8, σ7)))
def pf_X11_pays (p0 : Int) (p1 : Int) (σ : on_S) : Option on_O :=
  on_Cl (pf_X9_hasHouse 2 p0 σ) fun v1 σ2 =>
  on_Eq v1 0 (
    some ((-2), σ2)) (
    on_Lt p1 0 (
      some ((-2), σ2)) (
      on_Le p1 1000000 (
        pf_X11_pays_30 on_N p0 p1 0 0 σ2) (
        some ((-2), σ2))))
set_option maxRecDepth 100000 in
set_option maxHeartbeats 4000000 in
theorem gl_X11_pays_30 {E : on_E} {z n : Nat} (X : on_X) (hN : 100 ≤ n) : ∀ (nf : Nat) (l1 : Int) (l2 : Int) (l3 : Int) (l4 : Int) (σ : on_S), on_G X E cX11_pays RX11 (some .int) 1 23 5 z n σ (pf_X11_pays_30 nf l1 l2 l3 l4 σ) 30 [some (.ref (z + 0)), some (.int (on_i l1)), some (.int (on_i l2)), some (.int (on_i l3)), some (.int (on_i l4))] [] := by
  intro nf
  induction nf with
  | zero => intro l1 l2 l3 l4 σ; exact on_none
  | succ nf ih =>
    intro l1 l2 l3 l4 σ
    rw [pf_X11_pays_30]
    refine on_il4 (tk_X11_pays 16 rfl) ?_
    refine on_al0 (tk_X11_pays 17 rfl) ?_
    refine fg_11_2 hN kw_2_181 (tk_X11_pays 18 rfl) ?_
    refine fg_9_0 (on_Sb2 hN) kw_1_156 (tk_X11_pays 19 rfl) fun v3 => ?_
    refine on_icmp_ge (tk_X11_pays 20 rfl) (tgt := 60) (by decide) ?_ ?_
    · refine on_il3 (tk_X11_pays 21 rfl) ?_
      refine on_al0 (tk_X11_pays 22 rfl) ?_
      refine fg_11_2 hN kw_2_181 (tk_X11_pays 23 rfl) ?_
      refine on_il4 (tk_X11_pays 24 rfl) ?_
      refine on_cV1i 9 ms_X9_cornersOf kw_6_9 rfl rfl (ltS_0 (on_Sb2 hN)) (shS_0 (on_Sb2 hN)) (ct_X9_cornersOf hN (on_Sb2 hN)) rfl (tk_X11_pays 25 rfl) fun v4 σ5 => ?_
      refine on_iadd (tk_X11_pays 26 rfl) ?_
      refine on_is3 rfl (tk_X11_pays 27 rfl) ?_
      refine on_inc4 rfl (tk_X11_pays 28 rfl) ?_
      refine on_goto (tk_X11_pays 29 rfl) (tgt := 30) (by decide) ?_
      exact ih _ _ _ _ _
    · refine on_il3 (tk_X11_pays 30 rfl) ?_
      refine on_if_ne (tk_X11_pays 31 rfl) (tgt := 68) (by decide) ?_ ?_
      · refine on_iconst (tk_X11_pays 32 rfl) ?_
        refine on_goto (tk_X11_pays 33 rfl) (tgt := 80) (by decide) ?_
        exact on_iret (tk_X11_pays 42 rfl)
      · refine on_il2 (tk_X11_pays 34 rfl) ?_
        refine on_al0 (tk_X11_pays 35 rfl) ?_
        refine fg_11_2 hN kw_2_181 (tk_X11_pays 36 rfl) ?_
        refine on_il1 (tk_X11_pays 37 rfl) ?_
        refine on_cV1i 9 ms_X9_cornersOf kw_6_9 rfl rfl (ltS_0 (on_Sb2 hN)) (shS_0 (on_Sb2 hN)) (ct_X9_cornersOf hN (on_Sb2 hN)) rfl (tk_X11_pays 38 rfl) fun v6 σ7 => ?_
        refine on_imul (tk_X11_pays 39 rfl) ?_
        refine on_il3 (tk_X11_pays 40 rfl) ?_
        refine on_idiv (tk_X11_pays 41 rfl) fun v8 => ?_
        exact on_iret (tk_X11_pays 42 rfl)
set_option maxRecDepth 100000 in
set_option maxHeartbeats 4000000 in
theorem ct_X11_pays {E : on_E} {z n : Nat} {p0 : Int} {p1 : Int} (hN : 100 ≤ n) {σ : on_S} : on_Sp E yX11_pays cX11_pays 5 (some .int) 1 23 z n [.ref (z + 0), .int (on_i p0), .int (on_i p1)] σ (pf_X11_pays p0 p1 σ) := by
  refine on_met [some (.ref (z + 0)), some (.int (on_i p0)), some (.int (on_i p1)), none, none] (by decide) rfl rfl (fun X => ?_)
  rw [pf_X11_pays]
  refine on_al0 (tk_X11_pays 0 rfl) ?_
  refine fg_11_2 hN kw_2_181 (tk_X11_pays 1 rfl) ?_
  refine on_il1 (tk_X11_pays 2 rfl) ?_
  refine on_cV1z 9 ms_X9_hasHouse kw_5_131 rfl rfl (ltS_0 (on_Sb2 hN)) (shS_0 (on_Sb2 hN)) (ct_X9_hasHouse hN (on_Sb2 hN)) rfl (tk_X11_pays 3 rfl) fun v1 σ2 => ?_
  refine on_if_eq (tk_X11_pays 4 rfl) (tgt := 22) (by decide) ?_ ?_
  · refine on_il2 (tk_X11_pays 5 rfl) ?_
    refine on_if_lt (tk_X11_pays 6 rfl) (tgt := 22) (by decide) ?_ ?_
    · refine on_il2 (tk_X11_pays 7 rfl) ?_
      refine on_ldcw (a := 1000000) kw_6_17 (by decide +kernel) (tk_X11_pays 8 rfl) ?_
      refine on_icmp_le (tk_X11_pays 9 rfl) (tgt := 25) (by decide) ?_ ?_
      · refine on_bipush (tk_X11_pays 10 rfl) bp_m2 ?_
        exact on_iret (tk_X11_pays 11 rfl)
      · refine on_iconst (tk_X11_pays 12 rfl) ?_
        refine on_is3 rfl (tk_X11_pays 13 rfl) ?_
        refine on_iconst (tk_X11_pays 14 rfl) ?_
        refine on_is4 rfl (tk_X11_pays 15 rfl) ?_
        exact gl_X11_pays_30 X  hN on_N _ _ _ _ _
    · refine on_bipush (tk_X11_pays 10 rfl) bp_m2 ?_
      exact on_iret (tk_X11_pays 11 rfl)
  · refine on_bipush (tk_X11_pays 10 rfl) bp_m2 ?_
    exact on_iret (tk_X11_pays 11 rfl)
def tb_X11_greatestCommon : List (Nat × Nat × Nat × Instr) := [(0, 1, 1, .iload_n 0), (1, 1, 2, .istore_n 2), (2, 1, 3, .iload_n 1), (3, 1, 4, .istore_n 3), (4, 1, 5, .iconst 0), (5, 2, 7, .istore 4), (7, 2, 9, .iload 4), (9, 2, 11, .bipush 64), (11, 3, 14, .if_icmp .ge 23), (14, 1, 15, .iload_n 3), (15, 3, 18, .ifCond .le 19), (18, 1, 19, .iload_n 2), (19, 1, 20, .iload_n 3), (20, 1, 21, .irem), (21, 2, 23, .istore 5), (23, 1, 24, .iload_n 3), (24, 1, 25, .istore_n 2), (25, 2, 27, .iload 5), (27, 1, 28, .istore_n 3), (28, 3, 31, .iinc 4 1), (31, 3, 34, .goto (-24)), (34, 1, 35, .iload_n 2), (35, 1, 36, .ireturn)]
set_option maxRecDepth 100000 in
theorem tk_X11_greatestCommon (k : Nat) {pc n pc2 : Nat} {i : Instr} (hk : tb_X11_greatestCommon[k]? = some (pc, n, pc2, i)) : on_dq cX11_greatestCommon pc n pc2 i := on_ta (by decide +kernel) k hk
theorem ms_X11_greatestCommon : on_Ms yX11_greatestCommon cX11_greatestCommon 6 (some .int) 2 := ⟨kw_6_46, kw_6_45, kw_1_1, by decide, by decide, by decide +kernel⟩
def pf_X11_greatestCommon_7 : Nat → Int → Int → Int → on_S → Option on_O
  | 0, _, _, _, _ => none
  | nf + 1, l2, l3, l4, σ =>
    on_Lt l4 64 (
      on_Le l3 0 (
        some (l2, σ)) (
        on_Rm l2 l3 fun v1 =>
        pf_X11_greatestCommon_7 nf l3 v1 (l4 + 1) σ)) (
      some (l2, σ))
def pf_X11_greatestCommon (p0 : Int) (p1 : Int) (σ : on_S) : Option on_O :=
  pf_X11_greatestCommon_7 on_N p0 p1 0 σ
set_option maxRecDepth 100000 in
set_option maxHeartbeats 4000000 in
theorem gl_X11_greatestCommon_7 {E : on_E} {z n : Nat} (X : on_X) (hN : 100 ≤ n) : ∀ (nf : Nat) (l2 : Int) (l3 : Int) (l4 : Int) (σ : on_S), on_G X E cX11_greatestCommon RX11 (some .int) 0 0 6 z n σ (pf_X11_greatestCommon_7 nf l2 l3 l4 σ) 7 [none, none, some (.int (on_i l2)), some (.int (on_i l3)), some (.int (on_i l4)), none] [] := by
  intro nf
  induction nf with
  | zero => intro l2 l3 l4 σ; exact on_none
  | succ nf ih =>
    intro l2 l3 l4 σ
    rw [pf_X11_greatestCommon_7]
    refine on_il4 (tk_X11_greatestCommon 6 rfl) ?_
    refine on_bipush (tk_X11_greatestCommon 7 rfl) bp_64 ?_
    refine on_icmp_ge (tk_X11_greatestCommon 8 rfl) (tgt := 34) (by decide) ?_ ?_
    · refine on_il3 (tk_X11_greatestCommon 9 rfl) ?_
      refine on_if_le (tk_X11_greatestCommon 10 rfl) (tgt := 34) (by decide) ?_ ?_
      · refine on_il2 (tk_X11_greatestCommon 11 rfl) ?_
        refine on_il3 (tk_X11_greatestCommon 12 rfl) ?_
        refine on_irem (tk_X11_greatestCommon 13 rfl) fun v1 => ?_
        refine on_is5 rfl (tk_X11_greatestCommon 14 rfl) ?_
        refine on_il3 (tk_X11_greatestCommon 15 rfl) ?_
        refine on_is2 rfl (tk_X11_greatestCommon 16 rfl) ?_
        refine on_il5 (tk_X11_greatestCommon 17 rfl) ?_
        refine on_is3 rfl (tk_X11_greatestCommon 18 rfl) ?_
        refine on_inc4 rfl (tk_X11_greatestCommon 19 rfl) ?_
        refine on_goto (tk_X11_greatestCommon 20 rfl) (tgt := 7) (by decide) ?_
        refine on_dr5 ?_
        exact ih _ _ _ _
      · refine on_il2 (tk_X11_greatestCommon 21 rfl) ?_
        exact on_iret (tk_X11_greatestCommon 22 rfl)
    · refine on_il2 (tk_X11_greatestCommon 21 rfl) ?_
      exact on_iret (tk_X11_greatestCommon 22 rfl)
set_option maxRecDepth 100000 in
set_option maxHeartbeats 4000000 in
theorem ct_X11_greatestCommon {E : on_E} {z n : Nat} {p0 : Int} {p1 : Int} (hN : 100 ≤ n) {σ : on_S} : on_Sp E yX11_greatestCommon cX11_greatestCommon 6 (some .int) 0 0 z n [.int (on_i p0), .int (on_i p1)] σ (pf_X11_greatestCommon p0 p1 σ) := by
  refine on_met [some (.int (on_i p0)), some (.int (on_i p1)), none, none, none, none] (by decide) rfl rfl (fun X => ?_)
  rw [pf_X11_greatestCommon]
  refine on_il0 (tk_X11_greatestCommon 0 rfl) ?_
  refine on_is2 rfl (tk_X11_greatestCommon 1 rfl) ?_
  refine on_il1 (tk_X11_greatestCommon 2 rfl) ?_
  refine on_is3 rfl (tk_X11_greatestCommon 3 rfl) ?_
  refine on_iconst (tk_X11_greatestCommon 4 rfl) ?_
  refine on_is4 rfl (tk_X11_greatestCommon 5 rfl) ?_
  refine on_dr0 ?_
  refine on_dr1 ?_
  exact gl_X11_greatestCommon_7 X  hN on_N _ _ _ _
def tb_X11_fair : List (Nat × Nat × Nat × Instr) := [(0, 1, 1, .aload_n 0), (1, 3, 4, .getfield 16), (4, 1, 5, .iload_n 1), (5, 3, 8, .invokevirtual 138), (8, 3, 11, .ifCond .eq 21), (11, 1, 12, .aload_n 0), (12, 3, 15, .getfield 16), (15, 1, 16, .iload_n 2), (16, 3, 19, .invokevirtual 346), (19, 3, 22, .ifCond .eq 10), (22, 1, 23, .iload_n 3), (23, 3, 26, .invokestatic 364), (26, 3, 29, .ifCond .ne 6), (29, 2, 31, .bipush (-2)), (31, 1, 32, .ireturn), (32, 1, 33, .aload_n 0), (33, 3, 36, .getfield 47), (36, 1, 37, .iload_n 1), (37, 1, 38, .aload_n 0), (38, 3, 41, .getfield 16), (41, 3, 44, .getfield 141), (44, 3, 47, .getfield 145), (47, 1, 48, .iload_n 1), (48, 1, 49, .iaload), (49, 3, 52, .invokevirtual 280), (52, 1, 53, .aload_n 0), (53, 3, 56, .getfield 47), (56, 3, 59, .invokevirtual 418), (59, 1, 60, .aload_n 0), (60, 3, 63, .getfield 47), (63, 1, 64, .iload_n 2), (64, 3, 67, .invokevirtual 421), (67, 2, 69, .istore 4), (69, 1, 70, .aload_n 0), (70, 3, 73, .getfield 16), (73, 3, 76, .getfield 361), (76, 3, 79, .invokestatic 424), (79, 2, 81, .istore 5), (81, 1, 82, .iconst 1), (82, 2, 84, .iload 4), (84, 2, 86, .iload 5), (86, 3, 89, .invokestatic 427), (89, 3, 92, .invokestatic 213), (92, 2, 94, .istore 6), (94, 1, 95, .iload_n 3), (95, 3, 98, .ifCond .ne 11), (98, 2, 100, .iload 4), (100, 2, 102, .iload 6), (102, 1, 103, .idiv), (103, 3, 106, .goto 8), (106, 2, 108, .iload 5), (108, 2, 110, .iload 6), (110, 1, 111, .idiv), (111, 1, 112, .ireturn)]
set_option maxRecDepth 100000 in
theorem tk_X11_fair (k : Nat) {pc n pc2 : Nat} {i : Instr} (hk : tb_X11_fair[k]? = some (pc, n, pc2, i)) : on_dq cX11_fair pc n pc2 i := on_ta (by decide +kernel) k hk
theorem ms_X11_fair : on_Mv yX11_fair cX11_fair 7 (some .int) 3 := ⟨kw_6_21, kw_6_19, kw_6_20, kw_1_1, by decide, by decide, by decide +kernel⟩
def pf_X11_fair (p0 : Int) (p1 : Int) (p2 : Int) (σ : on_S) : Option on_O :=
  on_Cl (pf_X9_hasNet 2 p0 σ) fun v1 σ2 =>
  on_Eq v1 0 (
    some ((-2), σ2)) (
    on_Cl (pf_X9_hasHouse 2 p1 σ2) fun v3 σ4 =>
    on_Eq v3 0 (
      some ((-2), σ4)) (
      on_Cl (pf_X11_isBit p2 σ4) fun v5 σ6 =>
      on_Eq v5 0 (
        some ((-2), σ6)) (
        on_Rd σ6 (2 + 15) 2 p0 fun v7 =>
        on_Cl (pf_X7_prepare p0 v7 σ6) fun _ σ9 =>
        on_Cl (pf_X7_sumByHouses σ9) fun _ σ11 =>
        on_Cl (pf_X7_addedInAllOrders p1 σ11) fun v12 σ13 =>
        on_Gt σ13 2 0 fun v14 =>
        on_Cl (pf_X11_factorial v14 σ13) fun v15 σ16 =>
        on_Cl (pf_X11_greatestCommon v12 v15 σ16) fun v17 σ18 =>
        on_Mx 1 v17 fun v19 =>
        on_Eq p2 0 (
          on_Dv v12 v19 fun v20 =>
          some (v20, σ18)) (
          on_Dv v15 v19 fun v21 =>
          some (v21, σ18)))))
set_option maxRecDepth 100000 in
set_option maxHeartbeats 4000000 in
theorem ct_X11_fair {E : on_E} {z n : Nat} {p0 : Int} {p1 : Int} {p2 : Int} (hN : 100 ≤ n) {σ : on_S} : on_Sp E yX11_fair cX11_fair 7 (some .int) 3 75 z n [.ref (z + 0), .int (on_i p0), .int (on_i p1), .int (on_i p2)] σ (pf_X11_fair p0 p1 p2 σ) := by
  refine on_met [some (.ref (z + 0)), some (.int (on_i p0)), some (.int (on_i p1)), some (.int (on_i p2)), none, none, none] (by decide) rfl rfl (fun X => ?_)
  rw [pf_X11_fair]
  refine on_al0 (tk_X11_fair 0 rfl) ?_
  refine fg_11_2 hN kw_2_181 (tk_X11_fair 1 rfl) ?_
  refine on_il1 (tk_X11_fair 2 rfl) ?_
  refine on_cV1z 9 ms_X9_hasNet kw_3_231 rfl rfl (ltS_0 (on_Sb2 hN)) (shS_0 (on_Sb2 hN)) (ct_X9_hasNet hN (on_Sb2 hN)) rfl (tk_X11_fair 3 rfl) fun v1 σ2 => ?_
  refine on_if_eq (tk_X11_fair 4 rfl) (tgt := 29) (by decide) ?_ ?_
  · refine on_al0 (tk_X11_fair 5 rfl) ?_
    refine fg_11_2 hN kw_2_181 (tk_X11_fair 6 rfl) ?_
    refine on_il2 (tk_X11_fair 7 rfl) ?_
    refine on_cV1z 9 ms_X9_hasHouse kw_5_131 rfl rfl (ltS_0 (on_Sb2 hN)) (shS_0 (on_Sb2 hN)) (ct_X9_hasHouse hN (on_Sb2 hN)) rfl (tk_X11_fair 8 rfl) fun v3 σ4 => ?_
    refine on_if_eq (tk_X11_fair 9 rfl) (tgt := 29) (by decide) ?_ ?_
    · refine on_il3 (tk_X11_fair 10 rfl) ?_
      refine on_cS1z ms_X11_isBit kw_5_172 (ct_X11_isBit hN) rfl (tk_X11_fair 11 rfl) fun v5 σ6 => ?_
      refine on_if_ne (tk_X11_fair 12 rfl) (tgt := 32) (by decide) ?_ ?_
      · refine on_bipush (tk_X11_fair 13 rfl) bp_m2 ?_
        exact on_iret (tk_X11_fair 14 rfl)
      · refine on_al0 (tk_X11_fair 15 rfl) ?_
        refine fg_11_7 hN kw_2_186 (tk_X11_fair 16 rfl) ?_
        refine on_il1 (tk_X11_fair 17 rfl) ?_
        refine on_al0 (tk_X11_fair 18 rfl) ?_
        refine fg_11_2 hN kw_2_181 (tk_X11_fair 19 rfl) ?_
        refine fg_9_13 (on_Sb2 hN) kw_1_195 (tk_X11_fair 20 rfl) ?_
        refine fg_4_1 (on_Sb2 hN) kw_1_93 (tk_X11_fair 21 rfl) ?_
        refine on_il1 (tk_X11_fair 22 rfl) ?_
        refine on_iald (ltS_15 (on_Sb2 hN)) (shS_15 (on_Sb2 hN)) (tk_X11_fair 23 rfl) fun v7 => ?_
        refine on_cV2v 7 ms_X7_prepare kw_4_212 rfl rfl (ltc_55 hN) sh_55 (ct_X7_prepare hN) rfl (tk_X11_fair 24 rfl) fun v8 σ9 => ?_
        refine on_al0 (tk_X11_fair 25 rfl) ?_
        refine fg_11_7 hN kw_2_186 (tk_X11_fair 26 rfl) ?_
        refine on_cV0v 7 ms_X7_sumByHouses kw_6_22 rfl rfl (ltc_55 hN) sh_55 (ct_X7_sumByHouses hN) rfl (tk_X11_fair 27 rfl) fun v10 σ11 => ?_
        refine on_al0 (tk_X11_fair 28 rfl) ?_
        refine fg_11_7 hN kw_2_186 (tk_X11_fair 29 rfl) ?_
        refine on_il2 (tk_X11_fair 30 rfl) ?_
        refine on_cV1i 7 ms_X7_addedInAllOrders kw_6_31 rfl rfl (ltc_55 hN) sh_55 (ct_X7_addedInAllOrders hN) rfl (tk_X11_fair 31 rfl) fun v12 σ13 => ?_
        refine on_is4 rfl (tk_X11_fair 32 rfl) ?_
        refine on_al0 (tk_X11_fair 33 rfl) ?_
        refine fg_11_2 hN kw_2_181 (tk_X11_fair 34 rfl) ?_
        refine fg_9_0 (on_Sb2 hN) kw_1_156 (tk_X11_fair 35 rfl) fun v14 => ?_
        refine on_cS1i ms_X11_factorial kw_6_43 (ct_X11_factorial hN) rfl (tk_X11_fair 36 rfl) fun v15 σ16 => ?_
        refine on_is5 rfl (tk_X11_fair 37 rfl) ?_
        refine on_iconst (tk_X11_fair 38 rfl) ?_
        refine on_il4 (tk_X11_fair 39 rfl) ?_
        refine on_il5 (tk_X11_fair 40 rfl) ?_
        refine on_cS2i ms_X11_greatestCommon kw_6_44 (ct_X11_greatestCommon hN) rfl (tk_X11_fair 41 rfl) fun v17 σ18 => ?_
        refine on_max kw_4_112 kwM_max_s kwM_i kwM_max_c rfl (tk_X11_fair 42 rfl) fun v19 => ?_
        refine on_is6 rfl (tk_X11_fair 43 rfl) ?_
        refine on_il3 (tk_X11_fair 44 rfl) ?_
        refine on_if_ne (tk_X11_fair 45 rfl) (tgt := 106) (by decide) ?_ ?_
        · refine on_il4 (tk_X11_fair 46 rfl) ?_
          refine on_il6 (tk_X11_fair 47 rfl) ?_
          refine on_idiv (tk_X11_fair 48 rfl) fun v20 => ?_
          refine on_goto (tk_X11_fair 49 rfl) (tgt := 111) (by decide) ?_
          exact on_iret (tk_X11_fair 53 rfl)
        · refine on_il5 (tk_X11_fair 50 rfl) ?_
          refine on_il6 (tk_X11_fair 51 rfl) ?_
          refine on_idiv (tk_X11_fair 52 rfl) fun v21 => ?_
          exact on_iret (tk_X11_fair 53 rfl)
    · refine on_bipush (tk_X11_fair 13 rfl) bp_m2 ?_
      exact on_iret (tk_X11_fair 14 rfl)
  · refine on_bipush (tk_X11_fair 13 rfl) bp_m2 ?_
    exact on_iret (tk_X11_fair 14 rfl)
def tb_X11_without : List (Nat × Nat × Nat × Instr) := [(0, 1, 1, .aload_n 0), (1, 3, 4, .getfield 16), (4, 1, 5, .iload_n 1), (5, 3, 8, .invokevirtual 138), (8, 3, 11, .ifCond .eq 14), (11, 1, 12, .aload_n 0), (12, 3, 15, .getfield 16), (15, 1, 16, .iload_n 2), (16, 3, 19, .invokevirtual 346), (19, 3, 22, .ifCond .ne 6), (22, 2, 24, .bipush (-2)), (24, 1, 25, .ireturn), (25, 1, 26, .aload_n 0), (26, 3, 29, .getfield 47), (29, 1, 30, .iload_n 1), (30, 1, 31, .aload_n 0), (31, 3, 34, .getfield 16), (34, 3, 37, .getfield 141), (37, 3, 40, .getfield 145), (40, 1, 41, .iload_n 1), (41, 1, 42, .iaload), (42, 3, 45, .invokevirtual 280), (45, 1, 46, .aload_n 0), (46, 3, 49, .getfield 47), (49, 3, 52, .invokevirtual 418), (52, 1, 53, .iconst 1), (53, 1, 54, .aload_n 0), (54, 3, 57, .getfield 16), (57, 3, 60, .getfield 361), (60, 1, 61, .ishl), (61, 1, 62, .iconst 1), (62, 1, 63, .isub), (63, 1, 64, .istore_n 3), (64, 1, 65, .aload_n 0), (65, 3, 68, .getfield 47), (68, 1, 69, .iload_n 3), (69, 1, 70, .iconst 1), (70, 1, 71, .iload_n 2), (71, 1, 72, .ishl), (72, 1, 73, .iconst (-1)), (73, 1, 74, .ixor), (74, 1, 75, .iand), (75, 3, 78, .invokevirtual 430), (78, 1, 79, .ireturn)]
set_option maxRecDepth 100000 in
theorem tk_X11_without (k : Nat) {pc n pc2 : Nat} {i : Instr} (hk : tb_X11_without[k]? = some (pc, n, pc2, i)) : on_dq cX11_without pc n pc2 i := on_ta (by decide +kernel) k hk
theorem ms_X11_without : on_Mv yX11_without cX11_without 4 (some .int) 2 := ⟨kw_6_50, kw_6_48, kw_6_49, kw_1_1, by decide, by decide, by decide +kernel⟩
def pf_X11_without (p0 : Int) (p1 : Int) (σ : on_S) : Option on_O :=
  on_Cl (pf_X9_hasNet 2 p0 σ) fun v1 σ2 =>
  on_Eq v1 0 (
    some ((-2), σ2)) (
    on_Cl (pf_X9_hasHouse 2 p1 σ2) fun v3 σ4 =>
    on_Eq v3 0 (
      some ((-2), σ4)) (
      on_Rd σ4 (2 + 15) 2 p0 fun v5 =>
      on_Cl (pf_X7_prepare p0 v5 σ4) fun _ σ7 =>
      on_Cl (pf_X7_sumByHouses σ7) fun _ σ9 =>
      on_Gt σ9 2 0 fun v10 =>
      on_Cl (pf_X7_worthOf (on_and ((on_shl 1 v10) - 1) (on_xor (on_shl 1 p1) (-1))) σ9) fun v11 σ12 =>
      some (v11, σ12)))
set_option maxRecDepth 100000 in
set_option maxHeartbeats 4000000 in
theorem ct_X11_without {E : on_E} {z n : Nat} {p0 : Int} {p1 : Int} (hN : 100 ≤ n) {σ : on_S} : on_Sp E yX11_without cX11_without 4 (some .int) 3 75 z n [.ref (z + 0), .int (on_i p0), .int (on_i p1)] σ (pf_X11_without p0 p1 σ) := by
  refine on_met [some (.ref (z + 0)), some (.int (on_i p0)), some (.int (on_i p1)), none] (by decide) rfl rfl (fun X => ?_)
  rw [pf_X11_without]
  refine on_al0 (tk_X11_without 0 rfl) ?_
  refine fg_11_2 hN kw_2_181 (tk_X11_without 1 rfl) ?_
  refine on_il1 (tk_X11_without 2 rfl) ?_
  refine on_cV1z 9 ms_X9_hasNet kw_3_231 rfl rfl (ltS_0 (on_Sb2 hN)) (shS_0 (on_Sb2 hN)) (ct_X9_hasNet hN (on_Sb2 hN)) rfl (tk_X11_without 3 rfl) fun v1 σ2 => ?_
  refine on_if_eq (tk_X11_without 4 rfl) (tgt := 22) (by decide) ?_ ?_
  · refine on_al0 (tk_X11_without 5 rfl) ?_
    refine fg_11_2 hN kw_2_181 (tk_X11_without 6 rfl) ?_
    refine on_il2 (tk_X11_without 7 rfl) ?_
    refine on_cV1z 9 ms_X9_hasHouse kw_5_131 rfl rfl (ltS_0 (on_Sb2 hN)) (shS_0 (on_Sb2 hN)) (ct_X9_hasHouse hN (on_Sb2 hN)) rfl (tk_X11_without 8 rfl) fun v3 σ4 => ?_
    refine on_if_ne (tk_X11_without 9 rfl) (tgt := 25) (by decide) ?_ ?_
    · refine on_bipush (tk_X11_without 10 rfl) bp_m2 ?_
      exact on_iret (tk_X11_without 11 rfl)
    · refine on_al0 (tk_X11_without 12 rfl) ?_
      refine fg_11_7 hN kw_2_186 (tk_X11_without 13 rfl) ?_
      refine on_il1 (tk_X11_without 14 rfl) ?_
      refine on_al0 (tk_X11_without 15 rfl) ?_
      refine fg_11_2 hN kw_2_181 (tk_X11_without 16 rfl) ?_
      refine fg_9_13 (on_Sb2 hN) kw_1_195 (tk_X11_without 17 rfl) ?_
      refine fg_4_1 (on_Sb2 hN) kw_1_93 (tk_X11_without 18 rfl) ?_
      refine on_il1 (tk_X11_without 19 rfl) ?_
      refine on_iald (ltS_15 (on_Sb2 hN)) (shS_15 (on_Sb2 hN)) (tk_X11_without 20 rfl) fun v5 => ?_
      refine on_cV2v 7 ms_X7_prepare kw_4_212 rfl rfl (ltc_55 hN) sh_55 (ct_X7_prepare hN) rfl (tk_X11_without 21 rfl) fun v6 σ7 => ?_
      refine on_al0 (tk_X11_without 22 rfl) ?_
      refine fg_11_7 hN kw_2_186 (tk_X11_without 23 rfl) ?_
      refine on_cV0v 7 ms_X7_sumByHouses kw_6_22 rfl rfl (ltc_55 hN) sh_55 (ct_X7_sumByHouses hN) rfl (tk_X11_without 24 rfl) fun v8 σ9 => ?_
      refine on_iconst (tk_X11_without 25 rfl) ?_
      refine on_al0 (tk_X11_without 26 rfl) ?_
      refine fg_11_2 hN kw_2_181 (tk_X11_without 27 rfl) ?_
      refine fg_9_0 (on_Sb2 hN) kw_1_156 (tk_X11_without 28 rfl) fun v10 => ?_
      refine on_ishl (tk_X11_without 29 rfl) ?_
      refine on_iconst (tk_X11_without 30 rfl) ?_
      refine on_isub (tk_X11_without 31 rfl) ?_
      refine on_is3 rfl (tk_X11_without 32 rfl) ?_
      refine on_al0 (tk_X11_without 33 rfl) ?_
      refine fg_11_7 hN kw_2_186 (tk_X11_without 34 rfl) ?_
      refine on_il3 (tk_X11_without 35 rfl) ?_
      refine on_iconst (tk_X11_without 36 rfl) ?_
      refine on_il2 (tk_X11_without 37 rfl) ?_
      refine on_ishl (tk_X11_without 38 rfl) ?_
      refine on_iconst (tk_X11_without 39 rfl) ?_
      refine on_ixor (tk_X11_without 40 rfl) ?_
      refine on_iand (tk_X11_without 41 rfl) ?_
      refine on_cV1i 7 ms_X7_worthOf kw_6_51 rfl rfl (ltc_55 hN) sh_55 (ct_X7_worthOf hN) rfl (tk_X11_without 42 rfl) fun v11 σ12 => ?_
      exact on_iret (tk_X11_without 43 rfl)
  · refine on_bipush (tk_X11_without 10 rfl) bp_m2 ?_
    exact on_iret (tk_X11_without 11 rfl)
def tb_X11_mend : List (Nat × Nat × Nat × Instr) := [(0, 1, 1, .aload_n 0), (1, 3, 4, .getfield 16), (4, 1, 5, .iload_n 1), (5, 1, 6, .iload_n 2), (6, 3, 9, .invokevirtual 163), (9, 3, 12, .ifCond .eq 13), (12, 1, 13, .iload_n 3), (13, 3, 16, .ifCond .lt 9), (16, 1, 17, .iload_n 3), (17, 2, 19, .bipush 99), (19, 3, 22, .if_icmp .le 6), (22, 2, 24, .bipush (-2)), (24, 1, 25, .ireturn), (25, 1, 26, .aload_n 0), (26, 3, 29, .getfield 16), (29, 3, 32, .getfield 141), (32, 3, 35, .getfield 167), (35, 1, 36, .iload_n 1), (36, 1, 37, .iconst 4), (37, 1, 38, .imul), (38, 1, 39, .iload_n 2), (39, 1, 40, .iadd), (40, 1, 41, .iaload), (41, 2, 43, .istore 4), (43, 1, 44, .aload_n 0), (44, 3, 47, .getfield 16), (47, 3, 50, .getfield 141), (50, 3, 53, .getfield 167), (53, 1, 54, .iload_n 1), (54, 1, 55, .iconst 4), (55, 1, 56, .imul), (56, 1, 57, .iload_n 2), (57, 1, 58, .iadd), (58, 1, 59, .iload_n 3), (59, 1, 60, .iastore), (60, 2, 62, .iload 4), (62, 1, 63, .ireturn)]
set_option maxRecDepth 100000 in
theorem tk_X11_mend (k : Nat) {pc n pc2 : Nat} {i : Instr} (hk : tb_X11_mend[k]? = some (pc, n, pc2, i)) : on_dq cX11_mend pc n pc2 i := on_ta (by decide +kernel) k hk
theorem ms_X11_mend : on_Mv yX11_mend cX11_mend 5 (some .int) 3 := ⟨kw_6_55, kw_6_53, kw_6_54, kw_1_1, by decide, by decide, by decide +kernel⟩
def pf_X11_mend (p0 : Int) (p1 : Int) (p2 : Int) (σ : on_S) : Option on_O :=
  on_Cl (pf_X9_hasCorner 2 p0 p1 σ) fun v1 σ2 =>
  on_Eq v1 0 (
    some ((-2), σ2)) (
    on_Lt p2 0 (
      some ((-2), σ2)) (
      on_Le p2 99 (
        on_Rd σ2 (2 + 18) 8 ((p0 * 4) + p1) fun v3 =>
        on_Wr σ2 (2 + 18) 8 ((p0 * 4) + p1) p2 fun σ4 =>
        some (v3, σ4)) (
        some ((-2), σ2))))
set_option maxRecDepth 100000 in
set_option maxHeartbeats 4000000 in
theorem ct_X11_mend {E : on_E} {z n : Nat} {p0 : Int} {p1 : Int} {p2 : Int} (hN : 100 ≤ n) {σ : on_S} : on_Sp E yX11_mend cX11_mend 5 (some .int) 2 43 z n [.ref (z + 0), .int (on_i p0), .int (on_i p1), .int (on_i p2)] σ (pf_X11_mend p0 p1 p2 σ) := by
  refine on_met [some (.ref (z + 0)), some (.int (on_i p0)), some (.int (on_i p1)), some (.int (on_i p2)), none] (by decide) rfl rfl (fun X => ?_)
  rw [pf_X11_mend]
  refine on_al0 (tk_X11_mend 0 rfl) ?_
  refine fg_11_2 hN kw_2_181 (tk_X11_mend 1 rfl) ?_
  refine on_il1 (tk_X11_mend 2 rfl) ?_
  refine on_il2 (tk_X11_mend 3 rfl) ?_
  refine on_cV2z 9 ms_X9_hasCorner kw_4_39 rfl rfl (ltS_0 (on_Sb2 hN)) (shS_0 (on_Sb2 hN)) (ct_X9_hasCorner hN (on_Sb2 hN)) rfl (tk_X11_mend 4 rfl) fun v1 σ2 => ?_
  refine on_if_eq (tk_X11_mend 5 rfl) (tgt := 22) (by decide) ?_ ?_
  · refine on_il3 (tk_X11_mend 6 rfl) ?_
    refine on_if_lt (tk_X11_mend 7 rfl) (tgt := 22) (by decide) ?_ ?_
    · refine on_il3 (tk_X11_mend 8 rfl) ?_
      refine on_bipush (tk_X11_mend 9 rfl) bp_99 ?_
      refine on_icmp_le (tk_X11_mend 10 rfl) (tgt := 25) (by decide) ?_ ?_
      · refine on_bipush (tk_X11_mend 11 rfl) bp_m2 ?_
        exact on_iret (tk_X11_mend 12 rfl)
      · refine on_al0 (tk_X11_mend 13 rfl) ?_
        refine fg_11_2 hN kw_2_181 (tk_X11_mend 14 rfl) ?_
        refine fg_9_13 (on_Sb2 hN) kw_1_195 (tk_X11_mend 15 rfl) ?_
        refine fg_4_4 (on_Sb2 hN) kw_1_108 (tk_X11_mend 16 rfl) ?_
        refine on_il1 (tk_X11_mend 17 rfl) ?_
        refine on_iconst (tk_X11_mend 18 rfl) ?_
        refine on_imul (tk_X11_mend 19 rfl) ?_
        refine on_il2 (tk_X11_mend 20 rfl) ?_
        refine on_iadd (tk_X11_mend 21 rfl) ?_
        refine on_iald (ltS_18 (on_Sb2 hN)) (shS_18 (on_Sb2 hN)) (tk_X11_mend 22 rfl) fun v3 => ?_
        refine on_is4 rfl (tk_X11_mend 23 rfl) ?_
        refine on_al0 (tk_X11_mend 24 rfl) ?_
        refine fg_11_2 hN kw_2_181 (tk_X11_mend 25 rfl) ?_
        refine fg_9_13 (on_Sb2 hN) kw_1_195 (tk_X11_mend 26 rfl) ?_
        refine fg_4_4 (on_Sb2 hN) kw_1_108 (tk_X11_mend 27 rfl) ?_
        refine on_il1 (tk_X11_mend 28 rfl) ?_
        refine on_iconst (tk_X11_mend 29 rfl) ?_
        refine on_imul (tk_X11_mend 30 rfl) ?_
        refine on_il2 (tk_X11_mend 31 rfl) ?_
        refine on_iadd (tk_X11_mend 32 rfl) ?_
        refine on_il3 (tk_X11_mend 33 rfl) ?_
        refine on_iast (ltS_18 (on_Sb2 hN)) (shS_18 (on_Sb2 hN)) (tk_X11_mend 34 rfl) fun σ4 => ?_
        refine on_il4 (tk_X11_mend 35 rfl) ?_
        exact on_iret (tk_X11_mend 36 rfl)
    · refine on_bipush (tk_X11_mend 11 rfl) bp_m2 ?_
      exact on_iret (tk_X11_mend 12 rfl)
  · refine on_bipush (tk_X11_mend 11 rfl) bp_m2 ?_
    exact on_iret (tk_X11_mend 12 rfl)
def tb_X11_wet : List (Nat × Nat × Nat × Instr) := [(0, 1, 1, .aload_n 0), (1, 3, 4, .getfield 16), (4, 1, 5, .iload_n 1), (5, 3, 8, .invokevirtual 138), (8, 3, 11, .ifCond .eq 10), (11, 1, 12, .iload_n 2), (12, 3, 15, .invokestatic 364), (15, 3, 18, .ifCond .ne 6), (18, 2, 20, .bipush (-2)), (20, 1, 21, .ireturn), (21, 1, 22, .aload_n 0), (22, 3, 25, .getfield 16), (25, 3, 28, .getfield 141), (28, 3, 31, .getfield 153), (31, 1, 32, .iload_n 1), (32, 1, 33, .iaload), (33, 1, 34, .istore_n 3), (34, 1, 35, .aload_n 0), (35, 3, 38, .getfield 16), (38, 3, 41, .getfield 141), (41, 3, 44, .getfield 153), (44, 1, 45, .iload_n 1), (45, 1, 46, .iload_n 2), (46, 1, 47, .iastore), (47, 1, 48, .iload_n 3), (48, 1, 49, .ireturn)]
set_option maxRecDepth 100000 in
theorem tk_X11_wet (k : Nat) {pc n pc2 : Nat} {i : Instr} (hk : tb_X11_wet[k]? = some (pc, n, pc2, i)) : on_dq cX11_wet pc n pc2 i := on_ta (by decide +kernel) k hk
theorem ms_X11_wet : on_Mv yX11_wet cX11_wet 4 (some .int) 2 := ⟨kw_6_59, kw_6_57, kw_6_58, kw_1_1, by decide, by decide, by decide +kernel⟩
def pf_X11_wet (p0 : Int) (p1 : Int) (σ : on_S) : Option on_O :=
  on_Cl (pf_X9_hasNet 2 p0 σ) fun v1 σ2 =>
  on_Eq v1 0 (
    some ((-2), σ2)) (
    on_Cl (pf_X11_isBit p1 σ2) fun v3 σ4 =>
    on_Eq v3 0 (
      some ((-2), σ4)) (
      on_Rd σ4 (2 + 17) 2 p0 fun v5 =>
      on_Wr σ4 (2 + 17) 2 p0 p1 fun σ6 =>
      some (v5, σ6)))
set_option maxRecDepth 100000 in
set_option maxHeartbeats 4000000 in
theorem ct_X11_wet {E : on_E} {z n : Nat} {p0 : Int} {p1 : Int} (hN : 100 ≤ n) {σ : on_S} : on_Sp E yX11_wet cX11_wet 4 (some .int) 1 21 z n [.ref (z + 0), .int (on_i p0), .int (on_i p1)] σ (pf_X11_wet p0 p1 σ) := by
  refine on_met [some (.ref (z + 0)), some (.int (on_i p0)), some (.int (on_i p1)), none] (by decide) rfl rfl (fun X => ?_)
  rw [pf_X11_wet]
  refine on_al0 (tk_X11_wet 0 rfl) ?_
  refine fg_11_2 hN kw_2_181 (tk_X11_wet 1 rfl) ?_
  refine on_il1 (tk_X11_wet 2 rfl) ?_
  refine on_cV1z 9 ms_X9_hasNet kw_3_231 rfl rfl (ltS_0 (on_Sb2 hN)) (shS_0 (on_Sb2 hN)) (ct_X9_hasNet hN (on_Sb2 hN)) rfl (tk_X11_wet 3 rfl) fun v1 σ2 => ?_
  refine on_if_eq (tk_X11_wet 4 rfl) (tgt := 18) (by decide) ?_ ?_
  · refine on_il2 (tk_X11_wet 5 rfl) ?_
    refine on_cS1z ms_X11_isBit kw_5_172 (ct_X11_isBit hN) rfl (tk_X11_wet 6 rfl) fun v3 σ4 => ?_
    refine on_if_ne (tk_X11_wet 7 rfl) (tgt := 21) (by decide) ?_ ?_
    · refine on_bipush (tk_X11_wet 8 rfl) bp_m2 ?_
      exact on_iret (tk_X11_wet 9 rfl)
    · refine on_al0 (tk_X11_wet 10 rfl) ?_
      refine fg_11_2 hN kw_2_181 (tk_X11_wet 11 rfl) ?_
      refine fg_9_13 (on_Sb2 hN) kw_1_195 (tk_X11_wet 12 rfl) ?_
      refine fg_4_3 (on_Sb2 hN) kw_1_103 (tk_X11_wet 13 rfl) ?_
      refine on_il1 (tk_X11_wet 14 rfl) ?_
      refine on_iald (ltS_17 (on_Sb2 hN)) (shS_17 (on_Sb2 hN)) (tk_X11_wet 15 rfl) fun v5 => ?_
      refine on_is3 rfl (tk_X11_wet 16 rfl) ?_
      refine on_al0 (tk_X11_wet 17 rfl) ?_
      refine fg_11_2 hN kw_2_181 (tk_X11_wet 18 rfl) ?_
      refine fg_9_13 (on_Sb2 hN) kw_1_195 (tk_X11_wet 19 rfl) ?_
      refine fg_4_3 (on_Sb2 hN) kw_1_103 (tk_X11_wet 20 rfl) ?_
      refine on_il1 (tk_X11_wet 21 rfl) ?_
      refine on_il2 (tk_X11_wet 22 rfl) ?_
      refine on_iast (ltS_17 (on_Sb2 hN)) (shS_17 (on_Sb2 hN)) (tk_X11_wet 23 rfl) fun σ6 => ?_
      refine on_il3 (tk_X11_wet 24 rfl) ?_
      exact on_iret (tk_X11_wet 25 rfl)
  · refine on_bipush (tk_X11_wet 8 rfl) bp_m2 ?_
    exact on_iret (tk_X11_wet 9 rfl)
def tb_X11_anger : List (Nat × Nat × Nat × Instr) := [(0, 1, 1, .aload_n 0), (1, 3, 4, .getfield 16), (4, 1, 5, .iload_n 1), (5, 1, 6, .iload_n 2), (6, 3, 9, .invokevirtual 189), (9, 3, 12, .ifCond .eq 13), (12, 1, 13, .iload_n 3), (13, 3, 16, .ifCond .lt 9), (16, 1, 17, .iload_n 3), (17, 2, 19, .bipush 9), (19, 3, 22, .if_icmp .le 6), (22, 2, 24, .bipush (-2)), (24, 1, 25, .ireturn), (25, 1, 26, .aload_n 0), (26, 3, 29, .getfield 16), (29, 3, 32, .getfield 122), (32, 1, 33, .iload_n 1), (33, 1, 34, .iload_n 2), (34, 3, 37, .invokevirtual 192), (37, 2, 39, .istore 4), (39, 1, 40, .aload_n 0), (40, 3, 43, .getfield 16), (43, 3, 46, .getfield 122), (46, 1, 47, .iload_n 1), (47, 1, 48, .iload_n 2), (48, 1, 49, .iload_n 3), (49, 3, 52, .invokevirtual 433), (52, 2, 54, .iload 4), (54, 1, 55, .ireturn)]
set_option maxRecDepth 100000 in
theorem tk_X11_anger (k : Nat) {pc n pc2 : Nat} {i : Instr} (hk : tb_X11_anger[k]? = some (pc, n, pc2, i)) : on_dq cX11_anger pc n pc2 i := on_ta (by decide +kernel) k hk
theorem ms_X11_anger : on_Mv yX11_anger cX11_anger 5 (some .int) 3 := ⟨kw_6_63, kw_6_61, kw_6_62, kw_1_1, by decide, by decide, by decide +kernel⟩
def pf_X11_anger (p0 : Int) (p1 : Int) (p2 : Int) (σ : on_S) : Option on_O :=
  on_Cl (pf_X9_hasTwoMen 2 p0 p1 σ) fun v1 σ2 =>
  on_Eq v1 0 (
    some ((-2), σ2)) (
    on_Lt p2 0 (
      some ((-2), σ2)) (
      on_Le p2 9 (
        on_Cl (pf_X3_quarrelOf 2 p0 p1 σ2) fun v3 σ4 =>
        on_Cl (pf_X3_setQuarrel 2 p0 p1 p2 σ4) fun _ σ6 =>
        some (v3, σ6)) (
        some ((-2), σ2))))
set_option maxRecDepth 100000 in
set_option maxHeartbeats 4000000 in
theorem ct_X11_anger {E : on_E} {z n : Nat} {p0 : Int} {p1 : Int} {p2 : Int} (hN : 100 ≤ n) {σ : on_S} : on_Sp E yX11_anger cX11_anger 5 (some .int) 2 43 z n [.ref (z + 0), .int (on_i p0), .int (on_i p1), .int (on_i p2)] σ (pf_X11_anger p0 p1 p2 σ) := by
  refine on_met [some (.ref (z + 0)), some (.int (on_i p0)), some (.int (on_i p1)), some (.int (on_i p2)), none] (by decide) rfl rfl (fun X => ?_)
  rw [pf_X11_anger]
  refine on_al0 (tk_X11_anger 0 rfl) ?_
  refine fg_11_2 hN kw_2_181 (tk_X11_anger 1 rfl) ?_
  refine on_il1 (tk_X11_anger 2 rfl) ?_
  refine on_il2 (tk_X11_anger 3 rfl) ?_
  refine on_cV2z 9 ms_X9_hasTwoMen kw_4_61 rfl rfl (ltS_0 (on_Sb2 hN)) (shS_0 (on_Sb2 hN)) (ct_X9_hasTwoMen hN (on_Sb2 hN)) rfl (tk_X11_anger 4 rfl) fun v1 σ2 => ?_
  refine on_if_eq (tk_X11_anger 5 rfl) (tgt := 22) (by decide) ?_ ?_
  · refine on_il3 (tk_X11_anger 6 rfl) ?_
    refine on_if_lt (tk_X11_anger 7 rfl) (tgt := 22) (by decide) ?_ ?_
    · refine on_il3 (tk_X11_anger 8 rfl) ?_
      refine on_bipush (tk_X11_anger 9 rfl) bp_9 ?_
      refine on_icmp_le (tk_X11_anger 10 rfl) (tgt := 25) (by decide) ?_ ?_
      · refine on_bipush (tk_X11_anger 11 rfl) bp_m2 ?_
        exact on_iret (tk_X11_anger 12 rfl)
      · refine on_al0 (tk_X11_anger 13 rfl) ?_
        refine fg_11_2 hN kw_2_181 (tk_X11_anger 14 rfl) ?_
        refine fg_9_12 (on_Sb2 hN) kw_1_188 (tk_X11_anger 15 rfl) ?_
        refine on_il1 (tk_X11_anger 16 rfl) ?_
        refine on_il2 (tk_X11_anger 17 rfl) ?_
        refine on_cV2i 3 ms_X3_quarrelOf kw_4_66 rfl rfl (ltS_8 (on_Sb2 hN)) (shS_8 (on_Sb2 hN)) (ct_X3_quarrelOf hN (on_Sb2 hN)) rfl (tk_X11_anger 18 rfl) fun v3 σ4 => ?_
        refine on_is4 rfl (tk_X11_anger 19 rfl) ?_
        refine on_al0 (tk_X11_anger 20 rfl) ?_
        refine fg_11_2 hN kw_2_181 (tk_X11_anger 21 rfl) ?_
        refine fg_9_12 (on_Sb2 hN) kw_1_188 (tk_X11_anger 22 rfl) ?_
        refine on_il1 (tk_X11_anger 23 rfl) ?_
        refine on_il2 (tk_X11_anger 24 rfl) ?_
        refine on_il3 (tk_X11_anger 25 rfl) ?_
        refine on_cV3v 3 ms_X3_setQuarrel kw_6_64 rfl rfl (ltS_8 (on_Sb2 hN)) (shS_8 (on_Sb2 hN)) (ct_X3_setQuarrel hN (on_Sb2 hN)) rfl (tk_X11_anger 26 rfl) fun v5 σ6 => ?_
        refine on_il4 (tk_X11_anger 27 rfl) ?_
        exact on_iret (tk_X11_anger 28 rfl)
    · refine on_bipush (tk_X11_anger 11 rfl) bp_m2 ?_
      exact on_iret (tk_X11_anger 12 rfl)
  · refine on_bipush (tk_X11_anger 11 rfl) bp_m2 ?_
    exact on_iret (tk_X11_anger 12 rfl)
def tb_X11_truce : List (Nat × Nat × Nat × Instr) := [(0, 1, 1, .aload_n 0), (1, 3, 4, .getfield 16), (4, 1, 5, .iload_n 1), (5, 1, 6, .iload_n 2), (6, 3, 9, .invokevirtual 195), (9, 3, 12, .ifCond .eq 10), (12, 1, 13, .iload_n 3), (13, 3, 16, .invokestatic 364), (16, 3, 19, .ifCond .ne 6), (19, 2, 21, .bipush (-2)), (21, 1, 22, .ireturn), (22, 1, 23, .aload_n 0), (23, 3, 26, .getfield 16), (26, 3, 29, .getfield 198), (29, 1, 30, .iload_n 1), (30, 1, 31, .iconst 4), (31, 1, 32, .imul), (32, 1, 33, .iload_n 2), (33, 1, 34, .iadd), (34, 1, 35, .iaload), (35, 2, 37, .istore 4), (37, 1, 38, .aload_n 0), (38, 3, 41, .getfield 16), (41, 1, 42, .iload_n 1), (42, 1, 43, .iload_n 2), (43, 1, 44, .iload_n 3), (44, 3, 47, .invokevirtual 436), (47, 2, 49, .iload 4), (49, 1, 50, .ireturn)]
set_option maxRecDepth 100000 in
theorem tk_X11_truce (k : Nat) {pc n pc2 : Nat} {i : Instr} (hk : tb_X11_truce[k]? = some (pc, n, pc2, i)) : on_dq cX11_truce pc n pc2 i := on_ta (by decide +kernel) k hk
theorem ms_X11_truce : on_Mv yX11_truce cX11_truce 5 (some .int) 3 := ⟨kw_6_68, kw_6_66, kw_6_67, kw_1_1, by decide, by decide, by decide +kernel⟩
def pf_X11_truce (p0 : Int) (p1 : Int) (p2 : Int) (σ : on_S) : Option on_O :=
  on_Cl (pf_X9_hasTwoHouses 2 p0 p1 σ) fun v1 σ2 =>
  on_Eq v1 0 (
    some ((-2), σ2)) (
    on_Cl (pf_X11_isBit p2 σ2) fun v3 σ4 =>
    on_Eq v3 0 (
      some ((-2), σ4)) (
      on_Rd σ4 (2 + 6) 16 ((p0 * 4) + p1) fun v5 =>
      on_Cl (pf_X9_setFeud 2 p0 p1 p2 σ4) fun _ σ7 =>
      some (v5, σ7)))
set_option maxRecDepth 100000 in
set_option maxHeartbeats 4000000 in
theorem ct_X11_truce {E : on_E} {z n : Nat} {p0 : Int} {p1 : Int} {p2 : Int} (hN : 100 ≤ n) {σ : on_S} : on_Sp E yX11_truce cX11_truce 5 (some .int) 2 43 z n [.ref (z + 0), .int (on_i p0), .int (on_i p1), .int (on_i p2)] σ (pf_X11_truce p0 p1 p2 σ) := by
  refine on_met [some (.ref (z + 0)), some (.int (on_i p0)), some (.int (on_i p1)), some (.int (on_i p2)), none] (by decide) rfl rfl (fun X => ?_)
  rw [pf_X11_truce]
  refine on_al0 (tk_X11_truce 0 rfl) ?_
  refine fg_11_2 hN kw_2_181 (tk_X11_truce 1 rfl) ?_
  refine on_il1 (tk_X11_truce 2 rfl) ?_
  refine on_il2 (tk_X11_truce 3 rfl) ?_
  refine on_cV2z 9 ms_X9_hasTwoHouses kw_4_74 rfl rfl (ltS_0 (on_Sb2 hN)) (shS_0 (on_Sb2 hN)) (ct_X9_hasTwoHouses hN (on_Sb2 hN)) rfl (tk_X11_truce 4 rfl) fun v1 σ2 => ?_
  refine on_if_eq (tk_X11_truce 5 rfl) (tgt := 19) (by decide) ?_ ?_
  · refine on_il3 (tk_X11_truce 6 rfl) ?_
    refine on_cS1z ms_X11_isBit kw_5_172 (ct_X11_isBit hN) rfl (tk_X11_truce 7 rfl) fun v3 σ4 => ?_
    refine on_if_ne (tk_X11_truce 8 rfl) (tgt := 22) (by decide) ?_ ?_
    · refine on_bipush (tk_X11_truce 9 rfl) bp_m2 ?_
      exact on_iret (tk_X11_truce 10 rfl)
    · refine on_al0 (tk_X11_truce 11 rfl) ?_
      refine fg_11_2 hN kw_2_181 (tk_X11_truce 12 rfl) ?_
      refine fg_9_10 (on_Sb2 hN) kw_1_182 (tk_X11_truce 13 rfl) ?_
      refine on_il1 (tk_X11_truce 14 rfl) ?_
      refine on_iconst (tk_X11_truce 15 rfl) ?_
      refine on_imul (tk_X11_truce 16 rfl) ?_
      refine on_il2 (tk_X11_truce 17 rfl) ?_
      refine on_iadd (tk_X11_truce 18 rfl) ?_
      refine on_iald (ltS_6 (on_Sb2 hN)) (shS_6 (on_Sb2 hN)) (tk_X11_truce 19 rfl) fun v5 => ?_
      refine on_is4 rfl (tk_X11_truce 20 rfl) ?_
      refine on_al0 (tk_X11_truce 21 rfl) ?_
      refine fg_11_2 hN kw_2_181 (tk_X11_truce 22 rfl) ?_
      refine on_il1 (tk_X11_truce 23 rfl) ?_
      refine on_il2 (tk_X11_truce 24 rfl) ?_
      refine on_il3 (tk_X11_truce 25 rfl) ?_
      refine on_cV3v 9 ms_X9_setFeud kw_6_69 rfl rfl (ltS_0 (on_Sb2 hN)) (shS_0 (on_Sb2 hN)) (ct_X9_setFeud hN (on_Sb2 hN)) rfl (tk_X11_truce 26 rfl) fun v6 σ7 => ?_
      refine on_il4 (tk_X11_truce 27 rfl) ?_
      exact on_iret (tk_X11_truce 28 rfl)
  · refine on_bipush (tk_X11_truce 9 rfl) bp_m2 ?_
    exact on_iret (tk_X11_truce 10 rfl)
def tb_X11_canDraw : List (Nat × Nat × Nat × Instr) := [(0, 1, 1, .aload_n 0), (1, 3, 4, .getfield 16), (4, 3, 7, .invokevirtual 243), (7, 3, 10, .ifCond .eq 29), (10, 1, 11, .iload_n 1), (11, 3, 14, .ifCond .lt 25), (14, 1, 15, .iload_n 1), (15, 3, 18, .ldc_w 452), (18, 3, 21, .if_icmp .gt 18), (21, 1, 22, .iload_n 2), (22, 1, 23, .iconst 1), (23, 3, 26, .if_icmp .lt 13), (26, 1, 27, .iload_n 2), (27, 2, 29, .bipush 60), (29, 3, 32, .if_icmp .gt 7), (32, 1, 33, .iconst 1), (33, 3, 36, .goto 4), (36, 1, 37, .iconst 0), (37, 1, 38, .ireturn)]
set_option maxRecDepth 100000 in
theorem tk_X11_canDraw (k : Nat) {pc n pc2 : Nat} {i : Instr} (hk : tb_X11_canDraw[k]? = some (pc, n, pc2, i)) : on_dq cX11_canDraw pc n pc2 i := on_ta (by decide +kernel) k hk
theorem ms_X11_canDraw : on_Mv yX11_canDraw cX11_canDraw 3 (some .boolean) 2 := ⟨kw_6_77, kw_6_76, (on_mp (q := (yX11_canDraw, 12)) (by decide +kernel)), kw_1_1, by decide, by decide, by decide +kernel⟩
def pf_X11_canDraw_36 (σ : on_S) : Option on_O :=
  some (0, σ)
def pf_X11_canDraw (p0 : Int) (p1 : Int) (σ : on_S) : Option on_O :=
  on_Cl (pf_X9_isThere 2 σ) fun v1 σ2 =>
  on_Eq v1 0 (
    pf_X11_canDraw_36 σ2) (
    on_Lt p0 0 (
      pf_X11_canDraw_36 σ2) (
      on_Le p0 2000000000 (
        on_Lt p1 1 (
          pf_X11_canDraw_36 σ2) (
          on_Le p1 60 (
            some (1, σ2)) (
            pf_X11_canDraw_36 σ2))) (
        pf_X11_canDraw_36 σ2)))
set_option maxRecDepth 100000 in
set_option maxHeartbeats 4000000 in
theorem gb_X11_canDraw_36 {E : on_E} {z n : Nat} (X : on_X) (hN : 100 ≤ n) (σ : on_S) : on_G X E cX11_canDraw RX11 (some .boolean) 1 20 3 z n σ (pf_X11_canDraw_36  σ) 36 [none, none, none] [] := by
  rw [pf_X11_canDraw_36]
  refine on_iconst (tk_X11_canDraw 17 rfl) ?_
  exact on_zret0 (tk_X11_canDraw 18 rfl)
set_option maxRecDepth 100000 in
set_option maxHeartbeats 4000000 in
theorem ct_X11_canDraw {E : on_E} {z n : Nat} {p0 : Int} {p1 : Int} (hN : 100 ≤ n) {σ : on_S} : on_Sp E yX11_canDraw cX11_canDraw 3 (some .boolean) 1 20 z n [.ref (z + 0), .int (on_i p0), .int (on_i p1)] σ (pf_X11_canDraw p0 p1 σ) := by
  refine on_met [some (.ref (z + 0)), some (.int (on_i p0)), some (.int (on_i p1))] (by decide) rfl rfl (fun X => ?_)
  rw [pf_X11_canDraw]
  refine on_al0 (tk_X11_canDraw 0 rfl) ?_
  refine fg_11_2 hN kw_2_181 (tk_X11_canDraw 1 rfl) ?_
  refine on_cV0z 9 ms_X9_isThere kw_4_152 rfl rfl (ltS_0 (on_Sb2 hN)) (shS_0 (on_Sb2 hN)) (ct_X9_isThere hN (on_Sb2 hN)) rfl (tk_X11_canDraw 2 rfl) fun v1 σ2 => ?_
  refine on_if_eq (tk_X11_canDraw 3 rfl) (tgt := 36) (by decide) ?_ ?_
  · refine on_il1 (tk_X11_canDraw 4 rfl) ?_
    refine on_if_lt (tk_X11_canDraw 5 rfl) (tgt := 36) (by decide) ?_ ?_
    · refine on_il1 (tk_X11_canDraw 6 rfl) ?_
      refine on_ldcw (a := 2000000000) kw_6_78 (by decide +kernel) (tk_X11_canDraw 7 rfl) ?_
      refine on_icmp_gt (tk_X11_canDraw 8 rfl) (tgt := 36) (by decide) ?_ ?_
      · refine on_il2 (tk_X11_canDraw 9 rfl) ?_
        refine on_iconst (tk_X11_canDraw 10 rfl) ?_
        refine on_icmp_lt (tk_X11_canDraw 11 rfl) (tgt := 36) (by decide) ?_ ?_
        · refine on_il2 (tk_X11_canDraw 12 rfl) ?_
          refine on_bipush (tk_X11_canDraw 13 rfl) bp_60 ?_
          refine on_icmp_gt (tk_X11_canDraw 14 rfl) (tgt := 36) (by decide) ?_ ?_
          · refine on_iconst (tk_X11_canDraw 15 rfl) ?_
            refine on_goto (tk_X11_canDraw 16 rfl) (tgt := 37) (by decide) ?_
            exact on_zret1 (tk_X11_canDraw 18 rfl)
          · refine on_dr0 ?_
            refine on_dr1 ?_
            refine on_dr2 ?_
            exact gb_X11_canDraw_36 X  hN _
        · refine on_dr0 ?_
          refine on_dr1 ?_
          refine on_dr2 ?_
          exact gb_X11_canDraw_36 X  hN _
      · refine on_dr0 ?_
        refine on_dr1 ?_
        refine on_dr2 ?_
        exact gb_X11_canDraw_36 X  hN _
    · refine on_dr0 ?_
      refine on_dr1 ?_
      refine on_dr2 ?_
      exact gb_X11_canDraw_36 X  hN _
  · refine on_dr0 ?_
    refine on_dr1 ?_
    refine on_dr2 ?_
    exact gb_X11_canDraw_36 X  hN _
def tb_X11_night : List (Nat × Nat × Nat × Instr) := [(0, 1, 1, .aload_n 0), (1, 1, 2, .iload_n 1), (2, 1, 3, .iload_n 2), (3, 3, 6, .invokevirtual 439), (6, 3, 9, .ifCond .eq 10), (9, 1, 10, .iload_n 3), (10, 3, 13, .invokestatic 364), (13, 3, 16, .ifCond .ne 6), (16, 2, 18, .bipush (-2)), (18, 1, 19, .ireturn), (19, 1, 20, .aload_n 0), (20, 3, 23, .getfield 16), (23, 3, 26, .getfield 370), (26, 3, 29, .ifCond .ne 13), (29, 1, 30, .iload_n 3), (30, 3, 33, .ifCond .ne 7), (33, 1, 34, .iconst 0), (34, 3, 37, .goto 4), (37, 1, 38, .iconst (-1)), (38, 1, 39, .ireturn), (39, 1, 40, .aload_n 0), (40, 3, 43, .getfield 70), (43, 1, 44, .iload_n 1), (44, 1, 45, .i2l), (45, 1, 46, .iload_n 2), (46, 3, 49, .invokevirtual 442), (49, 1, 50, .iload_n 3), (50, 3, 53, .ifCond .ne 13), (53, 1, 54, .aload_n 0), (54, 3, 57, .getfield 70), (57, 3, 60, .getfield 446), (60, 3, 63, .goto 10), (63, 1, 64, .aload_n 0), (64, 3, 67, .getfield 70), (67, 3, 70, .getfield 449), (70, 1, 71, .ireturn)]
set_option maxRecDepth 100000 in
theorem tk_X11_night (k : Nat) {pc n pc2 : Nat} {i : Instr} (hk : tb_X11_night[k]? = some (pc, n, pc2, i)) : on_dq cX11_night pc n pc2 i := on_ta (by decide +kernel) k hk
theorem ms_X11_night : on_Mv yX11_night cX11_night 4 (some .int) 3 := ⟨kw_6_73, kw_6_71, kw_6_72, kw_1_1, by decide, by decide, by decide +kernel⟩
def pf_X11_night (p0 : Int) (p1 : Int) (p2 : Int) (σ : on_S) : Option on_O :=
  on_Cl (pf_X11_canDraw p0 p1 σ) fun v1 σ2 =>
  on_Eq v1 0 (
    some ((-2), σ2)) (
    on_Cl (pf_X11_isBit p2 σ2) fun v3 σ4 =>
    on_Eq v3 0 (
      some ((-2), σ4)) (
      on_Gt σ4 2 7 fun v5 =>
      on_Eq v5 0 (
        on_Eq p2 0 (
          some (0, σ4)) (
          some ((-1), σ4))) (
        on_Ck p0 <|
        on_Cl (pf_X5_pass p0 p1 σ4) fun _ σ7 =>
        on_Eq p2 0 (
          on_Gt σ7 65 2 fun v8 =>
          some (v8, σ7)) (
          on_Gt σ7 65 3 fun v9 =>
          some (v9, σ7)))))
set_option maxRecDepth 100000 in
set_option maxHeartbeats 4000000 in
theorem ct_X11_night {E : on_E} {z n : Nat} {p0 : Int} {p1 : Int} {p2 : Int} (hN : 100 ≤ n) {σ : on_S} : on_Sp E yX11_night cX11_night 4 (some .int) 5 119 z n [.ref (z + 0), .int (on_i p0), .int (on_i p1), .int (on_i p2)] σ (pf_X11_night p0 p1 p2 σ) := by
  refine on_met [some (.ref (z + 0)), some (.int (on_i p0)), some (.int (on_i p1)), some (.int (on_i p2))] (by decide) rfl rfl (fun X => ?_)
  rw [pf_X11_night]
  refine on_al0 (tk_X11_night 0 rfl) ?_
  refine on_il1 (tk_X11_night 1 rfl) ?_
  refine on_il2 (tk_X11_night 2 rfl) ?_
  refine on_cV2z 11 ms_X11_canDraw kw_6_74 rfl rfl (ltc_0 hN) sh_0 (ct_X11_canDraw hN) rfl (tk_X11_night 3 rfl) fun v1 σ2 => ?_
  refine on_if_eq (tk_X11_night 4 rfl) (tgt := 16) (by decide) ?_ ?_
  · refine on_il3 (tk_X11_night 5 rfl) ?_
    refine on_cS1z ms_X11_isBit kw_5_172 (ct_X11_isBit hN) rfl (tk_X11_night 6 rfl) fun v3 σ4 => ?_
    refine on_if_ne (tk_X11_night 7 rfl) (tgt := 19) (by decide) ?_ ?_
    · refine on_bipush (tk_X11_night 8 rfl) bp_m2 ?_
      exact on_iret (tk_X11_night 9 rfl)
    · refine on_al0 (tk_X11_night 10 rfl) ?_
      refine fg_11_2 hN kw_2_181 (tk_X11_night 11 rfl) ?_
      refine fg_9_7 (on_Sb2 hN) kw_1_176 (tk_X11_night 12 rfl) fun v5 => ?_
      refine on_if_ne (tk_X11_night 13 rfl) (tgt := 39) (by decide) ?_ ?_
      · refine on_il3 (tk_X11_night 14 rfl) ?_
        refine on_if_ne (tk_X11_night 15 rfl) (tgt := 37) (by decide) ?_ ?_
        · refine on_iconst (tk_X11_night 16 rfl) ?_
          refine on_goto (tk_X11_night 17 rfl) (tgt := 38) (by decide) ?_
          exact on_iret (tk_X11_night 19 rfl)
        · refine on_iconst (tk_X11_night 18 rfl) ?_
          exact on_iret (tk_X11_night 19 rfl)
      · refine on_al0 (tk_X11_night 20 rfl) ?_
        refine fg_11_10 hN kw_2_189 (tk_X11_night 21 rfl) ?_
        refine on_il1 (tk_X11_night 22 rfl) ?_
        refine on_xi2l (tk_X11_night 23 rfl) ?_
        refine on_il2 (tk_X11_night 24 rfl) ?_
        refine on_cV2v 5 ms_X5_pass kw_6_79 rfl rfl (ltc_65 hN) sh_65 (ct_X5_pass hN) rfl (tk_X11_night 25 rfl) fun v6 σ7 => ?_
        refine on_il3 (tk_X11_night 26 rfl) ?_
        refine on_if_ne (tk_X11_night 27 rfl) (tgt := 63) (by decide) ?_ ?_
        · refine on_al0 (tk_X11_night 28 rfl) ?_
          refine fg_11_10 hN kw_2_189 (tk_X11_night 29 rfl) ?_
          refine fg_5_2 hN kw_2_121 (tk_X11_night 30 rfl) fun v8 => ?_
          refine on_goto (tk_X11_night 31 rfl) (tgt := 70) (by decide) ?_
          exact on_iret (tk_X11_night 35 rfl)
        · refine on_al0 (tk_X11_night 32 rfl) ?_
          refine fg_11_10 hN kw_2_189 (tk_X11_night 33 rfl) ?_
          refine fg_5_3 hN kw_2_123 (tk_X11_night 34 rfl) fun v9 => ?_
          exact on_iret (tk_X11_night 35 rfl)
  · refine on_bipush (tk_X11_night 8 rfl) bp_m2 ?_
    exact on_iret (tk_X11_night 9 rfl)
def tb_X11_years : List (Nat × Nat × Nat × Instr) := [(0, 1, 1, .aload_n 0), (1, 1, 2, .iload_n 1), (2, 1, 3, .iload_n 3), (3, 3, 6, .invokevirtual 439), (6, 3, 9, .ifCond .eq 14), (9, 1, 10, .iload_n 2), (10, 1, 11, .iconst 1), (11, 3, 14, .if_icmp .lt 9), (14, 1, 15, .iload_n 2), (15, 2, 17, .bipush 20), (17, 3, 20, .if_icmp .le 6), (20, 2, 22, .bipush (-2)), (22, 1, 23, .ireturn), (23, 1, 24, .aload_n 0), (24, 3, 27, .getfield 16), (27, 3, 30, .getfield 370), (30, 3, 33, .ifCond .ne 5), (33, 1, 34, .iload_n 2), (34, 1, 35, .ireturn), (35, 1, 36, .iconst 0), (36, 2, 38, .istore 4), (38, 1, 39, .iconst 0), (39, 2, 41, .istore 5), (41, 2, 43, .iload 5), (43, 1, 44, .iload_n 2), (44, 3, 47, .if_icmp .ge 37), (47, 1, 48, .aload_n 0), (48, 3, 51, .getfield 70), (51, 1, 52, .iload_n 1), (52, 1, 53, .i2l), (53, 2, 55, .iload 5), (55, 1, 56, .i2l), (56, 1, 57, .ladd), (57, 1, 58, .iload_n 3), (58, 3, 61, .invokevirtual 442), (61, 1, 62, .aload_n 0), (62, 3, 65, .getfield 70), (65, 3, 68, .getfield 449), (68, 1, 69, .iconst (-1)), (69, 3, 72, .if_icmp .ne 6), (72, 3, 75, .iinc 4 1), (75, 3, 78, .iinc 5 1), (78, 3, 81, .goto (-37)), (81, 2, 83, .iload 4), (83, 1, 84, .ireturn)]
set_option maxRecDepth 100000 in
theorem tk_X11_years (k : Nat) {pc n pc2 : Nat} {i : Instr} (hk : tb_X11_years[k]? = some (pc, n, pc2, i)) : on_dq cX11_years pc n pc2 i := on_ta (by decide +kernel) k hk
theorem ms_X11_years : on_Mv yX11_years cX11_years 6 (some .int) 3 := ⟨kw_6_92, kw_6_90, kw_6_91, kw_1_1, by decide, by decide, by decide +kernel⟩
def pf_X11_years_41 : Nat → Int → Int → Int → Int → Int → on_S → Option on_O
  | 0, _, _, _, _, _, _ => none
  | nf + 1, l1, l2, l3, l4, l5, σ =>
    on_Lt l5 l2 (
      on_Ck l1 <|
      on_Ck l5 <|
      on_Cl (pf_X5_pass (l1 + l5) l3 σ) fun _ σ5 =>
      on_Gt σ5 65 3 fun v6 =>
      on_Eq v6 (-1) (
        pf_X11_years_41 nf l1 l2 l3 (l4 + 1) (l5 + 1) σ5) (
        pf_X11_years_41 nf l1 l2 l3 l4 (l5 + 1) σ5)) (
      some (l4, σ))
def pf_X11_years (p0 : Int) (p1 : Int) (p2 : Int) (σ : on_S) : Option on_O :=
  on_Cl (pf_X11_canDraw p0 p2 σ) fun v1 σ2 =>
  on_Eq v1 0 (
    some ((-2), σ2)) (
    on_Lt p1 1 (
      some ((-2), σ2)) (
      on_Le p1 20 (
        on_Gt σ2 2 7 fun v3 =>
        on_Eq v3 0 (
          some (p1, σ2)) (
          pf_X11_years_41 on_N p0 p1 p2 0 0 σ2)) (
        some ((-2), σ2))))
set_option maxRecDepth 100000 in
set_option maxHeartbeats 4000000 in
theorem gl_X11_years_41 {E : on_E} {z n : Nat} (X : on_X) (hN : 100 ≤ n) : ∀ (nf : Nat) (l1 : Int) (l2 : Int) (l3 : Int) (l4 : Int) (l5 : Int) (σ : on_S), on_G X E cX11_years RX11 (some .int) 5 119 6 z n σ (pf_X11_years_41 nf l1 l2 l3 l4 l5 σ) 41 [some (.ref (z + 0)), some (.int (on_i l1)), some (.int (on_i l2)), some (.int (on_i l3)), some (.int (on_i l4)), some (.int (on_i l5))] [] := by
  intro nf
  induction nf with
  | zero => intro l1 l2 l3 l4 l5 σ; exact on_none
  | succ nf ih =>
    intro l1 l2 l3 l4 l5 σ
    rw [pf_X11_years_41]
    refine on_il5 (tk_X11_years 23 rfl) ?_
    refine on_il2 (tk_X11_years 24 rfl) ?_
    refine on_icmp_ge (tk_X11_years 25 rfl) (tgt := 81) (by decide) ?_ ?_
    · refine on_al0 (tk_X11_years 26 rfl) ?_
      refine fg_11_10 hN kw_2_189 (tk_X11_years 27 rfl) ?_
      refine on_il1 (tk_X11_years 28 rfl) ?_
      refine on_xi2l (tk_X11_years 29 rfl) ?_
      refine on_il5 (tk_X11_years 30 rfl) ?_
      refine on_xi2l (tk_X11_years 31 rfl) ?_
      refine on_ladd (tk_X11_years 32 rfl) ?_
      refine on_il3 (tk_X11_years 33 rfl) ?_
      refine on_cV2v 5 ms_X5_pass kw_6_79 rfl rfl (ltc_65 hN) sh_65 (ct_X5_pass hN) rfl (tk_X11_years 34 rfl) fun v4 σ5 => ?_
      refine on_al0 (tk_X11_years 35 rfl) ?_
      refine fg_11_10 hN kw_2_189 (tk_X11_years 36 rfl) ?_
      refine fg_5_3 hN kw_2_123 (tk_X11_years 37 rfl) fun v6 => ?_
      refine on_iconst (tk_X11_years 38 rfl) ?_
      refine on_icmp_ne (tk_X11_years 39 rfl) (tgt := 75) (by decide) ?_ ?_
      · refine on_inc4 rfl (tk_X11_years 40 rfl) ?_
        refine on_inc5 rfl (tk_X11_years 41 rfl) ?_
        refine on_goto (tk_X11_years 42 rfl) (tgt := 41) (by decide) ?_
        exact ih _ _ _ _ _ _
      · refine on_inc5 rfl (tk_X11_years 41 rfl) ?_
        refine on_goto (tk_X11_years 42 rfl) (tgt := 41) (by decide) ?_
        exact ih _ _ _ _ _ _
    · refine on_il4 (tk_X11_years 43 rfl) ?_
      exact on_iret (tk_X11_years 44 rfl)
set_option maxRecDepth 100000 in
set_option maxHeartbeats 4000000 in
theorem ct_X11_years {E : on_E} {z n : Nat} {p0 : Int} {p1 : Int} {p2 : Int} (hN : 100 ≤ n) {σ : on_S} : on_Sp E yX11_years cX11_years 6 (some .int) 5 119 z n [.ref (z + 0), .int (on_i p0), .int (on_i p1), .int (on_i p2)] σ (pf_X11_years p0 p1 p2 σ) := by
  refine on_met [some (.ref (z + 0)), some (.int (on_i p0)), some (.int (on_i p1)), some (.int (on_i p2)), none, none] (by decide) rfl rfl (fun X => ?_)
  rw [pf_X11_years]
  refine on_al0 (tk_X11_years 0 rfl) ?_
  refine on_il1 (tk_X11_years 1 rfl) ?_
  refine on_il3 (tk_X11_years 2 rfl) ?_
  refine on_cV2z 11 ms_X11_canDraw kw_6_74 rfl rfl (ltc_0 hN) sh_0 (ct_X11_canDraw hN) rfl (tk_X11_years 3 rfl) fun v1 σ2 => ?_
  refine on_if_eq (tk_X11_years 4 rfl) (tgt := 20) (by decide) ?_ ?_
  · refine on_il2 (tk_X11_years 5 rfl) ?_
    refine on_iconst (tk_X11_years 6 rfl) ?_
    refine on_icmp_lt (tk_X11_years 7 rfl) (tgt := 20) (by decide) ?_ ?_
    · refine on_il2 (tk_X11_years 8 rfl) ?_
      refine on_bipush (tk_X11_years 9 rfl) bp_20 ?_
      refine on_icmp_le (tk_X11_years 10 rfl) (tgt := 23) (by decide) ?_ ?_
      · refine on_bipush (tk_X11_years 11 rfl) bp_m2 ?_
        exact on_iret (tk_X11_years 12 rfl)
      · refine on_al0 (tk_X11_years 13 rfl) ?_
        refine fg_11_2 hN kw_2_181 (tk_X11_years 14 rfl) ?_
        refine fg_9_7 (on_Sb2 hN) kw_1_176 (tk_X11_years 15 rfl) fun v3 => ?_
        refine on_if_ne (tk_X11_years 16 rfl) (tgt := 35) (by decide) ?_ ?_
        · refine on_il2 (tk_X11_years 17 rfl) ?_
          exact on_iret (tk_X11_years 18 rfl)
        · refine on_iconst (tk_X11_years 19 rfl) ?_
          refine on_is4 rfl (tk_X11_years 20 rfl) ?_
          refine on_iconst (tk_X11_years 21 rfl) ?_
          refine on_is5 rfl (tk_X11_years 22 rfl) ?_
          exact gl_X11_years_41 X  hN on_N _ _ _ _ _ _
    · refine on_bipush (tk_X11_years 11 rfl) bp_m2 ?_
      exact on_iret (tk_X11_years 12 rfl)
  · refine on_bipush (tk_X11_years 11 rfl) bp_m2 ?_
    exact on_iret (tk_X11_years 12 rfl)
def tb_X11_slotsInUse : List (Nat × Nat × Nat × Instr) := [(0, 1, 1, .iconst 0), (1, 1, 2, .istore_n 1), (2, 1, 3, .iconst 0), (3, 1, 4, .istore_n 2), (4, 1, 5, .iload_n 2), (5, 1, 6, .iconst 4), (6, 3, 9, .if_icmp .ge 25), (9, 1, 10, .aload_n 0), (10, 3, 13, .getfield 38), (13, 1, 14, .iload_n 2), (14, 1, 15, .aaload), (15, 3, 18, .getfield 397), (18, 1, 19, .iconst (-1)), (19, 3, 22, .if_icmp .eq 6), (22, 3, 25, .iinc 1 1), (25, 3, 28, .iinc 2 1), (28, 3, 31, .goto (-24)), (31, 1, 32, .iload_n 1), (32, 1, 33, .ireturn)]
set_option maxRecDepth 100000 in
theorem tk_X11_slotsInUse (k : Nat) {pc n pc2 : Nat} {i : Instr} (hk : tb_X11_slotsInUse[k]? = some (pc, n, pc2, i)) : on_dq cX11_slotsInUse pc n pc2 i := on_ta (by decide +kernel) k hk
theorem ms_X11_slotsInUse : on_Mv yX11_slotsInUse cX11_slotsInUse 3 (some .int) 0 := ⟨kw_6_100, kw_6_99, (on_mp (q := (yX11_slotsInUse, 12)) (by decide +kernel)), kw_1_1, by decide, by decide, by decide +kernel⟩
def pf_X11_slotsInUse_4 : Nat → Int → Int → on_S → Option on_O
  | 0, _, _, _ => none
  | nf + 1, l1, l2, σ =>
    on_Lt l2 4 (
      on_Ix 4 l2 fun j1 =>
      on_Gt σ (69 + 2 * j1) 0 fun v2 =>
      on_Eq v2 (-1) (
        pf_X11_slotsInUse_4 nf l1 (l2 + 1) σ) (
        pf_X11_slotsInUse_4 nf (l1 + 1) (l2 + 1) σ)) (
      some (l1, σ))
def pf_X11_slotsInUse (σ : on_S) : Option on_O :=
  pf_X11_slotsInUse_4 on_N 0 0 σ
set_option maxRecDepth 100000 in
set_option maxHeartbeats 4000000 in
theorem gl_X11_slotsInUse_4 {E : on_E} {z n : Nat} (X : on_X) (hN : 100 ≤ n) : ∀ (nf : Nat) (l1 : Int) (l2 : Int) (σ : on_S), on_G X E cX11_slotsInUse RX11 (some .int) 0 0 3 z n σ (pf_X11_slotsInUse_4 nf l1 l2 σ) 4 [some (.ref (z + 0)), some (.int (on_i l1)), some (.int (on_i l2))] [] := by
  intro nf
  induction nf with
  | zero => intro l1 l2 σ; exact on_none
  | succ nf ih =>
    intro l1 l2 σ
    rw [pf_X11_slotsInUse_4]
    refine on_il2 (tk_X11_slotsInUse 4 rfl) ?_
    refine on_iconst (tk_X11_slotsInUse 5 rfl) ?_
    refine on_icmp_ge (tk_X11_slotsInUse 6 rfl) (tgt := 31) (by decide) ?_ ?_
    · refine on_al0 (tk_X11_slotsInUse 7 rfl) ?_
      refine fg_11_6 hN kw_2_185 (tk_X11_slotsInUse 8 rfl) ?_
      refine on_il2 (tk_X11_slotsInUse 9 rfl) ?_
      refine on_aaL (ltc_54 hN) sh_54 (tk_X11_slotsInUse 10 rfl) fun j1 hj1 => ?_
      refine fg_8_0 hN (on_Lb_of hj1) kw_2_164 (tk_X11_slotsInUse 11 rfl) fun v2 => ?_
      refine on_iconst (tk_X11_slotsInUse 12 rfl) ?_
      refine on_icmp_eq (tk_X11_slotsInUse 13 rfl) (tgt := 25) (by decide) ?_ ?_
      · refine on_inc1 rfl (tk_X11_slotsInUse 14 rfl) ?_
        refine on_inc2 rfl (tk_X11_slotsInUse 15 rfl) ?_
        refine on_goto (tk_X11_slotsInUse 16 rfl) (tgt := 4) (by decide) ?_
        exact ih _ _ _
      · refine on_inc2 rfl (tk_X11_slotsInUse 15 rfl) ?_
        refine on_goto (tk_X11_slotsInUse 16 rfl) (tgt := 4) (by decide) ?_
        exact ih _ _ _
    · refine on_il1 (tk_X11_slotsInUse 17 rfl) ?_
      exact on_iret (tk_X11_slotsInUse 18 rfl)
set_option maxRecDepth 100000 in
set_option maxHeartbeats 4000000 in
theorem ct_X11_slotsInUse {E : on_E} {z n : Nat} (hN : 100 ≤ n) {σ : on_S} : on_Sp E yX11_slotsInUse cX11_slotsInUse 3 (some .int) 0 0 z n [.ref (z + 0)] σ (pf_X11_slotsInUse  σ) := by
  refine on_met [some (.ref (z + 0)), none, none] (by decide) rfl rfl (fun X => ?_)
  rw [pf_X11_slotsInUse]
  refine on_iconst (tk_X11_slotsInUse 0 rfl) ?_
  refine on_is1 rfl (tk_X11_slotsInUse 1 rfl) ?_
  refine on_iconst (tk_X11_slotsInUse 2 rfl) ?_
  refine on_is2 rfl (tk_X11_slotsInUse 3 rfl) ?_
  exact gl_X11_slotsInUse_4 X  hN on_N _ _ _
def tb_X11_count : List (Nat × Nat × Nat × Instr) := [(0, 1, 1, .iload_n 1), (1, 55, 56, .tableswitch 138 0 9 #[55, 63, 71, 79, 90, 101, 109, 120, 128, 133]), (56, 1, 57, .aload_n 0), (57, 3, 60, .getfield 16), (60, 3, 63, .getfield 361), (63, 1, 64, .ireturn), (64, 1, 65, .aload_n 0), (65, 3, 68, .getfield 16), (68, 3, 71, .getfield 453), (71, 1, 72, .ireturn), (72, 1, 73, .aload_n 0), (73, 3, 76, .getfield 16), (76, 3, 79, .getfield 316), (79, 1, 80, .ireturn), (80, 1, 81, .aload_n 0), (81, 3, 84, .getfield 16), (84, 3, 87, .getfield 122), (87, 3, 90, .getfield 287), (90, 1, 91, .ireturn), (91, 1, 92, .aload_n 0), (92, 3, 95, .getfield 16), (95, 3, 98, .getfield 141), (98, 3, 101, .getfield 312), (101, 1, 102, .ireturn), (102, 1, 103, .aload_n 0), (103, 3, 106, .getfield 16), (106, 3, 109, .getfield 370), (109, 1, 110, .ireturn), (110, 1, 111, .aload_n 0), (111, 3, 114, .getfield 16), (114, 3, 117, .getfield 221), (117, 3, 120, .getfield 225), (120, 1, 121, .ireturn), (121, 1, 122, .aload_n 0), (122, 3, 125, .getfield 16), (125, 3, 128, .getfield 99), (128, 1, 129, .ireturn), (129, 1, 130, .aload_n 0), (130, 3, 133, .getfield 82), (133, 1, 134, .ireturn), (134, 1, 135, .aload_n 0), (135, 3, 138, .invokevirtual 456), (138, 1, 139, .ireturn), (139, 1, 140, .iconst (-1)), (140, 1, 141, .ireturn)]
set_option maxRecDepth 100000 in
theorem tk_X11_count (k : Nat) {pc n pc2 : Nat} {i : Instr} (hk : tb_X11_count[k]? = some (pc, n, pc2, i)) : on_dq cX11_count pc n pc2 i := on_ta (by decide +kernel) k hk
theorem ms_X11_count : on_Mv yX11_count cX11_count 2 (some .int) 1 := ⟨kw_6_96, kw_6_94, kw_6_95, kw_1_1, by decide, by decide, by decide +kernel⟩
def pf_X11_count (p0 : Int) (σ : on_S) : Option on_O :=
  on_sw p0 0 [
    (on_Gt σ 2 0 fun v1 =>
    some (v1, σ)),
    (on_Gt σ 2 1 fun v2 =>
    some (v2, σ)),
    (on_Gt σ 2 3 fun v3 =>
    some (v3, σ)),
    (on_Gt σ (2 + 8) 0 fun v4 =>
    some (v4, σ)),
    (on_Gt σ (2 + 14) 0 fun v5 =>
    some (v5, σ)),
    (on_Gt σ 2 7 fun v6 =>
    some (v6, σ)),
    (on_Gt σ (2 + 20) 0 fun v7 =>
    some (v7, σ)),
    (on_Gt σ 2 2 fun v8 =>
    some (v8, σ)),
    (on_Gt σ 0 1 fun v9 =>
    some (v9, σ)),
    (on_Cl (pf_X11_slotsInUse σ) fun v10 σ11 =>
    some (v10, σ11))] (
    some ((-1), σ))
set_option maxRecDepth 100000 in
set_option maxHeartbeats 4000000 in
theorem ct_X11_count {E : on_E} {z n : Nat} {p0 : Int} (hN : 100 ≤ n) {σ : on_S} : on_Sp E yX11_count cX11_count 2 (some .int) 1 22 z n [.ref (z + 0), .int (on_i p0)] σ (pf_X11_count p0 σ) := by
  refine on_met [some (.ref (z + 0)), some (.int (on_i p0))] (by decide) rfl rfl (fun X => ?_)
  rw [pf_X11_count]
  refine on_il1 (tk_X11_count 0 rfl) ?_
  refine on_tsw (dt := 139) [56, 64, 72, 80, 91, 102, 110, 121, 129, 134] (tk_X11_count 1 rfl) rfl rfl (by decide) (by decide) ?_ ?_
  · intro j q hq
    match j, hq with
    | 0, hq =>
      cases hq
      refine on_al0 (tk_X11_count 2 rfl) ?_
      refine fg_11_2 hN kw_2_181 (tk_X11_count 3 rfl) ?_
      refine fg_9_0 (on_Sb2 hN) kw_1_156 (tk_X11_count 4 rfl) fun v1 => ?_
      exact on_iret (tk_X11_count 5 rfl)
    | 1, hq =>
      cases hq
      refine on_al0 (tk_X11_count 6 rfl) ?_
      refine fg_11_2 hN kw_2_181 (tk_X11_count 7 rfl) ?_
      refine fg_9_1 (on_Sb2 hN) kw_1_159 (tk_X11_count 8 rfl) fun v2 => ?_
      exact on_iret (tk_X11_count 9 rfl)
    | 2, hq =>
      cases hq
      refine on_al0 (tk_X11_count 10 rfl) ?_
      refine fg_11_2 hN kw_2_181 (tk_X11_count 11 rfl) ?_
      refine fg_9_3 (on_Sb2 hN) kw_1_165 (tk_X11_count 12 rfl) fun v3 => ?_
      exact on_iret (tk_X11_count 13 rfl)
    | 3, hq =>
      cases hq
      refine on_al0 (tk_X11_count 14 rfl) ?_
      refine fg_11_2 hN kw_2_181 (tk_X11_count 15 rfl) ?_
      refine fg_9_12 (on_Sb2 hN) kw_1_188 (tk_X11_count 16 rfl) ?_
      refine fg_3_0 (on_Sb2 hN) kw_1_47 (tk_X11_count 17 rfl) fun v4 => ?_
      exact on_iret (tk_X11_count 18 rfl)
    | 4, hq =>
      cases hq
      refine on_al0 (tk_X11_count 19 rfl) ?_
      refine fg_11_2 hN kw_2_181 (tk_X11_count 20 rfl) ?_
      refine fg_9_13 (on_Sb2 hN) kw_1_195 (tk_X11_count 21 rfl) ?_
      refine fg_4_0 (on_Sb2 hN) kw_1_90 (tk_X11_count 22 rfl) fun v5 => ?_
      exact on_iret (tk_X11_count 23 rfl)
    | 5, hq =>
      cases hq
      refine on_al0 (tk_X11_count 24 rfl) ?_
      refine fg_11_2 hN kw_2_181 (tk_X11_count 25 rfl) ?_
      refine fg_9_7 (on_Sb2 hN) kw_1_176 (tk_X11_count 26 rfl) fun v6 => ?_
      exact on_iret (tk_X11_count 27 rfl)
    | 6, hq =>
      cases hq
      refine on_al0 (tk_X11_count 28 rfl) ?_
      refine fg_11_2 hN kw_2_181 (tk_X11_count 29 rfl) ?_
      refine fg_9_14 (on_Sb2 hN) kw_1_198 (tk_X11_count 30 rfl) ?_
      refine fg_2_0 (on_Sb2 hN) kw_1_136 (tk_X11_count 31 rfl) fun v7 => ?_
      exact on_iret (tk_X11_count 32 rfl)
    | 7, hq =>
      cases hq
      refine on_al0 (tk_X11_count 33 rfl) ?_
      refine fg_11_2 hN kw_2_181 (tk_X11_count 34 rfl) ?_
      refine fg_9_2 (on_Sb2 hN) kw_1_161 (tk_X11_count 35 rfl) fun v8 => ?_
      exact on_iret (tk_X11_count 36 rfl)
    | 8, hq =>
      cases hq
      refine on_al0 (tk_X11_count 37 rfl) ?_
      refine fg_11_1 hN kw_2_180 (tk_X11_count 38 rfl) fun v9 => ?_
      exact on_iret (tk_X11_count 39 rfl)
    | 9, hq =>
      cases hq
      refine on_al0 (tk_X11_count 40 rfl) ?_
      refine on_cV0i 11 ms_X11_slotsInUse kw_6_97 rfl rfl (ltc_0 hN) sh_0 (ct_X11_slotsInUse hN) rfl (tk_X11_count 41 rfl) fun v10 σ11 => ?_
      exact on_iret (tk_X11_count 42 rfl)
    | j + 10, hq => simp at hq
  · refine on_iconst (tk_X11_count 43 rfl) ?_
    exact on_iret (tk_X11_count 44 rfl)
def tb_X11_row : List (Nat × Nat × Nat × Instr) := [(0, 1, 1, .iload_n 1), (1, 3, 4, .invokestatic 394), (4, 3, 7, .ifCond .eq 18), (7, 1, 8, .iload_n 2), (8, 3, 11, .ifCond .lt 14), (11, 1, 12, .iload_n 2), (12, 1, 13, .iconst 3), (13, 3, 16, .if_icmp .gt 9), (16, 1, 17, .iload_n 3), (17, 2, 19, .bipush 60), (19, 3, 22, .if_icmp .le 6), (22, 2, 24, .bipush (-2)), (24, 1, 25, .ireturn), (25, 1, 26, .iload_n 3), (26, 3, 29, .ifCond .ge 6), (29, 2, 31, .bipush (-3)), (31, 1, 32, .ireturn), (32, 1, 33, .aload_n 0), (33, 3, 36, .getfield 38), (36, 1, 37, .iload_n 1), (37, 1, 38, .aaload), (38, 1, 39, .iload_n 2), (39, 1, 40, .iload_n 3), (40, 3, 43, .invokevirtual 459), (43, 1, 44, .iconst 0), (44, 1, 45, .ireturn)]
set_option maxRecDepth 100000 in
theorem tk_X11_row (k : Nat) {pc n pc2 : Nat} {i : Instr} (hk : tb_X11_row[k]? = some (pc, n, pc2, i)) : on_dq cX11_row pc n pc2 i := on_ta (by decide +kernel) k hk
theorem ms_X11_row : on_Mv yX11_row cX11_row 4 (some .int) 3 := ⟨kw_6_112, kw_6_110, kw_6_111, kw_1_1, by decide, by decide, by decide +kernel⟩
def pf_X11_row (p0 : Int) (p1 : Int) (p2 : Int) (σ : on_S) : Option on_O :=
  on_Cl (pf_X11_isSlot p0 σ) fun v1 σ2 =>
  on_Eq v1 0 (
    some ((-2), σ2)) (
    on_Lt p1 0 (
      some ((-2), σ2)) (
      on_Le p1 3 (
        on_Le p2 60 (
          on_Lt p2 0 (
            some ((-3), σ2)) (
            on_Ix 4 p0 fun j3 =>
            on_Cl (pf_X8_begin (69 + 2 * j3) p1 p2 σ2) fun _ σ5 =>
            some (0, σ5))) (
          some ((-2), σ2))) (
        some ((-2), σ2))))
set_option maxRecDepth 100000 in
set_option maxHeartbeats 4000000 in
theorem ct_X11_row {E : on_E} {z n : Nat} {p0 : Int} {p1 : Int} {p2 : Int} (hN : 100 ≤ n) {σ : on_S} : on_Sp E yX11_row cX11_row 4 (some .int) 2 46 z n [.ref (z + 0), .int (on_i p0), .int (on_i p1), .int (on_i p2)] σ (pf_X11_row p0 p1 p2 σ) := by
  refine on_met [some (.ref (z + 0)), some (.int (on_i p0)), some (.int (on_i p1)), some (.int (on_i p2))] (by decide) rfl rfl (fun X => ?_)
  rw [pf_X11_row]
  refine on_il1 (tk_X11_row 0 rfl) ?_
  refine on_cS1z ms_X11_isSlot kw_5_213 (ct_X11_isSlot hN) rfl (tk_X11_row 1 rfl) fun v1 σ2 => ?_
  refine on_if_eq (tk_X11_row 2 rfl) (tgt := 22) (by decide) ?_ ?_
  · refine on_il2 (tk_X11_row 3 rfl) ?_
    refine on_if_lt (tk_X11_row 4 rfl) (tgt := 22) (by decide) ?_ ?_
    · refine on_il2 (tk_X11_row 5 rfl) ?_
      refine on_iconst (tk_X11_row 6 rfl) ?_
      refine on_icmp_gt (tk_X11_row 7 rfl) (tgt := 22) (by decide) ?_ ?_
      · refine on_il3 (tk_X11_row 8 rfl) ?_
        refine on_bipush (tk_X11_row 9 rfl) bp_60 ?_
        refine on_icmp_le (tk_X11_row 10 rfl) (tgt := 25) (by decide) ?_ ?_
        · refine on_bipush (tk_X11_row 11 rfl) bp_m2 ?_
          exact on_iret (tk_X11_row 12 rfl)
        · refine on_il3 (tk_X11_row 13 rfl) ?_
          refine on_if_ge (tk_X11_row 14 rfl) (tgt := 32) (by decide) ?_ ?_
          · refine on_bipush (tk_X11_row 15 rfl) bp_m3 ?_
            exact on_iret (tk_X11_row 16 rfl)
          · refine on_al0 (tk_X11_row 17 rfl) ?_
            refine fg_11_6 hN kw_2_185 (tk_X11_row 18 rfl) ?_
            refine on_il1 (tk_X11_row 19 rfl) ?_
            refine on_aaL (ltc_54 hN) sh_54 (tk_X11_row 20 rfl) fun j3 hj3 => ?_
            refine on_il2 (tk_X11_row 21 rfl) ?_
            refine on_il3 (tk_X11_row 22 rfl) ?_
            refine on_cV2v 8 ms_X8_begin kw_6_113 rfl rfl (ltL_0 hN (on_Lb_of hj3)) (shL_0 (on_Lb_of hj3)) (ct_X8_begin hN (on_Lb_of hj3)) rfl (tk_X11_row 23 rfl) fun v4 σ5 => ?_
            refine on_iconst (tk_X11_row 24 rfl) ?_
            exact on_iret (tk_X11_row 25 rfl)
      · refine on_bipush (tk_X11_row 11 rfl) bp_m2 ?_
        exact on_iret (tk_X11_row 12 rfl)
    · refine on_bipush (tk_X11_row 11 rfl) bp_m2 ?_
      exact on_iret (tk_X11_row 12 rfl)
  · refine on_bipush (tk_X11_row 11 rfl) bp_m2 ?_
    exact on_iret (tk_X11_row 12 rfl)
def tb_X11_write : List (Nat × Nat × Nat × Instr) := [(0, 1, 1, .iload_n 1), (1, 3, 4, .invokestatic 394), (4, 3, 7, .ifCond .ne 6), (7, 2, 9, .bipush (-2)), (9, 1, 10, .ireturn), (10, 1, 11, .aload_n 0), (11, 3, 14, .getfield 38), (14, 1, 15, .iload_n 1), (15, 1, 16, .aaload), (16, 2, 18, .astore 5), (18, 2, 20, .aload 5), (20, 3, 23, .getfield 397), (23, 1, 24, .iconst (-1)), (24, 3, 27, .if_icmp .ne 6), (27, 2, 29, .bipush (-6)), (29, 1, 30, .ireturn), (30, 1, 31, .iload_n 2), (31, 3, 34, .ifCond .lt 12), (34, 1, 35, .iload_n 2), (35, 2, 37, .aload 5), (37, 3, 40, .getfield 462), (40, 3, 43, .if_icmp .lt 6), (43, 2, 45, .bipush (-7)), (45, 1, 46, .ireturn), (46, 2, 48, .aload 5), (48, 3, 51, .getfield 465), (51, 1, 52, .iload_n 2), (52, 1, 53, .lload_n 3), (53, 2, 55, .aload 5), (55, 3, 58, .getfield 397), (58, 3, 61, .invokestatic 469), (61, 1, 62, .lastore), (62, 1, 63, .iconst 0), (63, 1, 64, .ireturn)]
set_option maxRecDepth 100000 in
theorem tk_X11_write (k : Nat) {pc n pc2 : Nat} {i : Instr} (hk : tb_X11_write[k]? = some (pc, n, pc2, i)) : on_dq cX11_write pc n pc2 i := on_ta (by decide +kernel) k hk
theorem ms_X11_write : on_Mv yX11_write cX11_write 6 (some .int) 3 := ⟨kw_6_123, kw_6_121, kw_6_122, kw_1_1, by decide, by decide, by decide +kernel⟩
def pf_X11_write (p0 : Int) (p1 : Int) (p2 : Int) (σ : on_S) : Option on_O :=
  on_Cl (pf_X11_isSlot p0 σ) fun v1 σ2 =>
  on_Eq v1 0 (
    some ((-2), σ2)) (
    on_Ix 4 p0 fun j3 =>
    on_Gt σ2 (69 + 2 * j3) 0 fun v4 =>
    on_Eq v4 (-1) (
      some ((-6), σ2)) (
      on_Lt p1 0 (
        some ((-7), σ2)) (
        on_Gt σ2 (69 + 2 * j3) 1 fun v5 =>
        on_Lt p1 v5 (
          on_Gt σ2 (69 + 2 * j3) 0 fun v6 =>
          on_Cl (pf_X8_cut p2 v6 σ2) fun v7 σ8 =>
          on_Wr σ8 ((69 + 2 * j3) + 1) 60 p1 v7 fun σ9 =>
          some (0, σ9)) (
          some ((-7), σ2)))))
set_option maxRecDepth 100000 in
set_option maxHeartbeats 4000000 in
theorem ct_X11_write {E : on_E} {z n : Nat} {p0 : Int} {p1 : Int} {p2 : Int} (hN : 100 ≤ n) {σ : on_S} : on_Sp E yX11_write cX11_write 6 (some .int) 1 22 z n [.ref (z + 0), .int (on_i p0), .int (on_i p1), .long (on_l p2)] σ (pf_X11_write p0 p1 p2 σ) := by
  refine on_met [some (.ref (z + 0)), some (.int (on_i p0)), some (.int (on_i p1)), some (.long (on_l p2)), none, none] (by decide) rfl rfl (fun X => ?_)
  rw [pf_X11_write]
  refine on_il1 (tk_X11_write 0 rfl) ?_
  refine on_cS1z ms_X11_isSlot kw_5_213 (ct_X11_isSlot hN) rfl (tk_X11_write 1 rfl) fun v1 σ2 => ?_
  refine on_if_ne (tk_X11_write 2 rfl) (tgt := 10) (by decide) ?_ ?_
  · refine on_bipush (tk_X11_write 3 rfl) bp_m2 ?_
    exact on_iret (tk_X11_write 4 rfl)
  · refine on_al0 (tk_X11_write 5 rfl) ?_
    refine fg_11_6 hN kw_2_185 (tk_X11_write 6 rfl) ?_
    refine on_il1 (tk_X11_write 7 rfl) ?_
    refine on_aaL (ltc_54 hN) sh_54 (tk_X11_write 8 rfl) fun j3 hj3 => ?_
    refine on_as5 rfl (tk_X11_write 9 rfl) ?_
    refine on_al5 (tk_X11_write 10 rfl) ?_
    refine fg_8_0 hN (on_Lb_of hj3) kw_2_164 (tk_X11_write 11 rfl) fun v4 => ?_
    refine on_iconst (tk_X11_write 12 rfl) ?_
    refine on_icmp_ne (tk_X11_write 13 rfl) (tgt := 30) (by decide) ?_ ?_
    · refine on_bipush (tk_X11_write 14 rfl) bp_m6 ?_
      exact on_iret (tk_X11_write 15 rfl)
    · refine on_il2 (tk_X11_write 16 rfl) ?_
      refine on_if_lt (tk_X11_write 17 rfl) (tgt := 43) (by decide) ?_ ?_
      · refine on_il2 (tk_X11_write 18 rfl) ?_
        refine on_al5 (tk_X11_write 19 rfl) ?_
        refine fg_8_1 hN (on_Lb_of hj3) kw_2_167 (tk_X11_write 20 rfl) fun v5 => ?_
        refine on_icmp_lt (tk_X11_write 21 rfl) (tgt := 46) (by decide) ?_ ?_
        · refine on_bipush (tk_X11_write 22 rfl) bp_m7 ?_
          exact on_iret (tk_X11_write 23 rfl)
        · refine on_al5 (tk_X11_write 24 rfl) ?_
          refine fg_8_2 hN (on_Lb_of hj3) kw_2_170 (tk_X11_write 25 rfl) ?_
          refine on_il2 (tk_X11_write 26 rfl) ?_
          refine on_ll3 (tk_X11_write 27 rfl) ?_
          refine on_al5 (tk_X11_write 28 rfl) ?_
          refine fg_8_0 hN (on_Lb_of hj3) kw_2_164 (tk_X11_write 29 rfl) fun v6 => ?_
          refine on_cS2l ms_X8_cut kw_6_124 (ct_X8_cut hN) rfl (tk_X11_write 30 rfl) fun v7 σ8 => ?_
          refine on_last (ltL_1 hN (on_Lb_of hj3)) (shL_1 (on_Lb_of hj3)) (tk_X11_write 31 rfl) fun σ9 => ?_
          refine on_iconst (tk_X11_write 32 rfl) ?_
          exact on_iret (tk_X11_write 33 rfl)
      · refine on_bipush (tk_X11_write 22 rfl) bp_m7 ?_
        exact on_iret (tk_X11_write 23 rfl)
def tb_X11_paste : List (Nat × Nat × Nat × Instr) := [(0, 1, 1, .iload_n 1), (1, 3, 4, .invokestatic 394), (4, 3, 7, .ifCond .eq 10), (7, 1, 8, .iload_n 3), (8, 3, 11, .invokestatic 394), (11, 3, 14, .ifCond .ne 6), (14, 2, 16, .bipush (-2)), (16, 1, 17, .ireturn), (17, 1, 18, .aload_n 0), (18, 3, 21, .getfield 38), (21, 1, 22, .iload_n 1), (22, 1, 23, .aaload), (23, 2, 25, .astore 6), (25, 1, 26, .aload_n 0), (26, 3, 29, .getfield 38), (29, 1, 30, .iload_n 3), (30, 1, 31, .aaload), (31, 2, 33, .astore 7), (33, 2, 35, .aload 6), (35, 3, 38, .getfield 397), (38, 1, 39, .iconst (-1)), (39, 3, 42, .if_icmp .eq 12), (42, 2, 44, .aload 7), (44, 3, 47, .getfield 397), (47, 1, 48, .iconst (-1)), (48, 3, 51, .if_icmp .ne 6), (51, 2, 53, .bipush (-6)), (53, 1, 54, .ireturn), (54, 2, 56, .aload 6), (56, 3, 59, .getfield 397), (59, 2, 61, .aload 7), (61, 3, 64, .getfield 397), (64, 3, 67, .if_icmp .eq 6), (67, 2, 69, .bipush (-8)), (69, 1, 70, .ireturn), (70, 2, 72, .aload 6), (72, 1, 73, .iload_n 2), (73, 2, 75, .iload 5), (75, 3, 78, .invokevirtual 473), (78, 3, 81, .ifCond .eq 15), (81, 2, 83, .aload 7), (83, 2, 85, .iload 4), (85, 2, 87, .iload 5), (87, 3, 90, .invokevirtual 473), (90, 3, 93, .ifCond .ne 6), (93, 2, 95, .bipush (-7)), (95, 1, 96, .ireturn), (96, 2, 98, .aload 6), (98, 3, 101, .getfield 465), (101, 1, 102, .iload_n 2), (102, 2, 104, .aload 7), (104, 3, 107, .getfield 465), (107, 2, 109, .iload 4), (109, 2, 111, .iload 5), (111, 3, 114, .invokestatic 251), (114, 1, 115, .iconst 0), (115, 1, 116, .ireturn)]
set_option maxRecDepth 100000 in
theorem tk_X11_paste (k : Nat) {pc n pc2 : Nat} {i : Instr} (hk : tb_X11_paste[k]? = some (pc, n, pc2, i)) : on_dq cX11_paste pc n pc2 i := on_ta (by decide +kernel) k hk
theorem ms_X11_paste : on_Mv yX11_paste cX11_paste 8 (some .int) 5 := ⟨kw_6_130, kw_6_128, kw_6_129, kw_1_1, by decide, by decide, by decide +kernel⟩
def pf_X11_paste (p0 : Int) (p1 : Int) (p2 : Int) (p3 : Int) (p4 : Int) (σ : on_S) : Option on_O :=
  on_Cl (pf_X11_isSlot p0 σ) fun v1 σ2 =>
  on_Eq v1 0 (
    some ((-2), σ2)) (
    on_Cl (pf_X11_isSlot p2 σ2) fun v3 σ4 =>
    on_Eq v3 0 (
      some ((-2), σ4)) (
      on_Ix 4 p0 fun j5 =>
      on_Ix 4 p2 fun j6 =>
      on_Gt σ4 (69 + 2 * j5) 0 fun v7 =>
      on_Eq v7 (-1) (
        some ((-6), σ4)) (
        on_Gt σ4 (69 + 2 * j6) 0 fun v8 =>
        on_Eq v8 (-1) (
          some ((-6), σ4)) (
          on_Gt σ4 (69 + 2 * j5) 0 fun v9 =>
          on_Gt σ4 (69 + 2 * j6) 0 fun v10 =>
          on_Eq v9 v10 (
            on_Cl (pf_X8_has (69 + 2 * j5) p1 p4 σ4) fun v11 σ12 =>
            on_Eq v11 0 (
              some ((-7), σ12)) (
              on_Cl (pf_X8_has (69 + 2 * j6) p3 p4 σ12) fun v13 σ14 =>
              on_Eq v13 0 (
                some ((-7), σ14)) (
                on_Cp σ14 ((69 + 2 * j5) + 1) 60 p1 ((69 + 2 * j6) + 1) 60 p3 p4 fun σ15 =>
                some (0, σ15)))) (
            some ((-8), σ4))))))
set_option maxRecDepth 100000 in
set_option maxHeartbeats 4000000 in
theorem ct_X11_paste {E : on_E} {z n : Nat} {p0 : Int} {p1 : Int} {p2 : Int} {p3 : Int} {p4 : Int} (hN : 100 ≤ n) {σ : on_S} : on_Sp E yX11_paste cX11_paste 8 (some .int) 1 26 z n [.ref (z + 0), .int (on_i p0), .int (on_i p1), .int (on_i p2), .int (on_i p3), .int (on_i p4)] σ (pf_X11_paste p0 p1 p2 p3 p4 σ) := by
  refine on_met [some (.ref (z + 0)), some (.int (on_i p0)), some (.int (on_i p1)), some (.int (on_i p2)), some (.int (on_i p3)), some (.int (on_i p4)), none, none] (by decide) rfl rfl (fun X => ?_)
  rw [pf_X11_paste]
  refine on_il1 (tk_X11_paste 0 rfl) ?_
  refine on_cS1z ms_X11_isSlot kw_5_213 (ct_X11_isSlot hN) rfl (tk_X11_paste 1 rfl) fun v1 σ2 => ?_
  refine on_if_eq (tk_X11_paste 2 rfl) (tgt := 14) (by decide) ?_ ?_
  · refine on_il3 (tk_X11_paste 3 rfl) ?_
    refine on_cS1z ms_X11_isSlot kw_5_213 (ct_X11_isSlot hN) rfl (tk_X11_paste 4 rfl) fun v3 σ4 => ?_
    refine on_if_ne (tk_X11_paste 5 rfl) (tgt := 17) (by decide) ?_ ?_
    · refine on_bipush (tk_X11_paste 6 rfl) bp_m2 ?_
      exact on_iret (tk_X11_paste 7 rfl)
    · refine on_al0 (tk_X11_paste 8 rfl) ?_
      refine fg_11_6 hN kw_2_185 (tk_X11_paste 9 rfl) ?_
      refine on_il1 (tk_X11_paste 10 rfl) ?_
      refine on_aaL (ltc_54 hN) sh_54 (tk_X11_paste 11 rfl) fun j5 hj5 => ?_
      refine on_as6 rfl (tk_X11_paste 12 rfl) ?_
      refine on_al0 (tk_X11_paste 13 rfl) ?_
      refine fg_11_6 hN kw_2_185 (tk_X11_paste 14 rfl) ?_
      refine on_il3 (tk_X11_paste 15 rfl) ?_
      refine on_aaL (ltc_54 hN) sh_54 (tk_X11_paste 16 rfl) fun j6 hj6 => ?_
      refine on_as7 rfl (tk_X11_paste 17 rfl) ?_
      refine on_al6 (tk_X11_paste 18 rfl) ?_
      refine fg_8_0 hN (on_Lb_of hj5) kw_2_164 (tk_X11_paste 19 rfl) fun v7 => ?_
      refine on_iconst (tk_X11_paste 20 rfl) ?_
      refine on_icmp_eq (tk_X11_paste 21 rfl) (tgt := 51) (by decide) ?_ ?_
      · refine on_al7 (tk_X11_paste 22 rfl) ?_
        refine fg_8_0 hN (on_Lb_of hj6) kw_2_164 (tk_X11_paste 23 rfl) fun v8 => ?_
        refine on_iconst (tk_X11_paste 24 rfl) ?_
        refine on_icmp_ne (tk_X11_paste 25 rfl) (tgt := 54) (by decide) ?_ ?_
        · refine on_bipush (tk_X11_paste 26 rfl) bp_m6 ?_
          exact on_iret (tk_X11_paste 27 rfl)
        · refine on_al6 (tk_X11_paste 28 rfl) ?_
          refine fg_8_0 hN (on_Lb_of hj5) kw_2_164 (tk_X11_paste 29 rfl) fun v9 => ?_
          refine on_al7 (tk_X11_paste 30 rfl) ?_
          refine fg_8_0 hN (on_Lb_of hj6) kw_2_164 (tk_X11_paste 31 rfl) fun v10 => ?_
          refine on_icmp_eq (tk_X11_paste 32 rfl) (tgt := 70) (by decide) ?_ ?_
          · refine on_bipush (tk_X11_paste 33 rfl) bp_m8 ?_
            exact on_iret (tk_X11_paste 34 rfl)
          · refine on_al6 (tk_X11_paste 35 rfl) ?_
            refine on_il2 (tk_X11_paste 36 rfl) ?_
            refine on_il5 (tk_X11_paste 37 rfl) ?_
            refine on_cV2z 8 ms_X8_has kw_6_131 rfl rfl (ltL_0 hN (on_Lb_of hj5)) (shL_0 (on_Lb_of hj5)) (ct_X8_has hN (on_Lb_of hj5)) rfl (tk_X11_paste 38 rfl) fun v11 σ12 => ?_
            refine on_if_eq (tk_X11_paste 39 rfl) (tgt := 93) (by decide) ?_ ?_
            · refine on_al7 (tk_X11_paste 40 rfl) ?_
              refine on_il4 (tk_X11_paste 41 rfl) ?_
              refine on_il5 (tk_X11_paste 42 rfl) ?_
              refine on_cV2z 8 ms_X8_has kw_6_131 rfl rfl (ltL_0 hN (on_Lb_of hj6)) (shL_0 (on_Lb_of hj6)) (ct_X8_has hN (on_Lb_of hj6)) rfl (tk_X11_paste 43 rfl) fun v13 σ14 => ?_
              refine on_if_ne (tk_X11_paste 44 rfl) (tgt := 96) (by decide) ?_ ?_
              · refine on_bipush (tk_X11_paste 45 rfl) bp_m7 ?_
                exact on_iret (tk_X11_paste 46 rfl)
              · refine on_al6 (tk_X11_paste 47 rfl) ?_
                refine fg_8_2 hN (on_Lb_of hj5) kw_2_170 (tk_X11_paste 48 rfl) ?_
                refine on_il2 (tk_X11_paste 49 rfl) ?_
                refine on_al7 (tk_X11_paste 50 rfl) ?_
                refine fg_8_2 hN (on_Lb_of hj6) kw_2_170 (tk_X11_paste 51 rfl) ?_
                refine on_il4 (tk_X11_paste 52 rfl) ?_
                refine on_il5 (tk_X11_paste 53 rfl) ?_
                refine on_acpl kw_4_156 kwA_n kwA_s kwA_i (ltL_1 hN (on_Lb_of hj5)) (ltL_1 hN (on_Lb_of hj6)) (shL_1 (on_Lb_of hj5)) (shL_1 (on_Lb_of hj6)) rfl (tk_X11_paste 54 rfl) fun σ15 => ?_
                refine on_iconst (tk_X11_paste 55 rfl) ?_
                exact on_iret (tk_X11_paste 56 rfl)
            · refine on_bipush (tk_X11_paste 45 rfl) bp_m7 ?_
              exact on_iret (tk_X11_paste 46 rfl)
      · refine on_bipush (tk_X11_paste 26 rfl) bp_m6 ?_
        exact on_iret (tk_X11_paste 27 rfl)
  · refine on_bipush (tk_X11_paste 6 rfl) bp_m2 ?_
    exact on_iret (tk_X11_paste 7 rfl)
