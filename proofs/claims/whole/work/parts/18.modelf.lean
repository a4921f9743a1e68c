def tb_X12_sure : List (Nat × Nat × Nat × Instr) := [(0, 1, 1, .aload_n 0), (1, 1, 2, .iload_n 1), (2, 1, 3, .iload_n 2), (3, 1, 4, .i2l), (4, 1, 5, .lconst 0), (5, 1, 6, .lconst 1), (6, 3, 9, .invokestatic 88), (9, 3, 12, .invokevirtual 456), (12, 1, 13, .istore_n 3), (13, 1, 14, .iload_n 3), (14, 3, 17, .ifCond .ge 5), (17, 1, 18, .iload_n 3), (18, 1, 19, .ireturn), (19, 1, 20, .aload_n 0), (20, 3, 23, .invokevirtual 460), (23, 2, 25, .istore 4), (25, 1, 26, .iconst 0), (26, 2, 28, .istore 5), (28, 1, 29, .iconst 0), (29, 2, 31, .istore 6), (31, 2, 33, .iload 6), (33, 1, 34, .aload_n 0), (34, 3, 37, .invokevirtual 460), (37, 3, 40, .if_icmp .gt 44), (40, 1, 41, .aload_n 0), (41, 1, 42, .iload_n 1), (42, 2, 44, .iload 6), (44, 3, 47, .invokevirtual 463), (47, 1, 48, .iconst (-1)), (48, 3, 51, .if_icmp .eq 6), (51, 3, 54, .goto 24), (54, 1, 55, .iconst 1), (55, 2, 57, .istore 5), (57, 2, 59, .iload 4), (59, 1, 60, .iload_n 2), (60, 3, 63, .ifCond .ne 8), (63, 2, 65, .iload 6), (65, 3, 68, .goto 7), (68, 2, 70, .iload 6), (70, 1, 71, .iconst (-1)), (71, 1, 72, .ixor), (72, 1, 73, .iand), (73, 2, 75, .istore 4), (75, 3, 78, .iinc 6 1), (78, 3, 81, .goto (-47)), (81, 2, 83, .iload 5), (83, 3, 86, .ifCond .eq 8), (86, 2, 88, .iload 4), (88, 3, 91, .goto 4), (91, 1, 92, .iconst (-1)), (92, 1, 93, .ireturn)]
set_option maxRecDepth 100000 in
theorem tk_X12_sure (k : Nat) {pc n pc2 : Nat} {i : Instr} (hk : tb_X12_sure[k]? = some (pc, n, pc2, i)) : on_dq cX12_sure pc n pc2 i := on_ta (by decide +kernel) k hk
theorem ms_X12_sure : on_Mv yX12_sure cX12_sure 7 (some .int) 2 := ⟨kw_9_91, kw_9_89, kw_9_90, kw_1_13, by decide, by decide, by decide +kernel⟩
def pf_X12_sure_72 (k31 : Int → Int → Int → Int → Int → on_S → Option on_O) (l1 : Int) (l2 : Int) (l5 : Int) (l6 : Int) (s0 : Int) (s1 : Int) (σ : on_S) : Option on_O :=
  k31 l1 l2 (on_and s0 s1) l5 (l6 + 1) σ
def pf_X12_sure_31 : Nat → Int → Int → Int → Int → Int → on_S → Option on_O
  | 0, _, _, _, _, _, _ => none
  | nf + 1, l1, l2, l4, l5, l6, σ =>
    on_Cl (pf_X12_allNets σ) fun v7 σ8 =>
    on_Le l6 v7 (
      on_Cl (pf_X12_firstOdd l1 l6 σ8) fun v9 σ10 =>
      on_Eq v9 (-1) (
        on_Eq l2 0 (
          pf_X12_sure_72 (pf_X12_sure_31 nf) l1 l2 1 l6 l4 l6 σ10) (
          pf_X12_sure_72 (pf_X12_sure_31 nf) l1 l2 1 l6 l4 (on_xor l6 (-1)) σ10)) (
        pf_X12_sure_31 nf l1 l2 l4 l5 (l6 + 1) σ10)) (
      on_Eq l5 0 (
        some ((-1), σ8)) (
        some (l4, σ8)))
def pf_X12_sure (p0 : Int) (p1 : Int) (σ : on_S) : Option on_O :=
  on_Ck p1 <|
  on_Cl (pf_X12_in p1 0 1 σ) fun v1 σ2 =>
  on_Cl (pf_X12_asksSeen p0 v1 σ2) fun v3 σ4 =>
  on_Lt v3 0 (
    some (v3, σ4)) (
    on_Cl (pf_X12_allNets σ4) fun v5 σ6 =>
    pf_X12_sure_31 on_N p0 p1 v5 0 0 σ6)
set_option maxRecDepth 100000 in
set_option maxHeartbeats 4000000 in
theorem gb_X12_sure_72 {E : on_E} {z n : Nat} (X : on_X) (k31 : Int → Int → Int → Int → Int → on_S → Option on_O) (hN : 100 ≤ n) (hk31 : ∀ (l1 : Int) (l2 : Int) (l4 : Int) (l5 : Int) (l6 : Int) (σ : on_S), on_G X E cX12_sure RX12 (some .int) 6 146 7 z n σ (k31 l1 l2 l4 l5 l6 σ) 31 [some (.ref (z + 77)), some (.int (on_i l1)), some (.int (on_i l2)), none, some (.int (on_i l4)), some (.int (on_i l5)), some (.int (on_i l6))] []) (l1 : Int) (l2 : Int) (l5 : Int) (l6 : Int) (s0 : Int) (s1 : Int) (σ : on_S) : on_G X E cX12_sure RX12 (some .int) 6 146 7 z n σ (pf_X12_sure_72 k31 l1 l2 l5 l6 s0 s1 σ) 72 [some (.ref (z + 77)), some (.int (on_i l1)), some (.int (on_i l2)), none, none, some (.int (on_i l5)), some (.int (on_i l6))] [.int (on_i s1), .int (on_i s0)] := by
  rw [pf_X12_sure_72]
  refine on_iand (tk_X12_sure 41 rfl) ?_
  refine on_is4 rfl (tk_X12_sure 42 rfl) ?_
  refine on_inc6 rfl (tk_X12_sure 43 rfl) ?_
  refine on_goto (tk_X12_sure 44 rfl) (tgt := 31) (by decide) ?_
  exact hk31 _ _ _ _ _ _
set_option maxRecDepth 100000 in
set_option maxHeartbeats 4000000 in
theorem gl_X12_sure_31 {E : on_E} {z n : Nat} (X : on_X) (hN : 100 ≤ n) : ∀ (nf : Nat) (l1 : Int) (l2 : Int) (l4 : Int) (l5 : Int) (l6 : Int) (σ : on_S), on_G X E cX12_sure RX12 (some .int) 6 146 7 z n σ (pf_X12_sure_31 nf l1 l2 l4 l5 l6 σ) 31 [some (.ref (z + 77)), some (.int (on_i l1)), some (.int (on_i l2)), none, some (.int (on_i l4)), some (.int (on_i l5)), some (.int (on_i l6))] [] := by
  intro nf
  induction nf with
  | zero => intro l1 l2 l4 l5 l6 σ; exact on_none
  | succ nf ih =>
    intro l1 l2 l4 l5 l6 σ
    rw [pf_X12_sure_31]
    refine on_il6 (tk_X12_sure 20 rfl) ?_
    refine on_al0 (tk_X12_sure 21 rfl) ?_
    refine on_cV0i 12 ms_X12_allNets kw_9_80 rfl rfl (ltc_77 hN) sh_77 (ct_X12_allNets hN) rfl (tk_X12_sure 22 rfl) fun v7 σ8 => ?_
    refine on_icmp_gt (tk_X12_sure 23 rfl) (tgt := 81) (by decide) ?_ ?_
    · refine on_al0 (tk_X12_sure 24 rfl) ?_
      refine on_il1 (tk_X12_sure 25 rfl) ?_
      refine on_il6 (tk_X12_sure 26 rfl) ?_
      refine on_cV2i 12 ms_X12_firstOdd kw_9_84 rfl rfl (ltc_77 hN) sh_77 (ct_X12_firstOdd hN) rfl (tk_X12_sure 27 rfl) fun v9 σ10 => ?_
      refine on_iconst (tk_X12_sure 28 rfl) ?_
      refine on_icmp_eq (tk_X12_sure 29 rfl) (tgt := 54) (by decide) ?_ ?_
      · refine on_goto (tk_X12_sure 30 rfl) (tgt := 75) (by decide) ?_
        refine on_inc6 rfl (tk_X12_sure 43 rfl) ?_
        refine on_goto (tk_X12_sure 44 rfl) (tgt := 31) (by decide) ?_
        exact ih _ _ _ _ _ _
      · refine on_iconst (tk_X12_sure 31 rfl) ?_
        refine on_is5 rfl (tk_X12_sure 32 rfl) ?_
        refine on_il4 (tk_X12_sure 33 rfl) ?_
        refine on_il2 (tk_X12_sure 34 rfl) ?_
        refine on_if_ne (tk_X12_sure 35 rfl) (tgt := 68) (by decide) ?_ ?_
        · refine on_il6 (tk_X12_sure 36 rfl) ?_
          refine on_goto (tk_X12_sure 37 rfl) (tgt := 72) (by decide) ?_
          refine on_dr4 ?_
          exact gb_X12_sure_72 X _ hN ih _ _ _ _ _ _ _
        · refine on_il6 (tk_X12_sure 38 rfl) ?_
          refine on_iconst (tk_X12_sure 39 rfl) ?_
          refine on_ixor (tk_X12_sure 40 rfl) ?_
          refine on_dr4 ?_
          exact gb_X12_sure_72 X _ hN ih _ _ _ _ _ _ _
    · refine on_il5 (tk_X12_sure 45 rfl) ?_
      refine on_if_eq (tk_X12_sure 46 rfl) (tgt := 91) (by decide) ?_ ?_
      · refine on_il4 (tk_X12_sure 47 rfl) ?_
        refine on_goto (tk_X12_sure 48 rfl) (tgt := 92) (by decide) ?_
        exact on_iret (tk_X12_sure 50 rfl)
      · refine on_iconst (tk_X12_sure 49 rfl) ?_
        exact on_iret (tk_X12_sure 50 rfl)
set_option maxRecDepth 100000 in
set_option maxHeartbeats 4000000 in
theorem ct_X12_sure {E : on_E} {z n : Nat} {p0 : Int} {p1 : Int} (hN : 100 ≤ n) {σ : on_S} : on_Sp E yX12_sure cX12_sure 7 (some .int) 6 146 z n [.ref (z + 77), .int (on_i p0), .int (on_i p1)] σ (pf_X12_sure p0 p1 σ) := by
  refine on_met [some (.ref (z + 77)), some (.int (on_i p0)), some (.int (on_i p1)), none, none, none, none] (by decide) rfl rfl (fun X => ?_)
  rw [pf_X12_sure]
  refine on_al0 (tk_X12_sure 0 rfl) ?_
  refine on_il1 (tk_X12_sure 1 rfl) ?_
  refine on_il2 (tk_X12_sure 2 rfl) ?_
  refine on_xi2l (tk_X12_sure 3 rfl) ?_
  refine on_lconst0 (tk_X12_sure 4 rfl) ?_
  refine on_lconst1 (tk_X12_sure 5 rfl) ?_
  refine on_cS3z ms_X12_in kw_7_18 (ct_X12_in hN) rfl (tk_X12_sure 6 rfl) fun v1 σ2 => ?_
  refine on_cV2i 12 ms_X12_asksSeen kw_9_69 rfl rfl (ltc_77 hN) sh_77 (ct_X12_asksSeen hN) rfl (tk_X12_sure 7 rfl) fun v3 σ4 => ?_
  refine on_is3 rfl (tk_X12_sure 8 rfl) ?_
  refine on_il3 (tk_X12_sure 9 rfl) ?_
  refine on_if_ge (tk_X12_sure 10 rfl) (tgt := 19) (by decide) ?_ ?_
  · refine on_il3 (tk_X12_sure 11 rfl) ?_
    exact on_iret (tk_X12_sure 12 rfl)
  · refine on_al0 (tk_X12_sure 13 rfl) ?_
    refine on_cV0i 12 ms_X12_allNets kw_9_80 rfl rfl (ltc_77 hN) sh_77 (ct_X12_allNets hN) rfl (tk_X12_sure 14 rfl) fun v5 σ6 => ?_
    refine on_is4 rfl (tk_X12_sure 15 rfl) ?_
    refine on_iconst (tk_X12_sure 16 rfl) ?_
    refine on_is5 rfl (tk_X12_sure 17 rfl) ?_
    refine on_iconst (tk_X12_sure 18 rfl) ?_
    refine on_is6 rfl (tk_X12_sure 19 rfl) ?_
    refine on_dr3 ?_
    exact gl_X12_sure_31 X  hN on_N _ _ _ _ _ _
def tb_X12_odd : List (Nat × Nat × Nat × Instr) := [(0, 1, 1, .aload_n 0), (1, 1, 2, .iload_n 1), (2, 1, 3, .iconst 1), (3, 3, 6, .invokevirtual 456), (6, 1, 7, .istore_n 2), (7, 1, 8, .iload_n 2), (8, 3, 11, .ifCond .ge 5), (11, 1, 12, .iload_n 2), (12, 1, 13, .ireturn), (13, 1, 14, .iconst 0), (14, 1, 15, .istore_n 3), (15, 1, 16, .iconst 0), (16, 2, 18, .istore 4), (18, 2, 20, .iload 4), (20, 1, 21, .aload_n 0), (21, 3, 24, .getfield 9), (24, 1, 25, .iconst 4), (25, 1, 26, .iaload), (26, 3, 29, .if_icmp .ge 22), (29, 1, 30, .iload_n 3), (30, 1, 31, .aload_n 0), (31, 2, 33, .iload 4), (33, 1, 34, .iconst 2), (34, 3, 37, .invokevirtual 94), (37, 2, 39, .iload 4), (39, 1, 40, .ishl), (40, 1, 41, .ior), (41, 1, 42, .istore_n 3), (42, 3, 45, .iinc 4 1), (45, 3, 48, .goto (-27)), (48, 1, 49, .aload_n 0), (49, 1, 50, .iload_n 1), (50, 1, 51, .iload_n 3), (51, 3, 54, .invokevirtual 463), (54, 1, 55, .ireturn)]
set_option maxRecDepth 100000 in
theorem tk_X12_odd (k : Nat) {pc n pc2 : Nat} {i : Instr} (hk : tb_X12_odd[k]? = some (pc, n, pc2, i)) : on_dq cX12_odd pc n pc2 i := on_ta (by decide +kernel) k hk
theorem ms_X12_odd : on_Mv yX12_odd cX12_odd 5 (some .int) 1 := ⟨kw_9_95, kw_9_93, kw_9_94, kw_1_13, by decide, by decide, by decide +kernel⟩
def pf_X12_odd_18 : Nat → Int → Int → Int → on_S → Option on_O
  | 0, _, _, _, _ => none
  | nf + 1, l1, l3, l4, σ =>
    on_Rd σ 78 687 4 fun v3 =>
    on_Lt l4 v3 (
      on_Cl (pf_X12_ofNet l4 2 σ) fun v4 σ5 =>
      pf_X12_odd_18 nf l1 (on_or l3 (on_shl v4 l4)) (l4 + 1) σ5) (
      on_Cl (pf_X12_firstOdd l1 l3 σ) fun v6 σ7 =>
      some (v6, σ7))
def pf_X12_odd (p0 : Int) (σ : on_S) : Option on_O :=
  on_Cl (pf_X12_asksSeen p0 1 σ) fun v1 σ2 =>
  on_Lt v1 0 (
    some (v1, σ2)) (
    pf_X12_odd_18 on_N p0 0 0 σ2)
set_option maxRecDepth 100000 in
set_option maxHeartbeats 4000000 in
theorem gl_X12_odd_18 {E : on_E} {z n : Nat} (X : on_X) (hN : 100 ≤ n) : ∀ (nf : Nat) (l1 : Int) (l3 : Int) (l4 : Int) (σ : on_S), on_G X E cX12_odd RX12 (some .int) 6 146 5 z n σ (pf_X12_odd_18 nf l1 l3 l4 σ) 18 [some (.ref (z + 77)), some (.int (on_i l1)), none, some (.int (on_i l3)), some (.int (on_i l4))] [] := by
  intro nf
  induction nf with
  | zero => intro l1 l3 l4 σ; exact on_none
  | succ nf ih =>
    intro l1 l3 l4 σ
    rw [pf_X12_odd_18]
    refine on_il4 (tk_X12_odd 13 rfl) ?_
    refine on_al0 (tk_X12_odd 14 rfl) ?_
    refine fg_12_1 hN kw_6_141 (tk_X12_odd 15 rfl) ?_
    refine on_iconst (tk_X12_odd 16 rfl) ?_
    refine on_iald (ltc_78 hN) sh_78 (tk_X12_odd 17 rfl) fun v3 => ?_
    refine on_icmp_ge (tk_X12_odd 18 rfl) (tgt := 48) (by decide) ?_ ?_
    · refine on_il3 (tk_X12_odd 19 rfl) ?_
      refine on_al0 (tk_X12_odd 20 rfl) ?_
      refine on_il4 (tk_X12_odd 21 rfl) ?_
      refine on_iconst (tk_X12_odd 22 rfl) ?_
      refine on_cV2i 12 ms_X12_ofNet kw_7_162 rfl rfl (ltc_77 hN) sh_77 (ct_X12_ofNet hN) rfl (tk_X12_odd 23 rfl) fun v4 σ5 => ?_
      refine on_il4 (tk_X12_odd 24 rfl) ?_
      refine on_ishl (tk_X12_odd 25 rfl) ?_
      refine on_ior (tk_X12_odd 26 rfl) ?_
      refine on_is3 rfl (tk_X12_odd 27 rfl) ?_
      refine on_inc4 rfl (tk_X12_odd 28 rfl) ?_
      refine on_goto (tk_X12_odd 29 rfl) (tgt := 18) (by decide) ?_
      exact ih _ _ _ _
    · refine on_al0 (tk_X12_odd 30 rfl) ?_
      refine on_il1 (tk_X12_odd 31 rfl) ?_
      refine on_il3 (tk_X12_odd 32 rfl) ?_
      refine on_cV2i 12 ms_X12_firstOdd kw_9_84 rfl rfl (ltc_77 hN) sh_77 (ct_X12_firstOdd hN) rfl (tk_X12_odd 33 rfl) fun v6 σ7 => ?_
      exact on_iret (tk_X12_odd 34 rfl)
set_option maxRecDepth 100000 in
set_option maxHeartbeats 4000000 in
theorem ct_X12_odd {E : on_E} {z n : Nat} {p0 : Int} (hN : 100 ≤ n) {σ : on_S} : on_Sp E yX12_odd cX12_odd 5 (some .int) 6 146 z n [.ref (z + 77), .int (on_i p0)] σ (pf_X12_odd p0 σ) := by
  refine on_met [some (.ref (z + 77)), some (.int (on_i p0)), none, none, none] (by decide) rfl rfl (fun X => ?_)
  rw [pf_X12_odd]
  refine on_al0 (tk_X12_odd 0 rfl) ?_
  refine on_il1 (tk_X12_odd 1 rfl) ?_
  refine on_iconst (tk_X12_odd 2 rfl) ?_
  refine on_cV2i 12 ms_X12_asksSeen kw_9_69 rfl rfl (ltc_77 hN) sh_77 (ct_X12_asksSeen hN) rfl (tk_X12_odd 3 rfl) fun v1 σ2 => ?_
  refine on_is2 rfl (tk_X12_odd 4 rfl) ?_
  refine on_il2 (tk_X12_odd 5 rfl) ?_
  refine on_if_ge (tk_X12_odd 6 rfl) (tgt := 13) (by decide) ?_ ?_
  · refine on_il2 (tk_X12_odd 7 rfl) ?_
    exact on_iret (tk_X12_odd 8 rfl)
  · refine on_iconst (tk_X12_odd 9 rfl) ?_
    refine on_is3 rfl (tk_X12_odd 10 rfl) ?_
    refine on_iconst (tk_X12_odd 11 rfl) ?_
    refine on_is4 rfl (tk_X12_odd 12 rfl) ?_
    refine on_dr2 ?_
    exact gl_X12_odd_18 X  hN on_N _ _ _ _
def tb_X12_cornersOf : List (Nat × Nat × Nat × Instr) := [(0, 1, 1, .iconst 0), (1, 1, 2, .istore_n 2), (2, 1, 3, .iconst 0), (3, 1, 4, .istore_n 3), (4, 1, 5, .iload_n 3), (5, 1, 6, .aload_n 0), (6, 3, 9, .getfield 9), (9, 1, 10, .iconst 3), (10, 1, 11, .iaload), (11, 3, 14, .if_icmp .ge 42), (14, 1, 15, .iload_n 2), (15, 1, 16, .aload_n 0), (16, 1, 17, .iload_n 3), (17, 1, 18, .iconst 2), (18, 3, 21, .invokevirtual 98), (21, 1, 22, .iconst (-1)), (22, 3, 25, .if_icmp .eq 22), (25, 1, 26, .iload_n 1), (26, 1, 27, .iconst (-1)), (27, 3, 30, .if_icmp .eq 13), (30, 1, 31, .aload_n 0), (31, 1, 32, .iload_n 3), (32, 1, 33, .iconst 0), (33, 3, 36, .invokevirtual 98), (36, 1, 37, .iload_n 1), (37, 3, 40, .if_icmp .ne 7), (40, 1, 41, .iconst 1), (41, 3, 44, .goto 4), (44, 1, 45, .iconst 0), (45, 1, 46, .iadd), (46, 1, 47, .istore_n 2), (47, 3, 50, .iinc 3 1), (50, 3, 53, .goto (-46)), (53, 1, 54, .iload_n 2), (54, 1, 55, .ireturn)]
set_option maxRecDepth 100000 in
theorem tk_X12_cornersOf (k : Nat) {pc n pc2 : Nat} {i : Instr} (hk : tb_X12_cornersOf[k]? = some (pc, n, pc2, i)) : on_dq cX12_cornersOf pc n pc2 i := on_ta (by decide +kernel) k hk
theorem ms_X12_cornersOf : on_Mv yX12_cornersOf cX12_cornersOf 4 (some .int) 1 := ⟨kw_9_103, kw_9_102, (on_mp (q := (yX12_cornersOf, 37)) (by decide +kernel)), kw_1_13, by decide, by decide, by decide +kernel⟩
def pf_X12_cornersOf_40 (k4 : Int → Int → Int → on_S → Option on_O) (l1 : Int) (l3 : Int) (s0 : Int) (σ : on_S) : Option on_O :=
  k4 l1 (s0 + 1) (l3 + 1) σ
def pf_X12_cornersOf_44 (k4 : Int → Int → Int → on_S → Option on_O) (l1 : Int) (l3 : Int) (s0 : Int) (σ : on_S) : Option on_O :=
  k4 l1 (s0 + 0) (l3 + 1) σ
def pf_X12_cornersOf_4 : Nat → Int → Int → Int → on_S → Option on_O
  | 0, _, _, _, _ => none
  | nf + 1, l1, l2, l3, σ =>
    on_Rd σ 78 687 3 fun v1 =>
    on_Lt l3 v1 (
      on_Cl (pf_X12_ofMan l3 2 σ) fun v2 σ3 =>
      on_Eq v2 (-1) (
        pf_X12_cornersOf_44 (pf_X12_cornersOf_4 nf) l1 l3 l2 σ3) (
        on_Eq l1 (-1) (
          pf_X12_cornersOf_40 (pf_X12_cornersOf_4 nf) l1 l3 l2 σ3) (
          on_Cl (pf_X12_ofMan l3 0 σ3) fun v4 σ5 =>
          on_Eq v4 l1 (
            pf_X12_cornersOf_40 (pf_X12_cornersOf_4 nf) l1 l3 l2 σ5) (
            pf_X12_cornersOf_44 (pf_X12_cornersOf_4 nf) l1 l3 l2 σ5)))) (
      some (l2, σ))
def pf_X12_cornersOf (p0 : Int) (σ : on_S) : Option on_O :=
  pf_X12_cornersOf_4 on_N p0 0 0 σ
set_option maxRecDepth 100000 in
set_option maxHeartbeats 4000000 in
theorem gb_X12_cornersOf_40 {E : on_E} {z n : Nat} (X : on_X) (k4 : Int → Int → Int → on_S → Option on_O) (hN : 100 ≤ n) (hk4 : ∀ (l1 : Int) (l2 : Int) (l3 : Int) (σ : on_S), on_G X E cX12_cornersOf RX12 (some .int) 1 22 4 z n σ (k4 l1 l2 l3 σ) 4 [some (.ref (z + 77)), some (.int (on_i l1)), some (.int (on_i l2)), some (.int (on_i l3))] []) (l1 : Int) (l3 : Int) (s0 : Int) (σ : on_S) : on_G X E cX12_cornersOf RX12 (some .int) 1 22 4 z n σ (pf_X12_cornersOf_40 k4 l1 l3 s0 σ) 40 [some (.ref (z + 77)), some (.int (on_i l1)), none, some (.int (on_i l3))] [.int (on_i s0)] := by
  rw [pf_X12_cornersOf_40]
  refine on_iconst (tk_X12_cornersOf 26 rfl) ?_
  refine on_goto (tk_X12_cornersOf 27 rfl) (tgt := 45) (by decide) ?_
  refine on_iadd (tk_X12_cornersOf 29 rfl) ?_
  refine on_is2 rfl (tk_X12_cornersOf 30 rfl) ?_
  refine on_inc3 rfl (tk_X12_cornersOf 31 rfl) ?_
  refine on_goto (tk_X12_cornersOf 32 rfl) (tgt := 4) (by decide) ?_
  exact hk4 _ _ _ _
set_option maxRecDepth 100000 in
set_option maxHeartbeats 4000000 in
theorem gb_X12_cornersOf_44 {E : on_E} {z n : Nat} (X : on_X) (k4 : Int → Int → Int → on_S → Option on_O) (hN : 100 ≤ n) (hk4 : ∀ (l1 : Int) (l2 : Int) (l3 : Int) (σ : on_S), on_G X E cX12_cornersOf RX12 (some .int) 1 22 4 z n σ (k4 l1 l2 l3 σ) 4 [some (.ref (z + 77)), some (.int (on_i l1)), some (.int (on_i l2)), some (.int (on_i l3))] []) (l1 : Int) (l3 : Int) (s0 : Int) (σ : on_S) : on_G X E cX12_cornersOf RX12 (some .int) 1 22 4 z n σ (pf_X12_cornersOf_44 k4 l1 l3 s0 σ) 44 [some (.ref (z + 77)), some (.int (on_i l1)), none, some (.int (on_i l3))] [.int (on_i s0)] := by
  rw [pf_X12_cornersOf_44]
  refine on_iconst (tk_X12_cornersOf 28 rfl) ?_
  refine on_iadd (tk_X12_cornersOf 29 rfl) ?_
  refine on_is2 rfl (tk_X12_cornersOf 30 rfl) ?_
  refine on_inc3 rfl (tk_X12_cornersOf 31 rfl) ?_
  refine on_goto (tk_X12_cornersOf 32 rfl) (tgt := 4) (by decide) ?_
  exact hk4 _ _ _ _
set_option maxRecDepth 100000 in
set_option maxHeartbeats 4000000 in
theorem gl_X12_cornersOf_4 {E : on_E} {z n : Nat} (X : on_X) (hN : 100 ≤ n) : ∀ (nf : Nat) (l1 : Int) (l2 : Int) (l3 : Int) (σ : on_S), on_G X E cX12_cornersOf RX12 (some .int) 1 22 4 z n σ (pf_X12_cornersOf_4 nf l1 l2 l3 σ) 4 [some (.ref (z + 77)), some (.int (on_i l1)), some (.int (on_i l2)), some (.int (on_i l3))] [] := by
  intro nf
  induction nf with
  | zero => intro l1 l2 l3 σ; exact on_none
  | succ nf ih =>
    intro l1 l2 l3 σ
    rw [pf_X12_cornersOf_4]
    refine on_il3 (tk_X12_cornersOf 4 rfl) ?_
    refine on_al0 (tk_X12_cornersOf 5 rfl) ?_
    refine fg_12_1 hN kw_6_141 (tk_X12_cornersOf 6 rfl) ?_
    refine on_iconst (tk_X12_cornersOf 7 rfl) ?_
    refine on_iald (ltc_78 hN) sh_78 (tk_X12_cornersOf 8 rfl) fun v1 => ?_
    refine on_icmp_ge (tk_X12_cornersOf 9 rfl) (tgt := 53) (by decide) ?_ ?_
    · refine on_il2 (tk_X12_cornersOf 10 rfl) ?_
      refine on_al0 (tk_X12_cornersOf 11 rfl) ?_
      refine on_il3 (tk_X12_cornersOf 12 rfl) ?_
      refine on_iconst (tk_X12_cornersOf 13 rfl) ?_
      refine on_cV2i 12 ms_X12_ofMan kw_7_175 rfl rfl (ltc_77 hN) sh_77 (ct_X12_ofMan hN) rfl (tk_X12_cornersOf 14 rfl) fun v2 σ3 => ?_
      refine on_iconst (tk_X12_cornersOf 15 rfl) ?_
      refine on_icmp_eq (tk_X12_cornersOf 16 rfl) (tgt := 44) (by decide) ?_ ?_
      · refine on_il1 (tk_X12_cornersOf 17 rfl) ?_
        refine on_iconst (tk_X12_cornersOf 18 rfl) ?_
        refine on_icmp_eq (tk_X12_cornersOf 19 rfl) (tgt := 40) (by decide) ?_ ?_
        · refine on_al0 (tk_X12_cornersOf 20 rfl) ?_
          refine on_il3 (tk_X12_cornersOf 21 rfl) ?_
          refine on_iconst (tk_X12_cornersOf 22 rfl) ?_
          refine on_cV2i 12 ms_X12_ofMan kw_7_175 rfl rfl (ltc_77 hN) sh_77 (ct_X12_ofMan hN) rfl (tk_X12_cornersOf 23 rfl) fun v4 σ5 => ?_
          refine on_il1 (tk_X12_cornersOf 24 rfl) ?_
          refine on_icmp_ne (tk_X12_cornersOf 25 rfl) (tgt := 44) (by decide) ?_ ?_
          · refine on_dr2 ?_
            exact gb_X12_cornersOf_40 X _ hN ih _ _ _ _
          · refine on_dr2 ?_
            exact gb_X12_cornersOf_44 X _ hN ih _ _ _ _
        · refine on_dr2 ?_
          exact gb_X12_cornersOf_40 X _ hN ih _ _ _ _
      · refine on_dr2 ?_
        exact gb_X12_cornersOf_44 X _ hN ih _ _ _ _
    · refine on_il2 (tk_X12_cornersOf 33 rfl) ?_
      exact on_iret (tk_X12_cornersOf 34 rfl)
set_option maxRecDepth 100000 in
set_option maxHeartbeats 4000000 in
theorem ct_X12_cornersOf {E : on_E} {z n : Nat} {p0 : Int} (hN : 100 ≤ n) {σ : on_S} : on_Sp E yX12_cornersOf cX12_cornersOf 4 (some .int) 1 22 z n [.ref (z + 77), .int (on_i p0)] σ (pf_X12_cornersOf p0 σ) := by
  refine on_met [some (.ref (z + 77)), some (.int (on_i p0)), none, none] (by decide) rfl rfl (fun X => ?_)
  rw [pf_X12_cornersOf]
  refine on_iconst (tk_X12_cornersOf 0 rfl) ?_
  refine on_is2 rfl (tk_X12_cornersOf 1 rfl) ?_
  refine on_iconst (tk_X12_cornersOf 2 rfl) ?_
  refine on_is3 rfl (tk_X12_cornersOf 3 rfl) ?_
  exact gl_X12_cornersOf_4 X  hN on_N _ _ _ _
def tb_X12_corners : List (Nat × Nat × Nat × Instr) := [(0, 1, 1, .aload_n 0), (1, 1, 2, .iload_n 1), (2, 3, 5, .invokevirtual 316), (5, 3, 8, .ifCond .eq 11), (8, 1, 9, .aload_n 0), (9, 1, 10, .iload_n 1), (10, 3, 13, .invokevirtual 466), (13, 3, 16, .goto 5), (16, 2, 18, .bipush (-2)), (18, 1, 19, .ireturn)]
set_option maxRecDepth 100000 in
theorem tk_X12_corners (k : Nat) {pc n pc2 : Nat} {i : Instr} (hk : tb_X12_corners[k]? = some (pc, n, pc2, i)) : on_dq cX12_corners pc n pc2 i := on_ta (by decide +kernel) k hk
theorem ms_X12_corners : on_Mv yX12_corners cX12_corners 2 (some .int) 1 := ⟨kw_9_99, kw_9_97, kw_9_98, kw_1_13, by decide, by decide, by decide +kernel⟩
def pf_X12_corners (p0 : Int) (σ : on_S) : Option on_O :=
  on_Cl (pf_X12_isHouse p0 σ) fun v1 σ2 =>
  on_Eq v1 0 (
    some ((-2), σ2)) (
    on_Cl (pf_X12_cornersOf p0 σ2) fun v3 σ4 =>
    some (v3, σ4))
set_option maxRecDepth 100000 in
set_option maxHeartbeats 4000000 in
theorem ct_X12_corners {E : on_E} {z n : Nat} {p0 : Int} (hN : 100 ≤ n) {σ : on_S} : on_Sp E yX12_corners cX12_corners 2 (some .int) 2 46 z n [.ref (z + 77), .int (on_i p0)] σ (pf_X12_corners p0 σ) := by
  refine on_met [some (.ref (z + 77)), some (.int (on_i p0))] (by decide) rfl rfl (fun X => ?_)
  rw [pf_X12_corners]
  refine on_al0 (tk_X12_corners 0 rfl) ?_
  refine on_il1 (tk_X12_corners 1 rfl) ?_
  refine on_cV1z 12 ms_X12_isHouse kw_8_32 rfl rfl (ltc_77 hN) sh_77 (ct_X12_isHouse hN) rfl (tk_X12_corners 2 rfl) fun v1 σ2 => ?_
  refine on_if_eq (tk_X12_corners 3 rfl) (tgt := 16) (by decide) ?_ ?_
  · refine on_al0 (tk_X12_corners 4 rfl) ?_
    refine on_il1 (tk_X12_corners 5 rfl) ?_
    refine on_cV1i 12 ms_X12_cornersOf kw_9_100 rfl rfl (ltc_77 hN) sh_77 (ct_X12_cornersOf hN) rfl (tk_X12_corners 6 rfl) fun v3 σ4 => ?_
    refine on_goto (tk_X12_corners 7 rfl) (tgt := 18) (by decide) ?_
    exact on_iret (tk_X12_corners 9 rfl)
  · refine on_bipush (tk_X12_corners 8 rfl) bp_m2 ?_
    exact on_iret (tk_X12_corners 9 rfl)
def tb_X12_pays : List (Nat × Nat × Nat × Instr) := [(0, 1, 1, .aload_n 0), (1, 1, 2, .iload_n 1), (2, 3, 5, .invokevirtual 316), (5, 3, 8, .ifCond .eq 15), (8, 1, 9, .iload_n 2), (9, 1, 10, .i2l), (10, 1, 11, .lconst 0), (11, 3, 14, .ldc2_w 469), (14, 3, 17, .invokestatic 88), (17, 3, 20, .ifCond .ne 6), (20, 2, 22, .bipush (-2)), (22, 1, 23, .ireturn), (23, 1, 24, .aload_n 0), (24, 1, 25, .iconst (-1)), (25, 3, 28, .invokevirtual 466), (28, 3, 31, .ifCond .ne 7), (31, 1, 32, .iconst (-1)), (32, 3, 35, .goto 16), (35, 1, 36, .iload_n 2), (36, 1, 37, .aload_n 0), (37, 1, 38, .iload_n 1), (38, 3, 41, .invokevirtual 466), (41, 1, 42, .imul), (42, 1, 43, .aload_n 0), (43, 1, 44, .iconst (-1)), (44, 3, 47, .invokevirtual 466), (47, 1, 48, .idiv), (48, 1, 49, .ireturn)]
set_option maxRecDepth 100000 in
theorem tk_X12_pays (k : Nat) {pc n pc2 : Nat} {i : Instr} (hk : tb_X12_pays[k]? = some (pc, n, pc2, i)) : on_dq cX12_pays pc n pc2 i := on_ta (by decide +kernel) k hk
theorem ms_X12_pays : on_Mv yX12_pays cX12_pays 3 (some .int) 2 := ⟨kw_9_107, kw_9_105, kw_9_106, kw_1_13, by decide, by decide, by decide +kernel⟩
def pf_X12_pays (p0 : Int) (p1 : Int) (σ : on_S) : Option on_O :=
  on_Cl (pf_X12_isHouse p0 σ) fun v1 σ2 =>
  on_Eq v1 0 (
    some ((-2), σ2)) (
    on_Ck p1 <|
    on_Cl (pf_X12_in p1 0 1000000 σ2) fun v3 σ4 =>
    on_Eq v3 0 (
      some ((-2), σ4)) (
      on_Cl (pf_X12_cornersOf (-1) σ4) fun v5 σ6 =>
      on_Eq v5 0 (
        some ((-1), σ6)) (
        on_Cl (pf_X12_cornersOf p0 σ6) fun v7 σ8 =>
        on_Cl (pf_X12_cornersOf (-1) σ8) fun v9 σ10 =>
        on_Dv (p1 * v7) v9 fun v11 =>
        some (v11, σ10))))
set_option maxRecDepth 100000 in
set_option maxHeartbeats 4000000 in
theorem ct_X12_pays {E : on_E} {z n : Nat} {p0 : Int} {p1 : Int} (hN : 100 ≤ n) {σ : on_S} : on_Sp E yX12_pays cX12_pays 3 (some .int) 2 46 z n [.ref (z + 77), .int (on_i p0), .int (on_i p1)] σ (pf_X12_pays p0 p1 σ) := by
  refine on_met [some (.ref (z + 77)), some (.int (on_i p0)), some (.int (on_i p1))] (by decide) rfl rfl (fun X => ?_)
  rw [pf_X12_pays]
  refine on_al0 (tk_X12_pays 0 rfl) ?_
  refine on_il1 (tk_X12_pays 1 rfl) ?_
  refine on_cV1z 12 ms_X12_isHouse kw_8_32 rfl rfl (ltc_77 hN) sh_77 (ct_X12_isHouse hN) rfl (tk_X12_pays 2 rfl) fun v1 σ2 => ?_
  refine on_if_eq (tk_X12_pays 3 rfl) (tgt := 20) (by decide) ?_ ?_
  · refine on_il2 (tk_X12_pays 4 rfl) ?_
    refine on_xi2l (tk_X12_pays 5 rfl) ?_
    refine on_lconst0 (tk_X12_pays 6 rfl) ?_
    refine on_ldc2 (a := 1000000) kw_9_108 (by decide +kernel) (tk_X12_pays 7 rfl) ?_
    refine on_cS3z ms_X12_in kw_7_18 (ct_X12_in hN) rfl (tk_X12_pays 8 rfl) fun v3 σ4 => ?_
    refine on_if_ne (tk_X12_pays 9 rfl) (tgt := 23) (by decide) ?_ ?_
    · refine on_bipush (tk_X12_pays 10 rfl) bp_m2 ?_
      exact on_iret (tk_X12_pays 11 rfl)
    · refine on_al0 (tk_X12_pays 12 rfl) ?_
      refine on_iconst (tk_X12_pays 13 rfl) ?_
      refine on_cV1i 12 ms_X12_cornersOf kw_9_100 rfl rfl (ltc_77 hN) sh_77 (ct_X12_cornersOf hN) rfl (tk_X12_pays 14 rfl) fun v5 σ6 => ?_
      refine on_if_ne (tk_X12_pays 15 rfl) (tgt := 35) (by decide) ?_ ?_
      · refine on_iconst (tk_X12_pays 16 rfl) ?_
        refine on_goto (tk_X12_pays 17 rfl) (tgt := 48) (by decide) ?_
        exact on_iret (tk_X12_pays 27 rfl)
      · refine on_il2 (tk_X12_pays 18 rfl) ?_
        refine on_al0 (tk_X12_pays 19 rfl) ?_
        refine on_il1 (tk_X12_pays 20 rfl) ?_
        refine on_cV1i 12 ms_X12_cornersOf kw_9_100 rfl rfl (ltc_77 hN) sh_77 (ct_X12_cornersOf hN) rfl (tk_X12_pays 21 rfl) fun v7 σ8 => ?_
        refine on_imul (tk_X12_pays 22 rfl) ?_
        refine on_al0 (tk_X12_pays 23 rfl) ?_
        refine on_iconst (tk_X12_pays 24 rfl) ?_
        refine on_cV1i 12 ms_X12_cornersOf kw_9_100 rfl rfl (ltc_77 hN) sh_77 (ct_X12_cornersOf hN) rfl (tk_X12_pays 25 rfl) fun v9 σ10 => ?_
        refine on_idiv (tk_X12_pays 26 rfl) fun v11 => ?_
        exact on_iret (tk_X12_pays 27 rfl)
  · refine on_bipush (tk_X12_pays 10 rfl) bp_m2 ?_
    exact on_iret (tk_X12_pays 11 rfl)
def tb_X12_ordersOf : List (Nat × Nat × Nat × Instr) := [(0, 1, 1, .iconst 1), (1, 1, 2, .istore_n 1), (2, 1, 3, .iconst 2), (3, 1, 4, .istore_n 2), (4, 1, 5, .iload_n 2), (5, 1, 6, .iload_n 0), (6, 3, 9, .if_icmp .gt 13), (9, 1, 10, .iload_n 1), (10, 1, 11, .iload_n 2), (11, 1, 12, .imul), (12, 1, 13, .istore_n 1), (13, 3, 16, .iinc 2 1), (16, 3, 19, .goto (-12)), (19, 1, 20, .iload_n 1), (20, 1, 21, .ireturn)]
set_option maxRecDepth 100000 in
theorem tk_X12_ordersOf (k : Nat) {pc n pc2 : Nat} {i : Instr} (hk : tb_X12_ordersOf[k]? = some (pc, n, pc2, i)) : on_dq cX12_ordersOf pc n pc2 i := on_ta (by decide +kernel) k hk
theorem ms_X12_ordersOf : on_Ms yX12_ordersOf cX12_ordersOf 3 (some .int) 1 := ⟨kw_9_119, kw_9_118, kw_1_13, by decide, by decide, by decide +kernel⟩
def pf_X12_ordersOf_4 : Nat → Int → Int → Int → on_S → Option on_O
  | 0, _, _, _, _ => none
  | nf + 1, l0, l1, l2, σ =>
    on_Le l2 l0 (
      pf_X12_ordersOf_4 nf l0 (l1 * l2) (l2 + 1) σ) (
      some (l1, σ))
def pf_X12_ordersOf (p0 : Int) (σ : on_S) : Option on_O :=
  pf_X12_ordersOf_4 on_N p0 1 2 σ
set_option maxRecDepth 100000 in
set_option maxHeartbeats 4000000 in
theorem gl_X12_ordersOf_4 {E : on_E} {z n : Nat} (X : on_X) (hN : 100 ≤ n) : ∀ (nf : Nat) (l0 : Int) (l1 : Int) (l2 : Int) (σ : on_S), on_G X E cX12_ordersOf RX12 (some .int) 0 0 3 z n σ (pf_X12_ordersOf_4 nf l0 l1 l2 σ) 4 [some (.int (on_i l0)), some (.int (on_i l1)), some (.int (on_i l2))] [] := by
  intro nf
  induction nf with
  | zero => intro l0 l1 l2 σ; exact on_none
  | succ nf ih =>
    intro l0 l1 l2 σ
    rw [pf_X12_ordersOf_4]
    refine on_il2 (tk_X12_ordersOf 4 rfl) ?_
    refine on_il0 (tk_X12_ordersOf 5 rfl) ?_
    refine on_icmp_gt (tk_X12_ordersOf 6 rfl) (tgt := 19) (by decide) ?_ ?_
    · refine on_il1 (tk_X12_ordersOf 7 rfl) ?_
      refine on_il2 (tk_X12_ordersOf 8 rfl) ?_
      refine on_imul (tk_X12_ordersOf 9 rfl) ?_
      refine on_is1 rfl (tk_X12_ordersOf 10 rfl) ?_
      refine on_inc2 rfl (tk_X12_ordersOf 11 rfl) ?_
      refine on_goto (tk_X12_ordersOf 12 rfl) (tgt := 4) (by decide) ?_
      exact ih _ _ _ _
    · refine on_il1 (tk_X12_ordersOf 13 rfl) ?_
      exact on_iret (tk_X12_ordersOf 14 rfl)
set_option maxRecDepth 100000 in
set_option maxHeartbeats 4000000 in
theorem ct_X12_ordersOf {E : on_E} {z n : Nat} {p0 : Int} (hN : 100 ≤ n) {σ : on_S} : on_Sp E yX12_ordersOf cX12_ordersOf 3 (some .int) 0 0 z n [.int (on_i p0)] σ (pf_X12_ordersOf p0 σ) := by
  refine on_met [some (.int (on_i p0)), none, none] (by decide) rfl rfl (fun X => ?_)
  rw [pf_X12_ordersOf]
  refine on_iconst (tk_X12_ordersOf 0 rfl) ?_
  refine on_is1 rfl (tk_X12_ordersOf 1 rfl) ?_
  refine on_iconst (tk_X12_ordersOf 2 rfl) ?_
  refine on_is2 rfl (tk_X12_ordersOf 3 rfl) ?_
  exact gl_X12_ordersOf_4 X  hN on_N _ _ _ _
def tb_X12_divisor : List (Nat × Nat × Nat × Instr) := [(0, 1, 1, .iload_n 0), (1, 1, 2, .istore_n 2), (2, 1, 3, .iload_n 1), (3, 1, 4, .istore_n 3), (4, 1, 5, .iload_n 3), (5, 3, 8, .ifCond .eq 16), (8, 1, 9, .iload_n 2), (9, 1, 10, .iload_n 3), (10, 1, 11, .irem), (11, 2, 13, .istore 4), (13, 1, 14, .iload_n 3), (14, 1, 15, .istore_n 2), (15, 2, 17, .iload 4), (17, 1, 18, .istore_n 3), (18, 3, 21, .goto (-14)), (21, 1, 22, .iload_n 2), (22, 1, 23, .ireturn)]
set_option maxRecDepth 100000 in
theorem tk_X12_divisor (k : Nat) {pc n pc2 : Nat} {i : Instr} (hk : tb_X12_divisor[k]? = some (pc, n, pc2, i)) : on_dq cX12_divisor pc n pc2 i := on_ta (by decide +kernel) k hk
theorem ms_X12_divisor : on_Ms yX12_divisor cX12_divisor 5 (some .int) 2 := ⟨kw_9_125, kw_9_124, kw_1_13, by decide, by decide, by decide +kernel⟩
def pf_X12_divisor_4 : Nat → Int → Int → on_S → Option on_O
  | 0, _, _, _ => none
  | nf + 1, l2, l3, σ =>
    on_Eq l3 0 (
      some (l2, σ)) (
      on_Rm l2 l3 fun v1 =>
      pf_X12_divisor_4 nf l3 v1 σ)
def pf_X12_divisor (p0 : Int) (p1 : Int) (σ : on_S) : Option on_O :=
  pf_X12_divisor_4 on_N p0 p1 σ
set_option maxRecDepth 100000 in
set_option maxHeartbeats 4000000 in
theorem gl_X12_divisor_4 {E : on_E} {z n : Nat} (X : on_X) (hN : 100 ≤ n) : ∀ (nf : Nat) (l2 : Int) (l3 : Int) (σ : on_S), on_G X E cX12_divisor RX12 (some .int) 0 0 5 z n σ (pf_X12_divisor_4 nf l2 l3 σ) 4 [none, none, some (.int (on_i l2)), some (.int (on_i l3)), none] [] := by
  intro nf
  induction nf with
  | zero => intro l2 l3 σ; exact on_none
  | succ nf ih =>
    intro l2 l3 σ
    rw [pf_X12_divisor_4]
    refine on_il3 (tk_X12_divisor 4 rfl) ?_
    refine on_if_eq (tk_X12_divisor 5 rfl) (tgt := 21) (by decide) ?_ ?_
    · refine on_il2 (tk_X12_divisor 6 rfl) ?_
      refine on_il3 (tk_X12_divisor 7 rfl) ?_
      refine on_irem (tk_X12_divisor 8 rfl) fun v1 => ?_
      refine on_is4 rfl (tk_X12_divisor 9 rfl) ?_
      refine on_il3 (tk_X12_divisor 10 rfl) ?_
      refine on_is2 rfl (tk_X12_divisor 11 rfl) ?_
      refine on_il4 (tk_X12_divisor 12 rfl) ?_
      refine on_is3 rfl (tk_X12_divisor 13 rfl) ?_
      refine on_goto (tk_X12_divisor 14 rfl) (tgt := 4) (by decide) ?_
      refine on_dr4 ?_
      exact ih _ _ _
    · refine on_il2 (tk_X12_divisor 15 rfl) ?_
      exact on_iret (tk_X12_divisor 16 rfl)
set_option maxRecDepth 100000 in
set_option maxHeartbeats 4000000 in
theorem ct_X12_divisor {E : on_E} {z n : Nat} {p0 : Int} {p1 : Int} (hN : 100 ≤ n) {σ : on_S} : on_Sp E yX12_divisor cX12_divisor 5 (some .int) 0 0 z n [.int (on_i p0), .int (on_i p1)] σ (pf_X12_divisor p0 p1 σ) := by
  refine on_met [some (.int (on_i p0)), some (.int (on_i p1)), none, none, none] (by decide) rfl rfl (fun X => ?_)
  rw [pf_X12_divisor]
  refine on_il0 (tk_X12_divisor 0 rfl) ?_
  refine on_is2 rfl (tk_X12_divisor 1 rfl) ?_
  refine on_il1 (tk_X12_divisor 2 rfl) ?_
  refine on_is3 rfl (tk_X12_divisor 3 rfl) ?_
  refine on_dr0 ?_
  refine on_dr1 ?_
  exact gl_X12_divisor_4 X  hN on_N _ _ _
def tb_X12_addsInAll : List (Nat × Nat × Nat × Instr) := [(0, 1, 1, .iconst 1), (1, 1, 2, .aload_n 0), (2, 3, 5, .getfield 9), (5, 1, 6, .iconst 0), (6, 1, 7, .iaload), (7, 1, 8, .ishl), (8, 1, 9, .iconst 1), (9, 1, 10, .isub), (10, 1, 11, .istore_n 3), (11, 1, 12, .iconst 0), (12, 2, 14, .istore 4), (14, 2, 16, .iload 4), (16, 1, 17, .iload_n 3), (17, 3, 20, .if_icmp .gt 33), (20, 1, 21, .aload_n 0), (21, 3, 24, .getfield 67), (24, 2, 26, .iload 4), (26, 1, 27, .iconst 0), (27, 1, 28, .aload_n 0), (28, 1, 29, .iload_n 1), (29, 1, 30, .aload_n 0), (30, 1, 31, .iload_n 1), (31, 1, 32, .iconst 0), (32, 3, 35, .invokevirtual 94), (35, 2, 37, .iload 4), (37, 3, 40, .invokevirtual 369), (40, 3, 43, .invokestatic 266), (43, 1, 44, .iastore), (44, 3, 47, .iinc 4 1), (47, 3, 50, .goto (-33)), (50, 1, 51, .iconst 0), (51, 2, 53, .istore 4), (53, 1, 54, .iconst 0), (54, 2, 56, .istore 5), (56, 2, 58, .iload 5), (58, 1, 59, .iload_n 3), (59, 3, 62, .if_icmp .gt 73), (62, 2, 64, .iload 5), (64, 1, 65, .iload_n 2), (65, 1, 66, .ishr), (66, 1, 67, .iconst 1), (67, 1, 68, .iand), (68, 1, 69, .iconst 1), (69, 3, 72, .if_icmp .ne 6), (72, 3, 75, .goto 54), (75, 2, 77, .iload 4), (77, 1, 78, .aload_n 0), (78, 3, 81, .getfield 67), (81, 2, 83, .iload 5), (83, 1, 84, .iconst 1), (84, 1, 85, .iload_n 2), (85, 1, 86, .ishl), (86, 1, 87, .ior), (87, 1, 88, .iaload), (88, 1, 89, .aload_n 0), (89, 3, 92, .getfield 67), (92, 2, 94, .iload 5), (94, 1, 95, .iaload), (95, 1, 96, .isub), (96, 2, 98, .iload 5), (98, 3, 101, .invokestatic 403), (101, 3, 104, .invokestatic 471), (104, 1, 105, .imul), (105, 1, 106, .aload_n 0), (106, 3, 109, .getfield 9), (109, 1, 110, .iconst 0), (110, 1, 111, .iaload), (111, 1, 112, .iconst 1), (112, 1, 113, .isub), (113, 2, 115, .iload 5), (115, 3, 118, .invokestatic 403), (118, 1, 119, .isub), (119, 3, 122, .invokestatic 471), (122, 1, 123, .imul), (123, 1, 124, .iadd), (124, 2, 126, .istore 4), (126, 3, 129, .iinc 5 1), (129, 3, 132, .goto (-73)), (132, 2, 134, .iload 4), (134, 1, 135, .ireturn)]
set_option maxRecDepth 100000 in
theorem tk_X12_addsInAll (k : Nat) {pc n pc2 : Nat} {i : Instr} (hk : tb_X12_addsInAll[k]? = some (pc, n, pc2, i)) : on_dq cX12_addsInAll pc n pc2 i := on_ta (by decide +kernel) k hk
theorem ms_X12_addsInAll : on_Mv yX12_addsInAll cX12_addsInAll 6 (some .int) 2 := ⟨kw_9_116, kw_9_115, (on_mp (q := (yX12_addsInAll, 37)) (by decide +kernel)), kw_1_13, by decide, by decide, by decide +kernel⟩
def pf_X12_addsInAll_56 : Nat → Int → Int → Int → Int → on_S → Option on_O
  | 0, _, _, _, _, _ => none
  | nf + 1, l2, l3, l4, l5, σ =>
    on_Le l5 l3 (
      on_Eq (on_and (on_shr l5 l2) 1) 1 (
        pf_X12_addsInAll_56 nf l2 l3 l4 (l5 + 1) σ) (
        on_Rd σ 95 16 (on_or l5 (on_shl 1 l2)) fun v8 =>
        on_Rd σ 95 16 l5 fun v9 =>
        on_Cl (pf_X12_bits l5 σ) fun v10 σ11 =>
        on_Cl (pf_X12_ordersOf v10 σ11) fun v12 σ13 =>
        on_Rd σ13 78 687 0 fun v14 =>
        on_Cl (pf_X12_bits l5 σ13) fun v15 σ16 =>
        on_Cl (pf_X12_ordersOf ((v14 - 1) - v15) σ16) fun v17 σ18 =>
        pf_X12_addsInAll_56 nf l2 l3 (l4 + (((v8 - v9) * v12) * v17)) (l5 + 1) σ18)) (
      some (l4, σ))
def pf_X12_addsInAll_14 : Nat → Int → Int → Int → Int → on_S → Option on_O
  | 0, _, _, _, _, _ => none
  | nf + 1, l1, l2, l3, l4, σ =>
    on_Le l4 l3 (
      on_Cl (pf_X12_ofNet l1 0 σ) fun v2 σ3 =>
      on_Cl (pf_X12_mostBy l1 v2 l4 σ3) fun v4 σ5 =>
      on_Mx 0 v4 fun v6 =>
      on_Wr σ5 95 16 l4 v6 fun σ7 =>
      pf_X12_addsInAll_14 nf l1 l2 l3 (l4 + 1) σ7) (
      pf_X12_addsInAll_56 on_N l2 l3 0 0 σ)
def pf_X12_addsInAll (p0 : Int) (p1 : Int) (σ : on_S) : Option on_O :=
  on_Rd σ 78 687 0 fun v1 =>
  pf_X12_addsInAll_14 on_N p0 p1 ((on_shl 1 v1) - 1) 0 σ
set_option maxRecDepth 100000 in
set_option maxHeartbeats 4000000 in
theorem gl_X12_addsInAll_56 {E : on_E} {z n : Nat} (X : on_X) (hN : 100 ≤ n) : ∀ (nf : Nat) (l2 : Int) (l3 : Int) (l4 : Int) (l5 : Int) (σ : on_S), on_G X E cX12_addsInAll RX12 (some .int) 6 148 6 z n σ (pf_X12_addsInAll_56 nf l2 l3 l4 l5 σ) 56 [some (.ref (z + 77)), none, some (.int (on_i l2)), some (.int (on_i l3)), some (.int (on_i l4)), some (.int (on_i l5))] [] := by
  intro nf
  induction nf with
  | zero => intro l2 l3 l4 l5 σ; exact on_none
  | succ nf ih =>
    intro l2 l3 l4 l5 σ
    rw [pf_X12_addsInAll_56]
    refine on_il5 (tk_X12_addsInAll 34 rfl) ?_
    refine on_il3 (tk_X12_addsInAll 35 rfl) ?_
    refine on_icmp_gt (tk_X12_addsInAll 36 rfl) (tgt := 132) (by decide) ?_ ?_
    · refine on_il5 (tk_X12_addsInAll 37 rfl) ?_
      refine on_il2 (tk_X12_addsInAll 38 rfl) ?_
      refine on_ishr (tk_X12_addsInAll 39 rfl) ?_
      refine on_iconst (tk_X12_addsInAll 40 rfl) ?_
      refine on_iand (tk_X12_addsInAll 41 rfl) ?_
      refine on_iconst (tk_X12_addsInAll 42 rfl) ?_
      refine on_icmp_ne (tk_X12_addsInAll 43 rfl) (tgt := 75) (by decide) ?_ ?_
      · refine on_goto (tk_X12_addsInAll 44 rfl) (tgt := 126) (by decide) ?_
        refine on_inc5 rfl (tk_X12_addsInAll 76 rfl) ?_
        refine on_goto (tk_X12_addsInAll 77 rfl) (tgt := 56) (by decide) ?_
        exact ih _ _ _ _ _
      · refine on_il4 (tk_X12_addsInAll 45 rfl) ?_
        refine on_al0 (tk_X12_addsInAll 46 rfl) ?_
        refine fg_12_30 hN kw_6_170 (tk_X12_addsInAll 47 rfl) ?_
        refine on_il5 (tk_X12_addsInAll 48 rfl) ?_
        refine on_iconst (tk_X12_addsInAll 49 rfl) ?_
        refine on_il2 (tk_X12_addsInAll 50 rfl) ?_
        refine on_ishl (tk_X12_addsInAll 51 rfl) ?_
        refine on_ior (tk_X12_addsInAll 52 rfl) ?_
        refine on_iald (ltc_95 hN) sh_95 (tk_X12_addsInAll 53 rfl) fun v8 => ?_
        refine on_al0 (tk_X12_addsInAll 54 rfl) ?_
        refine fg_12_30 hN kw_6_170 (tk_X12_addsInAll 55 rfl) ?_
        refine on_il5 (tk_X12_addsInAll 56 rfl) ?_
        refine on_iald (ltc_95 hN) sh_95 (tk_X12_addsInAll 57 rfl) fun v9 => ?_
        refine on_isub (tk_X12_addsInAll 58 rfl) ?_
        refine on_il5 (tk_X12_addsInAll 59 rfl) ?_
        refine on_cS1i ms_X12_bits kw_8_201 (ct_X12_bits hN) rfl (tk_X12_addsInAll 60 rfl) fun v10 σ11 => ?_
        refine on_cS1i ms_X12_ordersOf kw_9_117 (ct_X12_ordersOf hN) rfl (tk_X12_addsInAll 61 rfl) fun v12 σ13 => ?_
        refine on_imul (tk_X12_addsInAll 62 rfl) ?_
        refine on_al0 (tk_X12_addsInAll 63 rfl) ?_
        refine fg_12_1 hN kw_6_141 (tk_X12_addsInAll 64 rfl) ?_
        refine on_iconst (tk_X12_addsInAll 65 rfl) ?_
        refine on_iald (ltc_78 hN) sh_78 (tk_X12_addsInAll 66 rfl) fun v14 => ?_
        refine on_iconst (tk_X12_addsInAll 67 rfl) ?_
        refine on_isub (tk_X12_addsInAll 68 rfl) ?_
        refine on_il5 (tk_X12_addsInAll 69 rfl) ?_
        refine on_cS1i ms_X12_bits kw_8_201 (ct_X12_bits hN) rfl (tk_X12_addsInAll 70 rfl) fun v15 σ16 => ?_
        refine on_isub (tk_X12_addsInAll 71 rfl) ?_
        refine on_cS1i ms_X12_ordersOf kw_9_117 (ct_X12_ordersOf hN) rfl (tk_X12_addsInAll 72 rfl) fun v17 σ18 => ?_
        refine on_imul (tk_X12_addsInAll 73 rfl) ?_
        refine on_iadd (tk_X12_addsInAll 74 rfl) ?_
        refine on_is4 rfl (tk_X12_addsInAll 75 rfl) ?_
        refine on_inc5 rfl (tk_X12_addsInAll 76 rfl) ?_
        refine on_goto (tk_X12_addsInAll 77 rfl) (tgt := 56) (by decide) ?_
        exact ih _ _ _ _ _
    · refine on_il4 (tk_X12_addsInAll 78 rfl) ?_
      exact on_iret (tk_X12_addsInAll 79 rfl)
set_option maxRecDepth 100000 in
set_option maxHeartbeats 4000000 in
theorem gl_X12_addsInAll_14 {E : on_E} {z n : Nat} (X : on_X) (hN : 100 ≤ n) : ∀ (nf : Nat) (l1 : Int) (l2 : Int) (l3 : Int) (l4 : Int) (σ : on_S), on_G X E cX12_addsInAll RX12 (some .int) 6 148 6 z n σ (pf_X12_addsInAll_14 nf l1 l2 l3 l4 σ) 14 [some (.ref (z + 77)), some (.int (on_i l1)), some (.int (on_i l2)), some (.int (on_i l3)), some (.int (on_i l4)), none] [] := by
  intro nf
  induction nf with
  | zero => intro l1 l2 l3 l4 σ; exact on_none
  | succ nf ih =>
    intro l1 l2 l3 l4 σ
    rw [pf_X12_addsInAll_14]
    refine on_il4 (tk_X12_addsInAll 11 rfl) ?_
    refine on_il3 (tk_X12_addsInAll 12 rfl) ?_
    refine on_icmp_gt (tk_X12_addsInAll 13 rfl) (tgt := 50) (by decide) ?_ ?_
    · refine on_al0 (tk_X12_addsInAll 14 rfl) ?_
      refine fg_12_30 hN kw_6_170 (tk_X12_addsInAll 15 rfl) ?_
      refine on_il4 (tk_X12_addsInAll 16 rfl) ?_
      refine on_iconst (tk_X12_addsInAll 17 rfl) ?_
      refine on_al0 (tk_X12_addsInAll 18 rfl) ?_
      refine on_il1 (tk_X12_addsInAll 19 rfl) ?_
      refine on_al0 (tk_X12_addsInAll 20 rfl) ?_
      refine on_il1 (tk_X12_addsInAll 21 rfl) ?_
      refine on_iconst (tk_X12_addsInAll 22 rfl) ?_
      refine on_cV2i 12 ms_X12_ofNet kw_7_162 rfl rfl (ltc_77 hN) sh_77 (ct_X12_ofNet hN) rfl (tk_X12_addsInAll 23 rfl) fun v2 σ3 => ?_
      refine on_il4 (tk_X12_addsInAll 24 rfl) ?_
      refine on_cV3i 12 ms_X12_mostBy kw_8_125 rfl rfl (ltc_77 hN) sh_77 (ct_X12_mostBy hN) rfl (tk_X12_addsInAll 25 rfl) fun v4 σ5 => ?_
      refine on_max kw_7_204 kwM_max_s kwM_i kwM_max_c rfl (tk_X12_addsInAll 26 rfl) fun v6 => ?_
      refine on_iast (ltc_95 hN) sh_95 (tk_X12_addsInAll 27 rfl) fun σ7 => ?_
      refine on_inc4 rfl (tk_X12_addsInAll 28 rfl) ?_
      refine on_goto (tk_X12_addsInAll 29 rfl) (tgt := 14) (by decide) ?_
      exact ih _ _ _ _ _
    · refine on_iconst (tk_X12_addsInAll 30 rfl) ?_
      refine on_is4 rfl (tk_X12_addsInAll 31 rfl) ?_
      refine on_iconst (tk_X12_addsInAll 32 rfl) ?_
      refine on_is5 rfl (tk_X12_addsInAll 33 rfl) ?_
      refine on_dr1 ?_
      exact gl_X12_addsInAll_56 X  hN on_N _ _ _ _ _
set_option maxRecDepth 100000 in
set_option maxHeartbeats 4000000 in
theorem ct_X12_addsInAll {E : on_E} {z n : Nat} {p0 : Int} {p1 : Int} (hN : 100 ≤ n) {σ : on_S} : on_Sp E yX12_addsInAll cX12_addsInAll 6 (some .int) 6 148 z n [.ref (z + 77), .int (on_i p0), .int (on_i p1)] σ (pf_X12_addsInAll p0 p1 σ) := by
  refine on_met [some (.ref (z + 77)), some (.int (on_i p0)), some (.int (on_i p1)), none, none, none] (by decide) rfl rfl (fun X => ?_)
  rw [pf_X12_addsInAll]
  refine on_iconst (tk_X12_addsInAll 0 rfl) ?_
  refine on_al0 (tk_X12_addsInAll 1 rfl) ?_
  refine fg_12_1 hN kw_6_141 (tk_X12_addsInAll 2 rfl) ?_
  refine on_iconst (tk_X12_addsInAll 3 rfl) ?_
  refine on_iald (ltc_78 hN) sh_78 (tk_X12_addsInAll 4 rfl) fun v1 => ?_
  refine on_ishl (tk_X12_addsInAll 5 rfl) ?_
  refine on_iconst (tk_X12_addsInAll 6 rfl) ?_
  refine on_isub (tk_X12_addsInAll 7 rfl) ?_
  refine on_is3 rfl (tk_X12_addsInAll 8 rfl) ?_
  refine on_iconst (tk_X12_addsInAll 9 rfl) ?_
  refine on_is4 rfl (tk_X12_addsInAll 10 rfl) ?_
  exact gl_X12_addsInAll_14 X  hN on_N _ _ _ _ _
def tb_X12_fair : List (Nat × Nat × Nat × Instr) := [(0, 1, 1, .aload_n 0), (1, 1, 2, .iload_n 1), (2, 1, 3, .i2l), (3, 3, 6, .invokevirtual 301), (6, 3, 9, .ifCond .eq 21), (9, 1, 10, .aload_n 0), (10, 1, 11, .iload_n 2), (11, 3, 14, .invokevirtual 316), (14, 3, 17, .ifCond .eq 13), (17, 1, 18, .iload_n 3), (18, 1, 19, .i2l), (19, 1, 20, .lconst 0), (20, 1, 21, .lconst 1), (21, 3, 24, .invokestatic 88), (24, 3, 27, .ifCond .ne 6), (27, 2, 29, .bipush (-2)), (29, 1, 30, .ireturn), (30, 1, 31, .aload_n 0), (31, 1, 32, .iload_n 1), (32, 1, 33, .iload_n 2), (33, 3, 36, .invokevirtual 474), (36, 2, 38, .istore 4), (38, 1, 39, .aload_n 0), (39, 3, 42, .getfield 9), (42, 1, 43, .iconst 0), (43, 1, 44, .iaload), (44, 3, 47, .invokestatic 471), (47, 2, 49, .istore 5), (49, 1, 50, .iload_n 3), (50, 3, 53, .ifCond .ne 8), (53, 2, 55, .iload 4), (55, 3, 58, .goto 5), (58, 2, 60, .iload 5), (60, 2, 62, .iload 4), (62, 3, 65, .invokestatic 477), (65, 2, 67, .iload 5), (67, 3, 70, .invokestatic 480), (70, 1, 71, .idiv), (71, 1, 72, .ireturn)]
set_option maxRecDepth 100000 in
theorem tk_X12_fair (k : Nat) {pc n pc2 : Nat} {i : Instr} (hk : tb_X12_fair[k]? = some (pc, n, pc2, i)) : on_dq cX12_fair pc n pc2 i := on_ta (by decide +kernel) k hk
theorem ms_X12_fair : on_Mv yX12_fair cX12_fair 6 (some .int) 3 := ⟨kw_9_112, kw_9_110, kw_9_111, kw_1_13, by decide, by decide, by decide +kernel⟩
def pf_X12_fair_60 (l4 : Int) (l5 : Int) (s0 : Int) (σ : on_S) : Option on_O :=
  on_Ab l4 fun v12 =>
  on_Cl (pf_X12_divisor v12 l5 σ) fun v13 σ14 =>
  on_Dv s0 v13 fun v15 =>
  some (v15, σ14)
def pf_X12_fair (p0 : Int) (p1 : Int) (p2 : Int) (σ : on_S) : Option on_O :=
  on_Ck p0 <|
  on_Cl (pf_X12_isNet p0 σ) fun v1 σ2 =>
  on_Eq v1 0 (
    some ((-2), σ2)) (
    on_Cl (pf_X12_isHouse p1 σ2) fun v3 σ4 =>
    on_Eq v3 0 (
      some ((-2), σ4)) (
      on_Ck p2 <|
      on_Cl (pf_X12_in p2 0 1 σ4) fun v5 σ6 =>
      on_Eq v5 0 (
        some ((-2), σ6)) (
        on_Cl (pf_X12_addsInAll p0 p1 σ6) fun v7 σ8 =>
        on_Rd σ8 78 687 0 fun v9 =>
        on_Cl (pf_X12_ordersOf v9 σ8) fun v10 σ11 =>
        on_Eq p2 0 (
          pf_X12_fair_60 v7 v10 v7 σ11) (
          pf_X12_fair_60 v7 v10 v10 σ11))))
set_option maxRecDepth 100000 in
set_option maxHeartbeats 4000000 in
theorem gb_X12_fair_60 {E : on_E} {z n : Nat} (X : on_X) (hN : 100 ≤ n) (l4 : Int) (l5 : Int) (s0 : Int) (σ : on_S) : on_G X E cX12_fair RX12 (some .int) 7 173 6 z n σ (pf_X12_fair_60 l4 l5 s0 σ) 60 [none, none, none, none, some (.int (on_i l4)), some (.int (on_i l5))] [.int (on_i s0)] := by
  rw [pf_X12_fair_60]
  refine on_il4 (tk_X12_fair 33 rfl) ?_
  refine on_mabs kw_9_120 rfl (tk_X12_fair 34 rfl) fun v12 => ?_
  refine on_il5 (tk_X12_fair 35 rfl) ?_
  refine on_cS2i ms_X12_divisor kw_9_123 (ct_X12_divisor hN) rfl (tk_X12_fair 36 rfl) fun v13 σ14 => ?_
  refine on_idiv (tk_X12_fair 37 rfl) fun v15 => ?_
  exact on_iret (tk_X12_fair 38 rfl)
set_option maxRecDepth 100000 in
set_option maxHeartbeats 4000000 in
theorem ct_X12_fair {E : on_E} {z n : Nat} {p0 : Int} {p1 : Int} {p2 : Int} (hN : 100 ≤ n) {σ : on_S} : on_Sp E yX12_fair cX12_fair 6 (some .int) 7 173 z n [.ref (z + 77), .int (on_i p0), .int (on_i p1), .int (on_i p2)] σ (pf_X12_fair p0 p1 p2 σ) := by
  refine on_met [some (.ref (z + 77)), some (.int (on_i p0)), some (.int (on_i p1)), some (.int (on_i p2)), none, none] (by decide) rfl rfl (fun X => ?_)
  rw [pf_X12_fair]
  refine on_al0 (tk_X12_fair 0 rfl) ?_
  refine on_il1 (tk_X12_fair 1 rfl) ?_
  refine on_xi2l (tk_X12_fair 2 rfl) ?_
  refine on_cV1z 12 ms_X12_isNet kw_7_183 rfl rfl (ltc_77 hN) sh_77 (ct_X12_isNet hN) rfl (tk_X12_fair 3 rfl) fun v1 σ2 => ?_
  refine on_if_eq (tk_X12_fair 4 rfl) (tgt := 27) (by decide) ?_ ?_
  · refine on_al0 (tk_X12_fair 5 rfl) ?_
    refine on_il2 (tk_X12_fair 6 rfl) ?_
    refine on_cV1z 12 ms_X12_isHouse kw_8_32 rfl rfl (ltc_77 hN) sh_77 (ct_X12_isHouse hN) rfl (tk_X12_fair 7 rfl) fun v3 σ4 => ?_
    refine on_if_eq (tk_X12_fair 8 rfl) (tgt := 27) (by decide) ?_ ?_
    · refine on_il3 (tk_X12_fair 9 rfl) ?_
      refine on_xi2l (tk_X12_fair 10 rfl) ?_
      refine on_lconst0 (tk_X12_fair 11 rfl) ?_
      refine on_lconst1 (tk_X12_fair 12 rfl) ?_
      refine on_cS3z ms_X12_in kw_7_18 (ct_X12_in hN) rfl (tk_X12_fair 13 rfl) fun v5 σ6 => ?_
      refine on_if_ne (tk_X12_fair 14 rfl) (tgt := 30) (by decide) ?_ ?_
      · refine on_bipush (tk_X12_fair 15 rfl) bp_m2 ?_
        exact on_iret (tk_X12_fair 16 rfl)
      · refine on_al0 (tk_X12_fair 17 rfl) ?_
        refine on_il1 (tk_X12_fair 18 rfl) ?_
        refine on_il2 (tk_X12_fair 19 rfl) ?_
        refine on_cV2i 12 ms_X12_addsInAll kw_9_113 rfl rfl (ltc_77 hN) sh_77 (ct_X12_addsInAll hN) rfl (tk_X12_fair 20 rfl) fun v7 σ8 => ?_
        refine on_is4 rfl (tk_X12_fair 21 rfl) ?_
        refine on_al0 (tk_X12_fair 22 rfl) ?_
        refine fg_12_1 hN kw_6_141 (tk_X12_fair 23 rfl) ?_
        refine on_iconst (tk_X12_fair 24 rfl) ?_
        refine on_iald (ltc_78 hN) sh_78 (tk_X12_fair 25 rfl) fun v9 => ?_
        refine on_cS1i ms_X12_ordersOf kw_9_117 (ct_X12_ordersOf hN) rfl (tk_X12_fair 26 rfl) fun v10 σ11 => ?_
        refine on_is5 rfl (tk_X12_fair 27 rfl) ?_
        refine on_il3 (tk_X12_fair 28 rfl) ?_
        refine on_if_ne (tk_X12_fair 29 rfl) (tgt := 58) (by decide) ?_ ?_
        · refine on_il4 (tk_X12_fair 30 rfl) ?_
          refine on_goto (tk_X12_fair 31 rfl) (tgt := 60) (by decide) ?_
          refine on_dr0 ?_
          refine on_dr1 ?_
          refine on_dr2 ?_
          refine on_dr3 ?_
          exact gb_X12_fair_60 X  hN _ _ _ _
        · refine on_il5 (tk_X12_fair 32 rfl) ?_
          refine on_dr0 ?_
          refine on_dr1 ?_
          refine on_dr2 ?_
          refine on_dr3 ?_
          exact gb_X12_fair_60 X  hN _ _ _ _
    · refine on_bipush (tk_X12_fair 15 rfl) bp_m2 ?_
      exact on_iret (tk_X12_fair 16 rfl)
  · refine on_bipush (tk_X12_fair 15 rfl) bp_m2 ?_
    exact on_iret (tk_X12_fair 16 rfl)
def tb_X12_without : List (Nat × Nat × Nat × Instr) := [(0, 1, 1, .aload_n 0), (1, 1, 2, .iload_n 1), (2, 1, 3, .i2l), (3, 3, 6, .invokevirtual 301), (6, 3, 9, .ifCond .eq 39), (9, 1, 10, .aload_n 0), (10, 1, 11, .iload_n 2), (11, 3, 14, .invokevirtual 316), (14, 3, 17, .ifCond .eq 31), (17, 1, 18, .iconst 0), (18, 1, 19, .aload_n 0), (19, 1, 20, .iload_n 1), (20, 1, 21, .aload_n 0), (21, 1, 22, .iload_n 1), (22, 1, 23, .iconst 0), (23, 3, 26, .invokevirtual 94), (26, 1, 27, .aload_n 0), (27, 3, 30, .invokevirtual 366), (30, 1, 31, .iconst 1), (31, 1, 32, .iload_n 2), (32, 1, 33, .ishl), (33, 1, 34, .iconst (-1)), (34, 1, 35, .ixor), (35, 1, 36, .iand), (36, 3, 39, .invokevirtual 369), (39, 3, 42, .invokestatic 266), (42, 3, 45, .goto 5), (45, 2, 47, .bipush (-2)), (47, 1, 48, .ireturn)]
set_option maxRecDepth 100000 in
theorem tk_X12_without (k : Nat) {pc n pc2 : Nat} {i : Instr} (hk : tb_X12_without[k]? = some (pc, n, pc2, i)) : on_dq cX12_without pc n pc2 i := on_ta (by decide +kernel) k hk
theorem ms_X12_without : on_Mv yX12_without cX12_without 3 (some .int) 2 := ⟨kw_9_129, kw_9_127, kw_9_128, kw_1_13, by decide, by decide, by decide +kernel⟩
def pf_X12_without_45 (σ : on_S) : Option on_O :=
  some ((-2), σ)
def pf_X12_without (p0 : Int) (p1 : Int) (σ : on_S) : Option on_O :=
  on_Ck p0 <|
  on_Cl (pf_X12_isNet p0 σ) fun v1 σ2 =>
  on_Eq v1 0 (
    pf_X12_without_45 σ2) (
    on_Cl (pf_X12_isHouse p1 σ2) fun v3 σ4 =>
    on_Eq v3 0 (
      pf_X12_without_45 σ4) (
      on_Cl (pf_X12_ofNet p0 0 σ4) fun v5 σ6 =>
      on_Cl (pf_X12_allHouses σ6) fun v7 σ8 =>
      on_Cl (pf_X12_mostBy p0 v5 (on_and v7 (on_xor (on_shl 1 p1) (-1))) σ8) fun v9 σ10 =>
      on_Mx 0 v9 fun v11 =>
      some (v11, σ10)))
set_option maxRecDepth 100000 in
set_option maxHeartbeats 4000000 in
theorem gb_X12_without_45 {E : on_E} {z n : Nat} (X : on_X) (hN : 100 ≤ n) (σ : on_S) : on_G X E cX12_without RX12 (some .int) 6 148 3 z n σ (pf_X12_without_45  σ) 45 [none, none, none] [] := by
  rw [pf_X12_without_45]
  refine on_bipush (tk_X12_without 27 rfl) bp_m2 ?_
  exact on_iret (tk_X12_without 28 rfl)
set_option maxRecDepth 100000 in
set_option maxHeartbeats 4000000 in
theorem ct_X12_without {E : on_E} {z n : Nat} {p0 : Int} {p1 : Int} (hN : 100 ≤ n) {σ : on_S} : on_Sp E yX12_without cX12_without 3 (some .int) 6 148 z n [.ref (z + 77), .int (on_i p0), .int (on_i p1)] σ (pf_X12_without p0 p1 σ) := by
  refine on_met [some (.ref (z + 77)), some (.int (on_i p0)), some (.int (on_i p1))] (by decide) rfl rfl (fun X => ?_)
  rw [pf_X12_without]
  refine on_al0 (tk_X12_without 0 rfl) ?_
  refine on_il1 (tk_X12_without 1 rfl) ?_
  refine on_xi2l (tk_X12_without 2 rfl) ?_
  refine on_cV1z 12 ms_X12_isNet kw_7_183 rfl rfl (ltc_77 hN) sh_77 (ct_X12_isNet hN) rfl (tk_X12_without 3 rfl) fun v1 σ2 => ?_
  refine on_if_eq (tk_X12_without 4 rfl) (tgt := 45) (by decide) ?_ ?_
  · refine on_al0 (tk_X12_without 5 rfl) ?_
    refine on_il2 (tk_X12_without 6 rfl) ?_
    refine on_cV1z 12 ms_X12_isHouse kw_8_32 rfl rfl (ltc_77 hN) sh_77 (ct_X12_isHouse hN) rfl (tk_X12_without 7 rfl) fun v3 σ4 => ?_
    refine on_if_eq (tk_X12_without 8 rfl) (tgt := 45) (by decide) ?_ ?_
    · refine on_iconst (tk_X12_without 9 rfl) ?_
      refine on_al0 (tk_X12_without 10 rfl) ?_
      refine on_il1 (tk_X12_without 11 rfl) ?_
      refine on_al0 (tk_X12_without 12 rfl) ?_
      refine on_il1 (tk_X12_without 13 rfl) ?_
      refine on_iconst (tk_X12_without 14 rfl) ?_
      refine on_cV2i 12 ms_X12_ofNet kw_7_162 rfl rfl (ltc_77 hN) sh_77 (ct_X12_ofNet hN) rfl (tk_X12_without 15 rfl) fun v5 σ6 => ?_
      refine on_al0 (tk_X12_without 16 rfl) ?_
      refine on_cV0i 12 ms_X12_allHouses kw_8_121 rfl rfl (ltc_77 hN) sh_77 (ct_X12_allHouses hN) rfl (tk_X12_without 17 rfl) fun v7 σ8 => ?_
      refine on_iconst (tk_X12_without 18 rfl) ?_
      refine on_il2 (tk_X12_without 19 rfl) ?_
      refine on_ishl (tk_X12_without 20 rfl) ?_
      refine on_iconst (tk_X12_without 21 rfl) ?_
      refine on_ixor (tk_X12_without 22 rfl) ?_
      refine on_iand (tk_X12_without 23 rfl) ?_
      refine on_cV3i 12 ms_X12_mostBy kw_8_125 rfl rfl (ltc_77 hN) sh_77 (ct_X12_mostBy hN) rfl (tk_X12_without 24 rfl) fun v9 σ10 => ?_
      refine on_max kw_7_204 kwM_max_s kwM_i kwM_max_c rfl (tk_X12_without 25 rfl) fun v11 => ?_
      refine on_goto (tk_X12_without 26 rfl) (tgt := 47) (by decide) ?_
      exact on_iret (tk_X12_without 28 rfl)
    · refine on_dr0 ?_
      refine on_dr1 ?_
      refine on_dr2 ?_
      exact gb_X12_without_45 X  hN _
  · refine on_dr0 ?_
    refine on_dr1 ?_
    refine on_dr2 ?_
    exact gb_X12_without_45 X  hN _
def tb_X12_mend : List (Nat × Nat × Nat × Instr) := [(0, 1, 1, .aload_n 0), (1, 1, 2, .iload_n 1), (2, 1, 3, .i2l), (3, 3, 6, .invokevirtual 301), (6, 3, 9, .ifCond .eq 22), (9, 1, 10, .iload_n 2), (10, 3, 13, .invokestatic 310), (13, 3, 16, .ifCond .eq 15), (16, 1, 17, .iload_n 3), (17, 1, 18, .i2l), (18, 1, 19, .lconst 0), (19, 3, 22, .ldc2_w 328), (22, 3, 25, .invokestatic 88), (25, 3, 28, .ifCond .ne 6), (28, 2, 30, .bipush (-2)), (30, 1, 31, .ireturn), (31, 1, 32, .aload_n 0), (32, 1, 33, .iload_n 1), (33, 1, 34, .iconst 3), (34, 1, 35, .iload_n 2), (35, 1, 36, .iadd), (36, 3, 39, .invokevirtual 94), (39, 2, 41, .istore 4), (41, 1, 42, .aload_n 0), (42, 3, 45, .getfield 9), (45, 2, 47, .bipush 62), (47, 2, 49, .bipush 7), (49, 1, 50, .iload_n 1), (50, 1, 51, .imul), (51, 1, 52, .iadd), (52, 1, 53, .iconst 3), (53, 1, 54, .iadd), (54, 1, 55, .iload_n 2), (55, 1, 56, .iadd), (56, 1, 57, .iload_n 3), (57, 1, 58, .iastore), (58, 2, 60, .iload 4), (60, 1, 61, .ireturn)]
set_option maxRecDepth 100000 in
theorem tk_X12_mend (k : Nat) {pc n pc2 : Nat} {i : Instr} (hk : tb_X12_mend[k]? = some (pc, n, pc2, i)) : on_dq cX12_mend pc n pc2 i := on_ta (by decide +kernel) k hk
theorem ms_X12_mend : on_Mv yX12_mend cX12_mend 5 (some .int) 3 := ⟨kw_9_133, kw_9_131, kw_9_132, kw_1_13, by decide, by decide, by decide +kernel⟩
def pf_X12_mend (p0 : Int) (p1 : Int) (p2 : Int) (σ : on_S) : Option on_O :=
  on_Ck p0 <|
  on_Cl (pf_X12_isNet p0 σ) fun v1 σ2 =>
  on_Eq v1 0 (
    some ((-2), σ2)) (
    on_Cl (pf_X12_isCorner p1 σ2) fun v3 σ4 =>
    on_Eq v3 0 (
      some ((-2), σ4)) (
      on_Ck p2 <|
      on_Cl (pf_X12_in p2 0 99 σ4) fun v5 σ6 =>
      on_Eq v5 0 (
        some ((-2), σ6)) (
        on_Cl (pf_X12_ofNet p0 (3 + p1) σ6) fun v7 σ8 =>
        on_Wr σ8 78 687 (((62 + (7 * p0)) + 3) + p1) p2 fun σ9 =>
        some (v7, σ9))))
set_option maxRecDepth 100000 in
set_option maxHeartbeats 4000000 in
theorem ct_X12_mend {E : on_E} {z n : Nat} {p0 : Int} {p1 : Int} {p2 : Int} (hN : 100 ≤ n) {σ : on_S} : on_Sp E yX12_mend cX12_mend 5 (some .int) 2 47 z n [.ref (z + 77), .int (on_i p0), .int (on_i p1), .int (on_i p2)] σ (pf_X12_mend p0 p1 p2 σ) := by
  refine on_met [some (.ref (z + 77)), some (.int (on_i p0)), some (.int (on_i p1)), some (.int (on_i p2)), none] (by decide) rfl rfl (fun X => ?_)
  rw [pf_X12_mend]
  refine on_al0 (tk_X12_mend 0 rfl) ?_
  refine on_il1 (tk_X12_mend 1 rfl) ?_
  refine on_xi2l (tk_X12_mend 2 rfl) ?_
  refine on_cV1z 12 ms_X12_isNet kw_7_183 rfl rfl (ltc_77 hN) sh_77 (ct_X12_isNet hN) rfl (tk_X12_mend 3 rfl) fun v1 σ2 => ?_
  refine on_if_eq (tk_X12_mend 4 rfl) (tgt := 28) (by decide) ?_ ?_
  · refine on_il2 (tk_X12_mend 5 rfl) ?_
    refine on_cS1z ms_X12_isCorner kw_8_5 (ct_X12_isCorner hN) rfl (tk_X12_mend 6 rfl) fun v3 σ4 => ?_
    refine on_if_eq (tk_X12_mend 7 rfl) (tgt := 28) (by decide) ?_ ?_
    · refine on_il3 (tk_X12_mend 8 rfl) ?_
      refine on_xi2l (tk_X12_mend 9 rfl) ?_
      refine on_lconst0 (tk_X12_mend 10 rfl) ?_
      refine on_ldc2 (a := 99) kw_8_60 (by decide +kernel) (tk_X12_mend 11 rfl) ?_
      refine on_cS3z ms_X12_in kw_7_18 (ct_X12_in hN) rfl (tk_X12_mend 12 rfl) fun v5 σ6 => ?_
      refine on_if_ne (tk_X12_mend 13 rfl) (tgt := 31) (by decide) ?_ ?_
      · refine on_bipush (tk_X12_mend 14 rfl) bp_m2 ?_
        exact on_iret (tk_X12_mend 15 rfl)
      · refine on_al0 (tk_X12_mend 16 rfl) ?_
        refine on_il1 (tk_X12_mend 17 rfl) ?_
        refine on_iconst (tk_X12_mend 18 rfl) ?_
        refine on_il2 (tk_X12_mend 19 rfl) ?_
        refine on_iadd (tk_X12_mend 20 rfl) ?_
        refine on_cV2i 12 ms_X12_ofNet kw_7_162 rfl rfl (ltc_77 hN) sh_77 (ct_X12_ofNet hN) rfl (tk_X12_mend 21 rfl) fun v7 σ8 => ?_
        refine on_is4 rfl (tk_X12_mend 22 rfl) ?_
        refine on_al0 (tk_X12_mend 23 rfl) ?_
        refine fg_12_1 hN kw_6_141 (tk_X12_mend 24 rfl) ?_
        refine on_bipush (tk_X12_mend 25 rfl) bp_62 ?_
        refine on_bipush (tk_X12_mend 26 rfl) bp_7 ?_
        refine on_il1 (tk_X12_mend 27 rfl) ?_
        refine on_imul (tk_X12_mend 28 rfl) ?_
        refine on_iadd (tk_X12_mend 29 rfl) ?_
        refine on_iconst (tk_X12_mend 30 rfl) ?_
        refine on_iadd (tk_X12_mend 31 rfl) ?_
        refine on_il2 (tk_X12_mend 32 rfl) ?_
        refine on_iadd (tk_X12_mend 33 rfl) ?_
        refine on_il3 (tk_X12_mend 34 rfl) ?_
        refine on_iast (ltc_78 hN) sh_78 (tk_X12_mend 35 rfl) fun σ9 => ?_
        refine on_il4 (tk_X12_mend 36 rfl) ?_
        exact on_iret (tk_X12_mend 37 rfl)
    · refine on_bipush (tk_X12_mend 14 rfl) bp_m2 ?_
      exact on_iret (tk_X12_mend 15 rfl)
  · refine on_bipush (tk_X12_mend 14 rfl) bp_m2 ?_
    exact on_iret (tk_X12_mend 15 rfl)
def tb_X12_wet : List (Nat × Nat × Nat × Instr) := [(0, 1, 1, .aload_n 0), (1, 1, 2, .iload_n 1), (2, 1, 3, .i2l), (3, 3, 6, .invokevirtual 301), (6, 3, 9, .ifCond .eq 13), (9, 1, 10, .iload_n 2), (10, 1, 11, .i2l), (11, 1, 12, .lconst 0), (12, 1, 13, .lconst 1), (13, 3, 16, .invokestatic 88), (16, 3, 19, .ifCond .ne 6), (19, 2, 21, .bipush (-2)), (21, 1, 22, .ireturn), (22, 1, 23, .aload_n 0), (23, 1, 24, .iload_n 1), (24, 1, 25, .iconst 2), (25, 3, 28, .invokevirtual 94), (28, 1, 29, .istore_n 3), (29, 1, 30, .aload_n 0), (30, 3, 33, .getfield 9), (33, 2, 35, .bipush 62), (35, 2, 37, .bipush 7), (37, 1, 38, .iload_n 1), (38, 1, 39, .imul), (39, 1, 40, .iadd), (40, 1, 41, .iconst 2), (41, 1, 42, .iadd), (42, 1, 43, .iload_n 2), (43, 1, 44, .iastore), (44, 1, 45, .iload_n 3), (45, 1, 46, .ireturn)]
set_option maxRecDepth 100000 in
theorem tk_X12_wet (k : Nat) {pc n pc2 : Nat} {i : Instr} (hk : tb_X12_wet[k]? = some (pc, n, pc2, i)) : on_dq cX12_wet pc n pc2 i := on_ta (by decide +kernel) k hk
theorem ms_X12_wet : on_Mv yX12_wet cX12_wet 4 (some .int) 2 := ⟨kw_9_137, kw_9_135, kw_9_136, kw_1_13, by decide, by decide, by decide +kernel⟩
def pf_X12_wet (p0 : Int) (p1 : Int) (σ : on_S) : Option on_O :=
  on_Ck p0 <|
  on_Cl (pf_X12_isNet p0 σ) fun v1 σ2 =>
  on_Eq v1 0 (
    some ((-2), σ2)) (
    on_Ck p1 <|
    on_Cl (pf_X12_in p1 0 1 σ2) fun v3 σ4 =>
    on_Eq v3 0 (
      some ((-2), σ4)) (
      on_Cl (pf_X12_ofNet p0 2 σ4) fun v5 σ6 =>
      on_Wr σ6 78 687 ((62 + (7 * p0)) + 2) p1 fun σ7 =>
      some (v5, σ7)))
set_option maxRecDepth 100000 in
set_option maxHeartbeats 4000000 in
theorem ct_X12_wet {E : on_E} {z n : Nat} {p0 : Int} {p1 : Int} (hN : 100 ≤ n) {σ : on_S} : on_Sp E yX12_wet cX12_wet 4 (some .int) 2 47 z n [.ref (z + 77), .int (on_i p0), .int (on_i p1)] σ (pf_X12_wet p0 p1 σ) := by
  refine on_met [some (.ref (z + 77)), some (.int (on_i p0)), some (.int (on_i p1)), none] (by decide) rfl rfl (fun X => ?_)
  rw [pf_X12_wet]
  refine on_al0 (tk_X12_wet 0 rfl) ?_
  refine on_il1 (tk_X12_wet 1 rfl) ?_
  refine on_xi2l (tk_X12_wet 2 rfl) ?_
  refine on_cV1z 12 ms_X12_isNet kw_7_183 rfl rfl (ltc_77 hN) sh_77 (ct_X12_isNet hN) rfl (tk_X12_wet 3 rfl) fun v1 σ2 => ?_
  refine on_if_eq (tk_X12_wet 4 rfl) (tgt := 19) (by decide) ?_ ?_
  · refine on_il2 (tk_X12_wet 5 rfl) ?_
    refine on_xi2l (tk_X12_wet 6 rfl) ?_
    refine on_lconst0 (tk_X12_wet 7 rfl) ?_
    refine on_lconst1 (tk_X12_wet 8 rfl) ?_
    refine on_cS3z ms_X12_in kw_7_18 (ct_X12_in hN) rfl (tk_X12_wet 9 rfl) fun v3 σ4 => ?_
    refine on_if_ne (tk_X12_wet 10 rfl) (tgt := 22) (by decide) ?_ ?_
    · refine on_bipush (tk_X12_wet 11 rfl) bp_m2 ?_
      exact on_iret (tk_X12_wet 12 rfl)
    · refine on_al0 (tk_X12_wet 13 rfl) ?_
      refine on_il1 (tk_X12_wet 14 rfl) ?_
      refine on_iconst (tk_X12_wet 15 rfl) ?_
      refine on_cV2i 12 ms_X12_ofNet kw_7_162 rfl rfl (ltc_77 hN) sh_77 (ct_X12_ofNet hN) rfl (tk_X12_wet 16 rfl) fun v5 σ6 => ?_
      refine on_is3 rfl (tk_X12_wet 17 rfl) ?_
      refine on_al0 (tk_X12_wet 18 rfl) ?_
      refine fg_12_1 hN kw_6_141 (tk_X12_wet 19 rfl) ?_
      refine on_bipush (tk_X12_wet 20 rfl) bp_62 ?_
      refine on_bipush (tk_X12_wet 21 rfl) bp_7 ?_
      refine on_il1 (tk_X12_wet 22 rfl) ?_
      refine on_imul (tk_X12_wet 23 rfl) ?_
      refine on_iadd (tk_X12_wet 24 rfl) ?_
      refine on_iconst (tk_X12_wet 25 rfl) ?_
      refine on_iadd (tk_X12_wet 26 rfl) ?_
      refine on_il2 (tk_X12_wet 27 rfl) ?_
      refine on_iast (ltc_78 hN) sh_78 (tk_X12_wet 28 rfl) fun σ7 => ?_
      refine on_il3 (tk_X12_wet 29 rfl) ?_
      exact on_iret (tk_X12_wet 30 rfl)
  · refine on_bipush (tk_X12_wet 11 rfl) bp_m2 ?_
    exact on_iret (tk_X12_wet 12 rfl)
def tb_X12_anger : List (Nat × Nat × Nat × Instr) := [(0, 1, 1, .aload_n 0), (1, 1, 2, .iload_n 1), (2, 1, 3, .iload_n 2), (3, 3, 6, .invokevirtual 319), (6, 3, 9, .ifCond .eq 15), (9, 1, 10, .iload_n 3), (10, 1, 11, .i2l), (11, 1, 12, .lconst 0), (12, 3, 15, .ldc2_w 442), (15, 3, 18, .invokestatic 88), (18, 3, 21, .ifCond .ne 6), (21, 2, 23, .bipush (-2)), (23, 1, 24, .ireturn), (24, 1, 25, .aload_n 0), (25, 1, 26, .iload_n 1), (26, 1, 27, .iload_n 2), (27, 3, 30, .invokevirtual 263), (30, 2, 32, .istore 4), (32, 1, 33, .aload_n 0), (33, 1, 34, .iload_n 1), (34, 1, 35, .iload_n 2), (35, 1, 36, .iload_n 3), (36, 3, 39, .invokevirtual 400), (39, 2, 41, .iload 4), (41, 1, 42, .ireturn)]
set_option maxRecDepth 100000 in
theorem tk_X12_anger (k : Nat) {pc n pc2 : Nat} {i : Instr} (hk : tb_X12_anger[k]? = some (pc, n, pc2, i)) : on_dq cX12_anger pc n pc2 i := on_ta (by decide +kernel) k hk
theorem ms_X12_anger : on_Mv yX12_anger cX12_anger 5 (some .int) 3 := ⟨kw_9_141, kw_9_139, kw_9_140, kw_1_13, by decide, by decide, by decide +kernel⟩
def pf_X12_anger (p0 : Int) (p1 : Int) (p2 : Int) (σ : on_S) : Option on_O :=
  on_Cl (pf_X12_areMen p0 p1 σ) fun v1 σ2 =>
  on_Eq v1 0 (
    some ((-2), σ2)) (
    on_Ck p2 <|
    on_Cl (pf_X12_in p2 0 9 σ2) fun v3 σ4 =>
    on_Eq v3 0 (
      some ((-2), σ4)) (
      on_Cl (pf_X12_quarrelOf p0 p1 σ4) fun v5 σ6 =>
      on_Cl (pf_X12_setQuarrel p0 p1 p2 σ6) fun _ σ8 =>
      some (v5, σ8)))
set_option maxRecDepth 100000 in
set_option maxHeartbeats 4000000 in
theorem ct_X12_anger {E : on_E} {z n : Nat} {p0 : Int} {p1 : Int} {p2 : Int} (hN : 100 ≤ n) {σ : on_S} : on_Sp E yX12_anger cX12_anger 5 (some .int) 3 68 z n [.ref (z + 77), .int (on_i p0), .int (on_i p1), .int (on_i p2)] σ (pf_X12_anger p0 p1 p2 σ) := by
  refine on_met [some (.ref (z + 77)), some (.int (on_i p0)), some (.int (on_i p1)), some (.int (on_i p2)), none] (by decide) rfl rfl (fun X => ?_)
  rw [pf_X12_anger]
  refine on_al0 (tk_X12_anger 0 rfl) ?_
  refine on_il1 (tk_X12_anger 1 rfl) ?_
  refine on_il2 (tk_X12_anger 2 rfl) ?_
  refine on_cV2z 12 ms_X12_areMen kw_8_20 rfl rfl (ltc_77 hN) sh_77 (ct_X12_areMen hN) rfl (tk_X12_anger 3 rfl) fun v1 σ2 => ?_
  refine on_if_eq (tk_X12_anger 4 rfl) (tgt := 21) (by decide) ?_ ?_
  · refine on_il3 (tk_X12_anger 5 rfl) ?_
    refine on_xi2l (tk_X12_anger 6 rfl) ?_
    refine on_lconst0 (tk_X12_anger 7 rfl) ?_
    refine on_ldc2 (a := 9) kw_9_49 (by decide +kernel) (tk_X12_anger 8 rfl) ?_
    refine on_cS3z ms_X12_in kw_7_18 (ct_X12_in hN) rfl (tk_X12_anger 9 rfl) fun v3 σ4 => ?_
    refine on_if_ne (tk_X12_anger 10 rfl) (tgt := 24) (by decide) ?_ ?_
    · refine on_bipush (tk_X12_anger 11 rfl) bp_m2 ?_
      exact on_iret (tk_X12_anger 12 rfl)
    · refine on_al0 (tk_X12_anger 13 rfl) ?_
      refine on_il1 (tk_X12_anger 14 rfl) ?_
      refine on_il2 (tk_X12_anger 15 rfl) ?_
      refine on_cV2i 12 ms_X12_quarrelOf kw_7_237 rfl rfl (ltc_77 hN) sh_77 (ct_X12_quarrelOf hN) rfl (tk_X12_anger 16 rfl) fun v5 σ6 => ?_
      refine on_is4 rfl (tk_X12_anger 17 rfl) ?_
      refine on_al0 (tk_X12_anger 18 rfl) ?_
      refine on_il1 (tk_X12_anger 19 rfl) ?_
      refine on_il2 (tk_X12_anger 20 rfl) ?_
      refine on_il3 (tk_X12_anger 21 rfl) ?_
      refine on_cV3v 12 ms_X12_setQuarrel kw_8_208 rfl rfl (ltc_77 hN) sh_77 (ct_X12_setQuarrel hN) rfl (tk_X12_anger 22 rfl) fun v7 σ8 => ?_
      refine on_il4 (tk_X12_anger 23 rfl) ?_
      exact on_iret (tk_X12_anger 24 rfl)
  · refine on_bipush (tk_X12_anger 11 rfl) bp_m2 ?_
    exact on_iret (tk_X12_anger 12 rfl)
def tb_X12_truce : List (Nat × Nat × Nat × Instr) := [(0, 1, 1, .aload_n 0), (1, 1, 2, .iload_n 1), (2, 1, 3, .iload_n 2), (3, 3, 6, .invokevirtual 322), (6, 3, 9, .ifCond .eq 13), (9, 1, 10, .iload_n 3), (10, 1, 11, .i2l), (11, 1, 12, .lconst 0), (12, 1, 13, .lconst 1), (13, 3, 16, .invokestatic 88), (16, 3, 19, .ifCond .ne 6), (19, 2, 21, .bipush (-2)), (21, 1, 22, .ireturn), (22, 1, 23, .aload_n 0), (23, 1, 24, .iload_n 1), (24, 1, 25, .iload_n 2), (25, 3, 28, .invokevirtual 256), (28, 3, 31, .ifCond .eq 7), (31, 1, 32, .iconst 1), (32, 3, 35, .goto 4), (35, 1, 36, .iconst 0), (36, 2, 38, .istore 4), (38, 1, 39, .aload_n 0), (39, 3, 42, .getfield 9), (42, 3, 45, .sipush 157), (45, 1, 46, .iconst 4), (46, 1, 47, .iload_n 1), (47, 1, 48, .imul), (48, 1, 49, .iadd), (49, 1, 50, .iload_n 2), (50, 1, 51, .iadd), (51, 1, 52, .iload_n 3), (52, 1, 53, .iastore), (53, 1, 54, .aload_n 0), (54, 3, 57, .getfield 9), (57, 3, 60, .sipush 157), (60, 1, 61, .iconst 4), (61, 1, 62, .iload_n 2), (62, 1, 63, .imul), (63, 1, 64, .iadd), (64, 1, 65, .iload_n 1), (65, 1, 66, .iadd), (66, 1, 67, .iload_n 3), (67, 1, 68, .iastore), (68, 2, 70, .iload 4), (70, 1, 71, .ireturn)]
set_option maxRecDepth 100000 in
theorem tk_X12_truce (k : Nat) {pc n pc2 : Nat} {i : Instr} (hk : tb_X12_truce[k]? = some (pc, n, pc2, i)) : on_dq cX12_truce pc n pc2 i := on_ta (by decide +kernel) k hk
theorem ms_X12_truce : on_Mv yX12_truce cX12_truce 5 (some .int) 3 := ⟨kw_9_145, kw_9_143, kw_9_144, kw_1_13, by decide, by decide, by decide +kernel⟩
def pf_X12_truce_36 (l1 : Int) (l2 : Int) (l3 : Int) (s0 : Int) (σ : on_S) : Option on_O :=
  on_Wr σ 78 687 ((157 + (4 * l1)) + l2) l3 fun σ7 =>
  on_Wr σ7 78 687 ((157 + (4 * l2)) + l1) l3 fun σ8 =>
  some (s0, σ8)
def pf_X12_truce (p0 : Int) (p1 : Int) (p2 : Int) (σ : on_S) : Option on_O :=
  on_Cl (pf_X12_areHouses p0 p1 σ) fun v1 σ2 =>
  on_Eq v1 0 (
    some ((-2), σ2)) (
    on_Ck p2 <|
    on_Cl (pf_X12_in p2 0 1 σ2) fun v3 σ4 =>
    on_Eq v3 0 (
      some ((-2), σ4)) (
      on_Cl (pf_X12_isFeud p0 p1 σ4) fun v5 σ6 =>
      on_Eq v5 0 (
        pf_X12_truce_36 p0 p1 p2 0 σ6) (
        pf_X12_truce_36 p0 p1 p2 1 σ6)))
set_option maxRecDepth 100000 in
set_option maxHeartbeats 4000000 in
theorem gb_X12_truce_36 {E : on_E} {z n : Nat} (X : on_X) (hN : 100 ≤ n) (l1 : Int) (l2 : Int) (l3 : Int) (s0 : Int) (σ : on_S) : on_G X E cX12_truce RX12 (some .int) 3 68 5 z n σ (pf_X12_truce_36 l1 l2 l3 s0 σ) 36 [some (.ref (z + 77)), some (.int (on_i l1)), some (.int (on_i l2)), some (.int (on_i l3)), none] [.int (on_i s0)] := by
  rw [pf_X12_truce_36]
  refine on_is4 rfl (tk_X12_truce 21 rfl) ?_
  refine on_al0 (tk_X12_truce 22 rfl) ?_
  refine fg_12_1 hN kw_6_141 (tk_X12_truce 23 rfl) ?_
  refine on_sipush (tk_X12_truce 24 rfl) sp_157 ?_
  refine on_iconst (tk_X12_truce 25 rfl) ?_
  refine on_il1 (tk_X12_truce 26 rfl) ?_
  refine on_imul (tk_X12_truce 27 rfl) ?_
  refine on_iadd (tk_X12_truce 28 rfl) ?_
  refine on_il2 (tk_X12_truce 29 rfl) ?_
  refine on_iadd (tk_X12_truce 30 rfl) ?_
  refine on_il3 (tk_X12_truce 31 rfl) ?_
  refine on_iast (ltc_78 hN) sh_78 (tk_X12_truce 32 rfl) fun σ7 => ?_
  refine on_al0 (tk_X12_truce 33 rfl) ?_
  refine fg_12_1 hN kw_6_141 (tk_X12_truce 34 rfl) ?_
  refine on_sipush (tk_X12_truce 35 rfl) sp_157 ?_
  refine on_iconst (tk_X12_truce 36 rfl) ?_
  refine on_il2 (tk_X12_truce 37 rfl) ?_
  refine on_imul (tk_X12_truce 38 rfl) ?_
  refine on_iadd (tk_X12_truce 39 rfl) ?_
  refine on_il1 (tk_X12_truce 40 rfl) ?_
  refine on_iadd (tk_X12_truce 41 rfl) ?_
  refine on_il3 (tk_X12_truce 42 rfl) ?_
  refine on_iast (ltc_78 hN) sh_78 (tk_X12_truce 43 rfl) fun σ8 => ?_
  refine on_il4 (tk_X12_truce 44 rfl) ?_
  exact on_iret (tk_X12_truce 45 rfl)
set_option maxRecDepth 100000 in
set_option maxHeartbeats 4000000 in
theorem ct_X12_truce {E : on_E} {z n : Nat} {p0 : Int} {p1 : Int} {p2 : Int} (hN : 100 ≤ n) {σ : on_S} : on_Sp E yX12_truce cX12_truce 5 (some .int) 3 68 z n [.ref (z + 77), .int (on_i p0), .int (on_i p1), .int (on_i p2)] σ (pf_X12_truce p0 p1 p2 σ) := by
  refine on_met [some (.ref (z + 77)), some (.int (on_i p0)), some (.int (on_i p1)), some (.int (on_i p2)), none] (by decide) rfl rfl (fun X => ?_)
  rw [pf_X12_truce]
  refine on_al0 (tk_X12_truce 0 rfl) ?_
  refine on_il1 (tk_X12_truce 1 rfl) ?_
  refine on_il2 (tk_X12_truce 2 rfl) ?_
  refine on_cV2z 12 ms_X12_areHouses kw_8_28 rfl rfl (ltc_77 hN) sh_77 (ct_X12_areHouses hN) rfl (tk_X12_truce 3 rfl) fun v1 σ2 => ?_
  refine on_if_eq (tk_X12_truce 4 rfl) (tgt := 19) (by decide) ?_ ?_
  · refine on_il3 (tk_X12_truce 5 rfl) ?_
    refine on_xi2l (tk_X12_truce 6 rfl) ?_
    refine on_lconst0 (tk_X12_truce 7 rfl) ?_
    refine on_lconst1 (tk_X12_truce 8 rfl) ?_
    refine on_cS3z ms_X12_in kw_7_18 (ct_X12_in hN) rfl (tk_X12_truce 9 rfl) fun v3 σ4 => ?_
    refine on_if_ne (tk_X12_truce 10 rfl) (tgt := 22) (by decide) ?_ ?_
    · refine on_bipush (tk_X12_truce 11 rfl) bp_m2 ?_
      exact on_iret (tk_X12_truce 12 rfl)
    · refine on_al0 (tk_X12_truce 13 rfl) ?_
      refine on_il1 (tk_X12_truce 14 rfl) ?_
      refine on_il2 (tk_X12_truce 15 rfl) ?_
      refine on_cV2z 12 ms_X12_isFeud kw_7_233 rfl rfl (ltc_77 hN) sh_77 (ct_X12_isFeud hN) rfl (tk_X12_truce 16 rfl) fun v5 σ6 => ?_
      refine on_if_eq (tk_X12_truce 17 rfl) (tgt := 35) (by decide) ?_ ?_
      · refine on_iconst (tk_X12_truce 18 rfl) ?_
        refine on_goto (tk_X12_truce 19 rfl) (tgt := 36) (by decide) ?_
        exact gb_X12_truce_36 X  hN _ _ _ _ _
      · refine on_iconst (tk_X12_truce 20 rfl) ?_
        exact gb_X12_truce_36 X  hN _ _ _ _ _
  · refine on_bipush (tk_X12_truce 11 rfl) bp_m2 ?_
    exact on_iret (tk_X12_truce 12 rfl)
def tb_X12_goesNight : List (Nat × Nat × Nat × Instr) := [(0, 1, 1, .lload_n 1), (1, 2, 3, .lstore 4), (3, 1, 4, .aload_n 0), (4, 1, 5, .iconst 0), (5, 3, 8, .putfield 483), (8, 1, 9, .aload_n 0), (9, 1, 10, .iconst (-1)), (10, 3, 13, .putfield 486), (13, 1, 14, .aload_n 0), (14, 3, 17, .invokevirtual 339), (17, 1, 18, .iconst 0), (18, 2, 20, .istore 6), (20, 2, 22, .iload 6), (22, 1, 23, .iload_n 3), (23, 3, 26, .if_icmp .ge 136), (26, 1, 27, .aload_n 0), (27, 3, 30, .getfield 9), (30, 1, 31, .iconst 5), (31, 1, 32, .iaload), (32, 3, 35, .ifCond .le 127), (35, 3, 38, .ldc2_w 489), (38, 2, 40, .lload 4), (40, 1, 41, .lmul), (41, 3, 44, .ldc2_w 491), (44, 1, 45, .ladd), (45, 3, 48, .ldc2_w 493), (48, 1, 49, .lrem), (49, 2, 51, .lstore 4), (51, 2, 53, .lload 4), (53, 3, 56, .ldc2_w 495), (56, 1, 57, .ldiv), (57, 1, 58, .aload_n 0), (58, 3, 61, .getfield 9), (61, 1, 62, .iconst 5), (62, 1, 63, .iaload), (63, 1, 64, .i2l), (64, 1, 65, .lrem), (65, 1, 66, .l2i), (66, 2, 68, .istore 7), (68, 1, 69, .aload_n 0), (69, 1, 70, .aload_n 0), (70, 2, 72, .iload 7), (72, 3, 75, .invokevirtual 105), (75, 3, 78, .invokevirtual 295), (78, 2, 80, .istore 8), (80, 2, 82, .iload 8), (82, 1, 83, .iconst (-1)), (83, 3, 86, .if_icmp .eq 22), (86, 1, 87, .aload_n 0), (87, 2, 89, .iload 8), (89, 1, 90, .aload_n 0), (90, 2, 92, .iload 7), (92, 3, 95, .invokevirtual 289), (95, 3, 98, .invokevirtual 333), (98, 3, 101, .ifCond .eq 7), (101, 1, 102, .iconst 1), (102, 3, 105, .goto 4), (105, 1, 106, .iconst 0), (106, 2, 108, .istore 9), (108, 1, 109, .aload_n 0), (109, 1, 110, .dup), (110, 3, 113, .getfield 483), (113, 2, 115, .iload 9), (115, 3, 118, .ifCond .eq 7), (118, 1, 119, .iconst 1), (119, 3, 122, .goto 4), (122, 1, 123, .iconst 0), (123, 1, 124, .iadd), (124, 3, 127, .putfield 483), (127, 1, 128, .aload_n 0), (128, 2, 130, .iload 9), (130, 3, 133, .ifCond .ne 16), (133, 1, 134, .aload_n 0), (134, 3, 137, .getfield 486), (137, 1, 138, .iconst (-1)), (138, 3, 141, .if_icmp .ne 8), (141, 2, 143, .iload 6), (143, 3, 146, .goto 7), (146, 1, 147, .aload_n 0), (147, 3, 150, .getfield 486), (150, 3, 153, .putfield 486), (153, 3, 156, .iinc 6 1), (156, 3, 159, .goto (-136)), (159, 1, 160, .aload_n 0), (160, 3, 163, .invokevirtual 342), (163, 1, 164, .return_)]
set_option maxRecDepth 100000 in
theorem tk_X12_goesNight (k : Nat) {pc n pc2 : Nat} {i : Instr} (hk : tb_X12_goesNight[k]? = some (pc, n, pc2, i)) : on_dq cX12_goesNight pc n pc2 i := on_ta (by decide +kernel) k hk
theorem ms_X12_goesNight : on_Mv yX12_goesNight cX12_goesNight 10 none 2 := ⟨kw_9_158, kw_9_157, (on_mp (q := (yX12_goesNight, 37)) (by decide +kernel)), kw_1_13, by decide, by decide, by decide +kernel⟩
def pf_X12_goesNight_150 (k20 : Int → Int → Int → on_S → Option on_O) (l3 : Int) (l4 : Int) (l6 : Int) (s1 : Int) (σ : on_S) : Option on_O :=
  on_Pt σ 77 32 s1 fun σ21 =>
  k20 l3 l4 (l6 + 1) σ21
def pf_X12_goesNight_146 (k20 : Int → Int → Int → on_S → Option on_O) (l3 : Int) (l4 : Int) (l6 : Int) (σ : on_S) : Option on_O :=
  on_Gt σ 77 32 fun v22 =>
  pf_X12_goesNight_150 k20 l3 l4 l6 v22 σ
def pf_X12_goesNight_123 (k20 : Int → Int → Int → on_S → Option on_O) (l3 : Int) (l4 : Int) (l6 : Int) (l9 : Int) (s1 : Int) (s2 : Int) (σ : on_S) : Option on_O :=
  on_Pt σ 77 31 (s1 + s2) fun σ19 =>
  on_Eq l9 0 (
    on_Gt σ19 77 32 fun v20 =>
    on_Eq v20 (-1) (
      pf_X12_goesNight_150 k20 l3 l4 l6 l6 σ19) (
      pf_X12_goesNight_146 k20 l3 l4 l6 σ19)) (
    pf_X12_goesNight_146 k20 l3 l4 l6 σ19)
def pf_X12_goesNight_106 (k20 : Int → Int → Int → on_S → Option on_O) (l3 : Int) (l4 : Int) (l6 : Int) (s0 : Int) (σ : on_S) : Option on_O :=
  on_Gt σ 77 31 fun v18 =>
  on_Eq s0 0 (
    pf_X12_goesNight_123 k20 l3 l4 l6 s0 v18 0 σ) (
    pf_X12_goesNight_123 k20 l3 l4 l6 s0 v18 1 σ)
def pf_X12_goesNight_105 (k20 : Int → Int → Int → on_S → Option on_O) (l3 : Int) (l4 : Int) (l6 : Int) (σ : on_S) : Option on_O :=
  pf_X12_goesNight_106 k20 l3 l4 l6 0 σ
def pf_X12_goesNight_159 (σ : on_S) : Option on_O :=
  on_Cl (pf_X12_giveKnots σ) fun _ σ24 =>
  some (0, σ24)
def pf_X12_goesNight_20 : Nat → Int → Int → Int → on_S → Option on_O
  | 0, _, _, _, _ => none
  | nf + 1, l3, l4, l6, σ =>
    on_Lt l6 l3 (
      on_Rd σ 78 687 5 fun v5 =>
      on_Le v5 0 (
        pf_X12_goesNight_159 σ) (
        on_RmL ((1103515245 * l4) + 12345) 2147483648 fun v6 =>
        on_DvL v6 65536 fun v7 =>
        on_Rd σ 78 687 5 fun v8 =>
        on_Ck v8 <|
        on_RmL v7 v8 fun v9 =>
        on_Cl (pf_X12_windowOf v9 σ) fun v10 σ11 =>
        on_Cl (pf_X12_netAt v10 σ11) fun v12 σ13 =>
        on_Eq v12 (-1) (
          pf_X12_goesNight_105 (pf_X12_goesNight_20 nf) l3 v6 l6 σ13) (
          on_Cl (pf_X12_forceOf v9 σ13) fun v14 σ15 =>
          on_Cl (pf_X12_lands v12 v14 σ15) fun v16 σ17 =>
          on_Eq v16 0 (
            pf_X12_goesNight_105 (pf_X12_goesNight_20 nf) l3 v6 l6 σ17) (
            pf_X12_goesNight_106 (pf_X12_goesNight_20 nf) l3 v6 l6 1 σ17)))) (
      pf_X12_goesNight_159 σ)
def pf_X12_goesNight (p0 : Int) (p1 : Int) (σ : on_S) : Option on_O :=
  on_Pt σ 77 31 0 fun σ1 =>
  on_Pt σ1 77 32 (-1) fun σ2 =>
  on_Cl (pf_X12_keepKnots σ2) fun _ σ4 =>
  pf_X12_goesNight_20 on_N p1 p0 0 σ4
set_option maxRecDepth 100000 in
set_option maxHeartbeats 4000000 in
theorem gb_X12_goesNight_150 {E : on_E} {z n : Nat} (X : on_X) (k20 : Int → Int → Int → on_S → Option on_O) (hN : 100 ≤ n) (hk20 : ∀ (l3 : Int) (l4 : Int) (l6 : Int) (σ : on_S), on_G X E cX12_goesNight RX12 none 7 168 10 z n σ (k20 l3 l4 l6 σ) 20 [some (.ref (z + 77)), none, none, some (.int (on_i l3)), some (.long (on_l l4)), none, some (.int (on_i l6)), none, none, none] []) (l3 : Int) (l4 : Int) (l6 : Int) (s1 : Int) (σ : on_S) : on_G X E cX12_goesNight RX12 none 7 168 10 z n σ (pf_X12_goesNight_150 k20 l3 l4 l6 s1 σ) 150 [some (.ref (z + 77)), none, none, some (.int (on_i l3)), some (.long (on_l l4)), none, some (.int (on_i l6)), none, none, none] [.int (on_i s1), .ref (z + 77)] := by
  rw [pf_X12_goesNight_150]
  refine fp_12_32 hN kw_6_172 (tk_X12_goesNight 80 rfl) fun σ21 => ?_
  refine on_inc6 rfl (tk_X12_goesNight 81 rfl) ?_
  refine on_goto (tk_X12_goesNight 82 rfl) (tgt := 20) (by decide) ?_
  exact hk20 _ _ _ _
set_option maxRecDepth 100000 in
set_option maxHeartbeats 4000000 in
theorem gb_X12_goesNight_146 {E : on_E} {z n : Nat} (X : on_X) (k20 : Int → Int → Int → on_S → Option on_O) (hN : 100 ≤ n) (hk20 : ∀ (l3 : Int) (l4 : Int) (l6 : Int) (σ : on_S), on_G X E cX12_goesNight RX12 none 7 168 10 z n σ (k20 l3 l4 l6 σ) 20 [some (.ref (z + 77)), none, none, some (.int (on_i l3)), some (.long (on_l l4)), none, some (.int (on_i l6)), none, none, none] []) (l3 : Int) (l4 : Int) (l6 : Int) (σ : on_S) : on_G X E cX12_goesNight RX12 none 7 168 10 z n σ (pf_X12_goesNight_146 k20 l3 l4 l6 σ) 146 [some (.ref (z + 77)), none, none, some (.int (on_i l3)), some (.long (on_l l4)), none, some (.int (on_i l6)), none, none, none] [.ref (z + 77)] := by
  rw [pf_X12_goesNight_146]
  refine on_al0 (tk_X12_goesNight 78 rfl) ?_
  refine fg_12_32 hN kw_6_172 (tk_X12_goesNight 79 rfl) fun v22 => ?_
  exact gb_X12_goesNight_150 X _ hN hk20 _ _ _ _ _
set_option maxRecDepth 100000 in
set_option maxHeartbeats 4000000 in
theorem gb_X12_goesNight_123 {E : on_E} {z n : Nat} (X : on_X) (k20 : Int → Int → Int → on_S → Option on_O) (hN : 100 ≤ n) (hk20 : ∀ (l3 : Int) (l4 : Int) (l6 : Int) (σ : on_S), on_G X E cX12_goesNight RX12 none 7 168 10 z n σ (k20 l3 l4 l6 σ) 20 [some (.ref (z + 77)), none, none, some (.int (on_i l3)), some (.long (on_l l4)), none, some (.int (on_i l6)), none, none, none] []) (l3 : Int) (l4 : Int) (l6 : Int) (l9 : Int) (s1 : Int) (s2 : Int) (σ : on_S) : on_G X E cX12_goesNight RX12 none 7 168 10 z n σ (pf_X12_goesNight_123 k20 l3 l4 l6 l9 s1 s2 σ) 123 [some (.ref (z + 77)), none, none, some (.int (on_i l3)), some (.long (on_l l4)), none, some (.int (on_i l6)), none, none, some (.int (on_i l9))] [.int (on_i s2), .int (on_i s1), .ref (z + 77)] := by
  rw [pf_X12_goesNight_123]
  refine on_iadd (tk_X12_goesNight 67 rfl) ?_
  refine fp_12_31 hN kw_6_171 (tk_X12_goesNight 68 rfl) fun σ19 => ?_
  refine on_al0 (tk_X12_goesNight 69 rfl) ?_
  refine on_il9 (tk_X12_goesNight 70 rfl) ?_
  refine on_if_ne (tk_X12_goesNight 71 rfl) (tgt := 146) (by decide) ?_ ?_
  · refine on_al0 (tk_X12_goesNight 72 rfl) ?_
    refine fg_12_32 hN kw_6_172 (tk_X12_goesNight 73 rfl) fun v20 => ?_
    refine on_iconst (tk_X12_goesNight 74 rfl) ?_
    refine on_icmp_ne (tk_X12_goesNight 75 rfl) (tgt := 146) (by decide) ?_ ?_
    · refine on_il6 (tk_X12_goesNight 76 rfl) ?_
      refine on_goto (tk_X12_goesNight 77 rfl) (tgt := 150) (by decide) ?_
      refine on_dr9 ?_
      exact gb_X12_goesNight_150 X _ hN hk20 _ _ _ _ _
    · refine on_dr9 ?_
      exact gb_X12_goesNight_146 X _ hN hk20 _ _ _ _
  · refine on_dr9 ?_
    exact gb_X12_goesNight_146 X _ hN hk20 _ _ _ _
set_option maxRecDepth 100000 in
set_option maxHeartbeats 4000000 in
theorem gb_X12_goesNight_106 {E : on_E} {z n : Nat} (X : on_X) (k20 : Int → Int → Int → on_S → Option on_O) (hN : 100 ≤ n) (hk20 : ∀ (l3 : Int) (l4 : Int) (l6 : Int) (σ : on_S), on_G X E cX12_goesNight RX12 none 7 168 10 z n σ (k20 l3 l4 l6 σ) 20 [some (.ref (z + 77)), none, none, some (.int (on_i l3)), some (.long (on_l l4)), none, some (.int (on_i l6)), none, none, none] []) (l3 : Int) (l4 : Int) (l6 : Int) (s0 : Int) (σ : on_S) : on_G X E cX12_goesNight RX12 none 7 168 10 z n σ (pf_X12_goesNight_106 k20 l3 l4 l6 s0 σ) 106 [some (.ref (z + 77)), none, none, some (.int (on_i l3)), some (.long (on_l l4)), none, some (.int (on_i l6)), none, none, none] [.int (on_i s0)] := by
  rw [pf_X12_goesNight_106]
  refine on_is9 rfl (tk_X12_goesNight 58 rfl) ?_
  refine on_al0 (tk_X12_goesNight 59 rfl) ?_
  refine on_dup rfl (tk_X12_goesNight 60 rfl) ?_
  refine fg_12_31 hN kw_6_171 (tk_X12_goesNight 61 rfl) fun v18 => ?_
  refine on_il9 (tk_X12_goesNight 62 rfl) ?_
  refine on_if_eq (tk_X12_goesNight 63 rfl) (tgt := 122) (by decide) ?_ ?_
  · refine on_iconst (tk_X12_goesNight 64 rfl) ?_
    refine on_goto (tk_X12_goesNight 65 rfl) (tgt := 123) (by decide) ?_
    exact gb_X12_goesNight_123 X _ hN hk20 _ _ _ _ _ _ _
  · refine on_iconst (tk_X12_goesNight 66 rfl) ?_
    exact gb_X12_goesNight_123 X _ hN hk20 _ _ _ _ _ _ _
set_option maxRecDepth 100000 in
set_option maxHeartbeats 4000000 in
theorem gb_X12_goesNight_105 {E : on_E} {z n : Nat} (X : on_X) (k20 : Int → Int → Int → on_S → Option on_O) (hN : 100 ≤ n) (hk20 : ∀ (l3 : Int) (l4 : Int) (l6 : Int) (σ : on_S), on_G X E cX12_goesNight RX12 none 7 168 10 z n σ (k20 l3 l4 l6 σ) 20 [some (.ref (z + 77)), none, none, some (.int (on_i l3)), some (.long (on_l l4)), none, some (.int (on_i l6)), none, none, none] []) (l3 : Int) (l4 : Int) (l6 : Int) (σ : on_S) : on_G X E cX12_goesNight RX12 none 7 168 10 z n σ (pf_X12_goesNight_105 k20 l3 l4 l6 σ) 105 [some (.ref (z + 77)), none, none, some (.int (on_i l3)), some (.long (on_l l4)), none, some (.int (on_i l6)), none, none, none] [] := by
  rw [pf_X12_goesNight_105]
  refine on_iconst (tk_X12_goesNight 57 rfl) ?_
  exact gb_X12_goesNight_106 X _ hN hk20 _ _ _ _ _
set_option maxRecDepth 100000 in
set_option maxHeartbeats 4000000 in
theorem gb_X12_goesNight_159 {E : on_E} {z n : Nat} (X : on_X) (hN : 100 ≤ n) (σ : on_S) : on_G X E cX12_goesNight RX12 none 7 168 10 z n σ (pf_X12_goesNight_159  σ) 159 [some (.ref (z + 77)), none, none, none, none, none, none, none, none, none] [] := by
  rw [pf_X12_goesNight_159]
  refine on_al0 (tk_X12_goesNight 83 rfl) ?_
  refine on_cV0v 12 ms_X12_giveKnots kw_8_89 rfl rfl (ltc_77 hN) sh_77 (ct_X12_giveKnots hN) rfl (tk_X12_goesNight 84 rfl) fun v23 σ24 => ?_
  exact on_vret (tk_X12_goesNight 85 rfl)
set_option maxRecDepth 100000 in
set_option maxHeartbeats 4000000 in
theorem gl_X12_goesNight_20 {E : on_E} {z n : Nat} (X : on_X) (hN : 100 ≤ n) : ∀ (nf : Nat) (l3 : Int) (l4 : Int) (l6 : Int) (σ : on_S), on_G X E cX12_goesNight RX12 none 7 168 10 z n σ (pf_X12_goesNight_20 nf l3 l4 l6 σ) 20 [some (.ref (z + 77)), none, none, some (.int (on_i l3)), some (.long (on_l l4)), none, some (.int (on_i l6)), none, none, none] [] := by
  intro nf
  induction nf with
  | zero => intro l3 l4 l6 σ; exact on_none
  | succ nf ih =>
    intro l3 l4 l6 σ
    rw [pf_X12_goesNight_20]
    refine on_il6 (tk_X12_goesNight 12 rfl) ?_
    refine on_il3 (tk_X12_goesNight 13 rfl) ?_
    refine on_icmp_ge (tk_X12_goesNight 14 rfl) (tgt := 159) (by decide) ?_ ?_
    · refine on_al0 (tk_X12_goesNight 15 rfl) ?_
      refine fg_12_1 hN kw_6_141 (tk_X12_goesNight 16 rfl) ?_
      refine on_iconst (tk_X12_goesNight 17 rfl) ?_
      refine on_iald (ltc_78 hN) sh_78 (tk_X12_goesNight 18 rfl) fun v5 => ?_
      refine on_if_le (tk_X12_goesNight 19 rfl) (tgt := 159) (by decide) ?_ ?_
      · refine on_ldc2 (a := 1103515245) kw_9_159 (by decide +kernel) (tk_X12_goesNight 20 rfl) ?_
        refine on_ll4 (tk_X12_goesNight 21 rfl) ?_
        refine on_lmul (tk_X12_goesNight 22 rfl) ?_
        refine on_ldc2 (a := 12345) kw_9_160 (by decide +kernel) (tk_X12_goesNight 23 rfl) ?_
        refine on_ladd (tk_X12_goesNight 24 rfl) ?_
        refine on_ldc2 (a := 2147483648) kw_9_161 (by decide +kernel) (tk_X12_goesNight 25 rfl) ?_
        refine on_lrem (tk_X12_goesNight 26 rfl) fun v6 => ?_
        refine on_ls4 rfl (tk_X12_goesNight 27 rfl) ?_
        refine on_ll4 (tk_X12_goesNight 28 rfl) ?_
        refine on_ldc2 (a := 65536) kw_9_162 (by decide +kernel) (tk_X12_goesNight 29 rfl) ?_
        refine on_ldiv (tk_X12_goesNight 30 rfl) fun v7 => ?_
        refine on_al0 (tk_X12_goesNight 31 rfl) ?_
        refine fg_12_1 hN kw_6_141 (tk_X12_goesNight 32 rfl) ?_
        refine on_iconst (tk_X12_goesNight 33 rfl) ?_
        refine on_iald (ltc_78 hN) sh_78 (tk_X12_goesNight 34 rfl) fun v8 => ?_
        refine on_xi2l (tk_X12_goesNight 35 rfl) ?_
        refine on_lrem (tk_X12_goesNight 36 rfl) fun v9 => ?_
        refine on_xl2i (tk_X12_goesNight 37 rfl) ?_
        refine on_is7 rfl (tk_X12_goesNight 38 rfl) ?_
        refine on_al0 (tk_X12_goesNight 39 rfl) ?_
        refine on_al0 (tk_X12_goesNight 40 rfl) ?_
        refine on_il7 (tk_X12_goesNight 41 rfl) ?_
        refine on_cV1i 12 ms_X12_windowOf kw_7_192 rfl rfl (ltc_77 hN) sh_77 (ct_X12_windowOf hN) rfl (tk_X12_goesNight 42 rfl) fun v10 σ11 => ?_
        refine on_cV1i 12 ms_X12_netAt kw_7_158 rfl rfl (ltc_77 hN) sh_77 (ct_X12_netAt hN) rfl (tk_X12_goesNight 43 rfl) fun v12 σ13 => ?_
        refine on_is8 rfl (tk_X12_goesNight 44 rfl) ?_
        refine on_il8 (tk_X12_goesNight 45 rfl) ?_
        refine on_iconst (tk_X12_goesNight 46 rfl) ?_
        refine on_icmp_eq (tk_X12_goesNight 47 rfl) (tgt := 105) (by decide) ?_ ?_
        · refine on_al0 (tk_X12_goesNight 48 rfl) ?_
          refine on_il8 (tk_X12_goesNight 49 rfl) ?_
          refine on_al0 (tk_X12_goesNight 50 rfl) ?_
          refine on_il7 (tk_X12_goesNight 51 rfl) ?_
          refine on_cV1i 12 ms_X12_forceOf kw_7_196 rfl rfl (ltc_77 hN) sh_77 (ct_X12_forceOf hN) rfl (tk_X12_goesNight 52 rfl) fun v14 σ15 => ?_
          refine on_cV2z 12 ms_X12_lands kw_8_65 rfl rfl (ltc_77 hN) sh_77 (ct_X12_lands hN) rfl (tk_X12_goesNight 53 rfl) fun v16 σ17 => ?_
          refine on_if_eq (tk_X12_goesNight 54 rfl) (tgt := 105) (by decide) ?_ ?_
          · refine on_iconst (tk_X12_goesNight 55 rfl) ?_
            refine on_goto (tk_X12_goesNight 56 rfl) (tgt := 106) (by decide) ?_
            refine on_dr7 ?_
            refine on_dr8 ?_
            exact gb_X12_goesNight_106 X _ hN ih _ _ _ _ _
          · refine on_dr7 ?_
            refine on_dr8 ?_
            exact gb_X12_goesNight_105 X _ hN ih _ _ _ _
        · refine on_dr7 ?_
          refine on_dr8 ?_
          exact gb_X12_goesNight_105 X _ hN ih _ _ _ _
      · refine on_dr3 ?_
        refine on_dr4 ?_
        refine on_dr6 ?_
        exact gb_X12_goesNight_159 X  hN _
    · refine on_dr3 ?_
      refine on_dr4 ?_
      refine on_dr6 ?_
      exact gb_X12_goesNight_159 X  hN _
set_option maxRecDepth 100000 in
set_option maxHeartbeats 4000000 in
theorem ct_X12_goesNight {E : on_E} {z n : Nat} {p0 : Int} {p1 : Int} (hN : 100 ≤ n) {σ : on_S} : on_Sp E yX12_goesNight cX12_goesNight 10 none 7 168 z n [.ref (z + 77), .long (on_l p0), .int (on_i p1)] σ (pf_X12_goesNight p0 p1 σ) := by
  refine on_met [some (.ref (z + 77)), some (.long (on_l p0)), none, some (.int (on_i p1)), none, none, none, none, none, none] (by decide) rfl rfl (fun X => ?_)
  rw [pf_X12_goesNight]
  refine on_ll1 (tk_X12_goesNight 0 rfl) ?_
  refine on_ls4 rfl (tk_X12_goesNight 1 rfl) ?_
  refine on_al0 (tk_X12_goesNight 2 rfl) ?_
  refine on_iconst (tk_X12_goesNight 3 rfl) ?_
  refine fp_12_31 hN kw_6_171 (tk_X12_goesNight 4 rfl) fun σ1 => ?_
  refine on_al0 (tk_X12_goesNight 5 rfl) ?_
  refine on_iconst (tk_X12_goesNight 6 rfl) ?_
  refine fp_12_32 hN kw_6_172 (tk_X12_goesNight 7 rfl) fun σ2 => ?_
  refine on_al0 (tk_X12_goesNight 8 rfl) ?_
  refine on_cV0v 12 ms_X12_keepKnots kw_8_85 rfl rfl (ltc_77 hN) sh_77 (ct_X12_keepKnots hN) rfl (tk_X12_goesNight 9 rfl) fun v3 σ4 => ?_
  refine on_iconst (tk_X12_goesNight 10 rfl) ?_
  refine on_is6 rfl (tk_X12_goesNight 11 rfl) ?_
  refine on_dr1 ?_
  exact gl_X12_goesNight_20 X  hN on_N _ _ _ _
def tb_X12_isNight : List (Nat × Nat × Nat × Instr) := [(0, 1, 1, .iload_n 0), (1, 1, 2, .i2l), (2, 1, 3, .lconst 0), (3, 3, 6, .ldc2_w 497), (6, 3, 9, .invokestatic 88), (9, 3, 12, .ifCond .eq 19), (12, 1, 13, .iload_n 1), (13, 1, 14, .i2l), (14, 1, 15, .lconst 1), (15, 3, 18, .ldc2_w 499), (18, 3, 21, .invokestatic 88), (21, 3, 24, .ifCond .eq 7), (24, 1, 25, .iconst 1), (25, 3, 28, .goto 4), (28, 1, 29, .iconst 0), (29, 1, 30, .ireturn)]
set_option maxRecDepth 100000 in
theorem tk_X12_isNight (k : Nat) {pc n pc2 : Nat} {i : Instr} (hk : tb_X12_isNight[k]? = some (pc, n, pc2, i)) : on_dq cX12_isNight pc n pc2 i := on_ta (by decide +kernel) k hk
theorem ms_X12_isNight : on_Ms yX12_isNight cX12_isNight 2 (some .boolean) 2 := ⟨kw_9_152, kw_9_151, kw_1_13, by decide, by decide, by decide +kernel⟩
def pf_X12_isNight_28 (σ : on_S) : Option on_O :=
  some (0, σ)
def pf_X12_isNight (p0 : Int) (p1 : Int) (σ : on_S) : Option on_O :=
  on_Ck p0 <|
  on_Cl (pf_X12_in p0 0 2000000000 σ) fun v1 σ2 =>
  on_Eq v1 0 (
    pf_X12_isNight_28 σ2) (
    on_Ck p1 <|
    on_Cl (pf_X12_in p1 1 60 σ2) fun v3 σ4 =>
    on_Eq v3 0 (
      pf_X12_isNight_28 σ4) (
      some (1, σ4)))
set_option maxRecDepth 100000 in
set_option maxHeartbeats 4000000 in
theorem gb_X12_isNight_28 {E : on_E} {z n : Nat} (X : on_X) (hN : 100 ≤ n) (σ : on_S) : on_G X E cX12_isNight RX12 (some .boolean) 1 25 2 z n σ (pf_X12_isNight_28  σ) 28 [none, none] [] := by
  rw [pf_X12_isNight_28]
  refine on_iconst (tk_X12_isNight 14 rfl) ?_
  exact on_zret0 (tk_X12_isNight 15 rfl)
set_option maxRecDepth 100000 in
set_option maxHeartbeats 4000000 in
theorem ct_X12_isNight {E : on_E} {z n : Nat} {p0 : Int} {p1 : Int} (hN : 100 ≤ n) {σ : on_S} : on_Sp E yX12_isNight cX12_isNight 2 (some .boolean) 1 25 z n [.int (on_i p0), .int (on_i p1)] σ (pf_X12_isNight p0 p1 σ) := by
  refine on_met [some (.int (on_i p0)), some (.int (on_i p1))] (by decide) rfl rfl (fun X => ?_)
  rw [pf_X12_isNight]
  refine on_il0 (tk_X12_isNight 0 rfl) ?_
  refine on_xi2l (tk_X12_isNight 1 rfl) ?_
  refine on_lconst0 (tk_X12_isNight 2 rfl) ?_
  refine on_ldc2 (a := 2000000000) kw_9_153 (by decide +kernel) (tk_X12_isNight 3 rfl) ?_
  refine on_cS3z ms_X12_in kw_7_18 (ct_X12_in hN) rfl (tk_X12_isNight 4 rfl) fun v1 σ2 => ?_
  refine on_if_eq (tk_X12_isNight 5 rfl) (tgt := 28) (by decide) ?_ ?_
  · refine on_il1 (tk_X12_isNight 6 rfl) ?_
    refine on_xi2l (tk_X12_isNight 7 rfl) ?_
    refine on_lconst1 (tk_X12_isNight 8 rfl) ?_
    refine on_ldc2 (a := 60) kw_9_154 (by decide +kernel) (tk_X12_isNight 9 rfl) ?_
    refine on_cS3z ms_X12_in kw_7_18 (ct_X12_in hN) rfl (tk_X12_isNight 10 rfl) fun v3 σ4 => ?_
    refine on_if_eq (tk_X12_isNight 11 rfl) (tgt := 28) (by decide) ?_ ?_
    · refine on_iconst (tk_X12_isNight 12 rfl) ?_
      refine on_goto (tk_X12_isNight 13 rfl) (tgt := 29) (by decide) ?_
      exact on_zret1 (tk_X12_isNight 15 rfl)
    · refine on_dr0 ?_
      refine on_dr1 ?_
      exact gb_X12_isNight_28 X  hN _
  · refine on_dr0 ?_
    refine on_dr1 ?_
    exact gb_X12_isNight_28 X  hN _
def tb_X12_night : List (Nat × Nat × Nat × Instr) := [(0, 1, 1, .aload_n 0), (1, 3, 4, .invokevirtual 336), (4, 3, 7, .ifCond .eq 21), (7, 1, 8, .iload_n 1), (8, 1, 9, .iload_n 2), (9, 3, 12, .invokestatic 501), (12, 3, 15, .ifCond .eq 13), (15, 1, 16, .iload_n 3), (16, 1, 17, .i2l), (17, 1, 18, .lconst 0), (18, 1, 19, .lconst 1), (19, 3, 22, .invokestatic 88), (22, 3, 25, .ifCond .ne 6), (25, 2, 27, .bipush (-2)), (27, 1, 28, .ireturn), (28, 1, 29, .aload_n 0), (29, 1, 30, .iload_n 1), (30, 1, 31, .i2l), (31, 1, 32, .iload_n 2), (32, 3, 35, .invokevirtual 504), (35, 1, 36, .iload_n 3), (36, 3, 39, .ifCond .ne 10), (39, 1, 40, .aload_n 0), (40, 3, 43, .getfield 483), (43, 3, 46, .goto 7), (46, 1, 47, .aload_n 0), (47, 3, 50, .getfield 486), (50, 1, 51, .ireturn)]
set_option maxRecDepth 100000 in
theorem tk_X12_night (k : Nat) {pc n pc2 : Nat} {i : Instr} (hk : tb_X12_night[k]? = some (pc, n, pc2, i)) : on_dq cX12_night pc n pc2 i := on_ta (by decide +kernel) k hk
theorem ms_X12_night : on_Mv yX12_night cX12_night 4 (some .int) 3 := ⟨kw_9_149, kw_9_147, kw_9_148, kw_1_13, by decide, by decide, by decide +kernel⟩
def pf_X12_night (p0 : Int) (p1 : Int) (p2 : Int) (σ : on_S) : Option on_O :=
  on_Cl (pf_X12_isStreet σ) fun v1 σ2 =>
  on_Eq v1 0 (
    some ((-2), σ2)) (
    on_Cl (pf_X12_isNight p0 p1 σ2) fun v3 σ4 =>
    on_Eq v3 0 (
      some ((-2), σ4)) (
      on_Ck p2 <|
      on_Cl (pf_X12_in p2 0 1 σ4) fun v5 σ6 =>
      on_Eq v5 0 (
        some ((-2), σ6)) (
        on_Ck p0 <|
        on_Cl (pf_X12_goesNight p0 p1 σ6) fun _ σ8 =>
        on_Eq p2 0 (
          on_Gt σ8 77 31 fun v9 =>
          some (v9, σ8)) (
          on_Gt σ8 77 32 fun v10 =>
          some (v10, σ8)))))
set_option maxRecDepth 100000 in
set_option maxHeartbeats 4000000 in
theorem ct_X12_night {E : on_E} {z n : Nat} {p0 : Int} {p1 : Int} {p2 : Int} (hN : 100 ≤ n) {σ : on_S} : on_Sp E yX12_night cX12_night 4 (some .int) 8 197 z n [.ref (z + 77), .int (on_i p0), .int (on_i p1), .int (on_i p2)] σ (pf_X12_night p0 p1 p2 σ) := by
  refine on_met [some (.ref (z + 77)), some (.int (on_i p0)), some (.int (on_i p1)), some (.int (on_i p2))] (by decide) rfl rfl (fun X => ?_)
  rw [pf_X12_night]
  refine on_al0 (tk_X12_night 0 rfl) ?_
  refine on_cV0z 12 ms_X12_isStreet kw_8_73 rfl rfl (ltc_77 hN) sh_77 (ct_X12_isStreet hN) rfl (tk_X12_night 1 rfl) fun v1 σ2 => ?_
  refine on_if_eq (tk_X12_night 2 rfl) (tgt := 25) (by decide) ?_ ?_
  · refine on_il1 (tk_X12_night 3 rfl) ?_
    refine on_il2 (tk_X12_night 4 rfl) ?_
    refine on_cS2z ms_X12_isNight kw_9_150 (ct_X12_isNight hN) rfl (tk_X12_night 5 rfl) fun v3 σ4 => ?_
    refine on_if_eq (tk_X12_night 6 rfl) (tgt := 25) (by decide) ?_ ?_
    · refine on_il3 (tk_X12_night 7 rfl) ?_
      refine on_xi2l (tk_X12_night 8 rfl) ?_
      refine on_lconst0 (tk_X12_night 9 rfl) ?_
      refine on_lconst1 (tk_X12_night 10 rfl) ?_
      refine on_cS3z ms_X12_in kw_7_18 (ct_X12_in hN) rfl (tk_X12_night 11 rfl) fun v5 σ6 => ?_
      refine on_if_ne (tk_X12_night 12 rfl) (tgt := 28) (by decide) ?_ ?_
      · refine on_bipush (tk_X12_night 13 rfl) bp_m2 ?_
        exact on_iret (tk_X12_night 14 rfl)
      · refine on_al0 (tk_X12_night 15 rfl) ?_
        refine on_il1 (tk_X12_night 16 rfl) ?_
        refine on_xi2l (tk_X12_night 17 rfl) ?_
        refine on_il2 (tk_X12_night 18 rfl) ?_
        refine on_cV2v 12 ms_X12_goesNight kw_9_155 rfl rfl (ltc_77 hN) sh_77 (ct_X12_goesNight hN) rfl (tk_X12_night 19 rfl) fun v7 σ8 => ?_
        refine on_il3 (tk_X12_night 20 rfl) ?_
        refine on_if_ne (tk_X12_night 21 rfl) (tgt := 46) (by decide) ?_ ?_
        · refine on_al0 (tk_X12_night 22 rfl) ?_
          refine fg_12_31 hN kw_6_171 (tk_X12_night 23 rfl) fun v9 => ?_
          refine on_goto (tk_X12_night 24 rfl) (tgt := 50) (by decide) ?_
          exact on_iret (tk_X12_night 27 rfl)
        · refine on_al0 (tk_X12_night 25 rfl) ?_
          refine fg_12_32 hN kw_6_172 (tk_X12_night 26 rfl) fun v10 => ?_
          exact on_iret (tk_X12_night 27 rfl)
    · refine on_bipush (tk_X12_night 13 rfl) bp_m2 ?_
      exact on_iret (tk_X12_night 14 rfl)
  · refine on_bipush (tk_X12_night 13 rfl) bp_m2 ?_
    exact on_iret (tk_X12_night 14 rfl)
def tb_X12_years : List (Nat × Nat × Nat × Instr) := [(0, 1, 1, .aload_n 0), (1, 3, 4, .invokevirtual 336), (4, 3, 7, .ifCond .eq 23), (7, 1, 8, .iload_n 1), (8, 1, 9, .iload_n 3), (9, 3, 12, .invokestatic 501), (12, 3, 15, .ifCond .eq 15), (15, 1, 16, .iload_n 2), (16, 1, 17, .i2l), (17, 1, 18, .lconst 1), (18, 3, 21, .ldc2_w 508), (21, 3, 24, .invokestatic 88), (24, 3, 27, .ifCond .ne 6), (27, 2, 29, .bipush (-2)), (29, 1, 30, .ireturn), (30, 1, 31, .iconst 0), (31, 2, 33, .istore 4), (33, 1, 34, .iconst 0), (34, 2, 36, .istore 5), (36, 2, 38, .iload 5), (38, 1, 39, .iload_n 2), (39, 3, 42, .if_icmp .ge 38), (42, 1, 43, .aload_n 0), (43, 1, 44, .iload_n 1), (44, 1, 45, .i2l), (45, 2, 47, .iload 5), (47, 1, 48, .i2l), (48, 1, 49, .ladd), (49, 1, 50, .iload_n 3), (50, 3, 53, .invokevirtual 504), (53, 2, 55, .iload 4), (55, 1, 56, .aload_n 0), (56, 3, 59, .getfield 486), (59, 1, 60, .iconst (-1)), (60, 3, 63, .if_icmp .ne 7), (63, 1, 64, .iconst 1), (64, 3, 67, .goto 4), (67, 1, 68, .iconst 0), (68, 1, 69, .iadd), (69, 2, 71, .istore 4), (71, 3, 74, .iinc 5 1), (74, 3, 77, .goto (-38)), (77, 2, 79, .iload 4), (79, 1, 80, .ireturn)]
set_option maxRecDepth 100000 in
theorem tk_X12_years (k : Nat) {pc n pc2 : Nat} {i : Instr} (hk : tb_X12_years[k]? = some (pc, n, pc2, i)) : on_dq cX12_years pc n pc2 i := on_ta (by decide +kernel) k hk
theorem ms_X12_years : on_Mv yX12_years cX12_years 6 (some .int) 3 := ⟨kw_9_166, kw_9_164, kw_9_165, kw_1_13, by decide, by decide, by decide +kernel⟩
def pf_X12_years_36 : Nat → Int → Int → Int → Int → Int → on_S → Option on_O
  | 0, _, _, _, _, _, _ => none
  | nf + 1, l1, l2, l3, l4, l5, σ =>
    on_Lt l5 l2 (
      on_Ck l1 <|
      on_Ck l5 <|
      on_Cl (pf_X12_goesNight (l1 + l5) l3 σ) fun _ σ8 =>
      on_Gt σ8 77 32 fun v9 =>
      on_Eq v9 (-1) (
        pf_X12_years_36 nf l1 l2 l3 (l4 + 1) (l5 + 1) σ8) (
        pf_X12_years_36 nf l1 l2 l3 (l4 + 0) (l5 + 1) σ8)) (
      some (l4, σ))
def pf_X12_years (p0 : Int) (p1 : Int) (p2 : Int) (σ : on_S) : Option on_O :=
  on_Cl (pf_X12_isStreet σ) fun v1 σ2 =>
  on_Eq v1 0 (
    some ((-2), σ2)) (
    on_Cl (pf_X12_isNight p0 p2 σ2) fun v3 σ4 =>
    on_Eq v3 0 (
      some ((-2), σ4)) (
      on_Ck p1 <|
      on_Cl (pf_X12_in p1 1 20 σ4) fun v5 σ6 =>
      on_Eq v5 0 (
        some ((-2), σ6)) (
        pf_X12_years_36 on_N p0 p1 p2 0 0 σ6)))
set_option maxRecDepth 100000 in
set_option maxHeartbeats 4000000 in
theorem gl_X12_years_36 {E : on_E} {z n : Nat} (X : on_X) (hN : 100 ≤ n) : ∀ (nf : Nat) (l1 : Int) (l2 : Int) (l3 : Int) (l4 : Int) (l5 : Int) (σ : on_S), on_G X E cX12_years RX12 (some .int) 8 197 6 z n σ (pf_X12_years_36 nf l1 l2 l3 l4 l5 σ) 36 [some (.ref (z + 77)), some (.int (on_i l1)), some (.int (on_i l2)), some (.int (on_i l3)), some (.int (on_i l4)), some (.int (on_i l5))] [] := by
  intro nf
  induction nf with
  | zero => intro l1 l2 l3 l4 l5 σ; exact on_none
  | succ nf ih =>
    intro l1 l2 l3 l4 l5 σ
    rw [pf_X12_years_36]
    refine on_il5 (tk_X12_years 19 rfl) ?_
    refine on_il2 (tk_X12_years 20 rfl) ?_
    refine on_icmp_ge (tk_X12_years 21 rfl) (tgt := 77) (by decide) ?_ ?_
    · refine on_al0 (tk_X12_years 22 rfl) ?_
      refine on_il1 (tk_X12_years 23 rfl) ?_
      refine on_xi2l (tk_X12_years 24 rfl) ?_
      refine on_il5 (tk_X12_years 25 rfl) ?_
      refine on_xi2l (tk_X12_years 26 rfl) ?_
      refine on_ladd (tk_X12_years 27 rfl) ?_
      refine on_il3 (tk_X12_years 28 rfl) ?_
      refine on_cV2v 12 ms_X12_goesNight kw_9_155 rfl rfl (ltc_77 hN) sh_77 (ct_X12_goesNight hN) rfl (tk_X12_years 29 rfl) fun v7 σ8 => ?_
      refine on_il4 (tk_X12_years 30 rfl) ?_
      refine on_al0 (tk_X12_years 31 rfl) ?_
      refine fg_12_32 hN kw_6_172 (tk_X12_years 32 rfl) fun v9 => ?_
      refine on_iconst (tk_X12_years 33 rfl) ?_
      refine on_icmp_ne (tk_X12_years 34 rfl) (tgt := 67) (by decide) ?_ ?_
      · refine on_iconst (tk_X12_years 35 rfl) ?_
        refine on_goto (tk_X12_years 36 rfl) (tgt := 68) (by decide) ?_
        refine on_iadd (tk_X12_years 38 rfl) ?_
        refine on_is4 rfl (tk_X12_years 39 rfl) ?_
        refine on_inc5 rfl (tk_X12_years 40 rfl) ?_
        refine on_goto (tk_X12_years 41 rfl) (tgt := 36) (by decide) ?_
        exact ih _ _ _ _ _ _
      · refine on_iconst (tk_X12_years 37 rfl) ?_
        refine on_iadd (tk_X12_years 38 rfl) ?_
        refine on_is4 rfl (tk_X12_years 39 rfl) ?_
        refine on_inc5 rfl (tk_X12_years 40 rfl) ?_
        refine on_goto (tk_X12_years 41 rfl) (tgt := 36) (by decide) ?_
        exact ih _ _ _ _ _ _
    · refine on_il4 (tk_X12_years 42 rfl) ?_
      exact on_iret (tk_X12_years 43 rfl)
set_option maxRecDepth 100000 in
set_option maxHeartbeats 4000000 in
theorem ct_X12_years {E : on_E} {z n : Nat} {p0 : Int} {p1 : Int} {p2 : Int} (hN : 100 ≤ n) {σ : on_S} : on_Sp E yX12_years cX12_years 6 (some .int) 8 197 z n [.ref (z + 77), .int (on_i p0), .int (on_i p1), .int (on_i p2)] σ (pf_X12_years p0 p1 p2 σ) := by
  refine on_met [some (.ref (z + 77)), some (.int (on_i p0)), some (.int (on_i p1)), some (.int (on_i p2)), none, none] (by decide) rfl rfl (fun X => ?_)
  rw [pf_X12_years]
  refine on_al0 (tk_X12_years 0 rfl) ?_
  refine on_cV0z 12 ms_X12_isStreet kw_8_73 rfl rfl (ltc_77 hN) sh_77 (ct_X12_isStreet hN) rfl (tk_X12_years 1 rfl) fun v1 σ2 => ?_
  refine on_if_eq (tk_X12_years 2 rfl) (tgt := 27) (by decide) ?_ ?_
  · refine on_il1 (tk_X12_years 3 rfl) ?_
    refine on_il3 (tk_X12_years 4 rfl) ?_
    refine on_cS2z ms_X12_isNight kw_9_150 (ct_X12_isNight hN) rfl (tk_X12_years 5 rfl) fun v3 σ4 => ?_
    refine on_if_eq (tk_X12_years 6 rfl) (tgt := 27) (by decide) ?_ ?_
    · refine on_il2 (tk_X12_years 7 rfl) ?_
      refine on_xi2l (tk_X12_years 8 rfl) ?_
      refine on_lconst1 (tk_X12_years 9 rfl) ?_
      refine on_ldc2 (a := 20) kw_9_167 (by decide +kernel) (tk_X12_years 10 rfl) ?_
      refine on_cS3z ms_X12_in kw_7_18 (ct_X12_in hN) rfl (tk_X12_years 11 rfl) fun v5 σ6 => ?_
      refine on_if_ne (tk_X12_years 12 rfl) (tgt := 30) (by decide) ?_ ?_
      · refine on_bipush (tk_X12_years 13 rfl) bp_m2 ?_
        exact on_iret (tk_X12_years 14 rfl)
      · refine on_iconst (tk_X12_years 15 rfl) ?_
        refine on_is4 rfl (tk_X12_years 16 rfl) ?_
        refine on_iconst (tk_X12_years 17 rfl) ?_
        refine on_is5 rfl (tk_X12_years 18 rfl) ?_
        exact gl_X12_years_36 X  hN on_N _ _ _ _ _ _
    · refine on_bipush (tk_X12_years 13 rfl) bp_m2 ?_
      exact on_iret (tk_X12_years 14 rfl)
  · refine on_bipush (tk_X12_years 13 rfl) bp_m2 ?_
    exact on_iret (tk_X12_years 14 rfl)
def tb_X12_count : List (Nat × Nat × Nat × Instr) := [(0, 1, 1, .iconst 0), (1, 1, 2, .istore_n 2), (2, 1, 3, .iload_n 1), (3, 53, 56, .tableswitch 149 0 9 #[53, 60, 67, 74, 81, 88, 95, 103, 111, 116]), (56, 1, 57, .aload_n 0), (57, 3, 60, .getfield 9), (60, 1, 61, .iconst 0), (61, 1, 62, .iaload), (62, 1, 63, .ireturn), (63, 1, 64, .aload_n 0), (64, 3, 67, .getfield 9), (67, 1, 68, .iconst 1), (68, 1, 69, .iaload), (69, 1, 70, .ireturn), (70, 1, 71, .aload_n 0), (71, 3, 74, .getfield 9), (74, 1, 75, .iconst 2), (75, 1, 76, .iaload), (76, 1, 77, .ireturn), (77, 1, 78, .aload_n 0), (78, 3, 81, .getfield 9), (81, 1, 82, .iconst 3), (82, 1, 83, .iaload), (83, 1, 84, .ireturn), (84, 1, 85, .aload_n 0), (85, 3, 88, .getfield 9), (88, 1, 89, .iconst 4), (89, 1, 90, .iaload), (90, 1, 91, .ireturn), (91, 1, 92, .aload_n 0), (92, 3, 95, .getfield 9), (95, 1, 96, .iconst 5), (96, 1, 97, .iaload), (97, 1, 98, .ireturn), (98, 1, 99, .aload_n 0), (99, 3, 102, .getfield 9), (102, 2, 104, .bipush 6), (104, 1, 105, .iaload), (105, 1, 106, .ireturn), (106, 1, 107, .aload_n 0), (107, 3, 110, .getfield 9), (110, 2, 112, .bipush 7), (112, 1, 113, .iaload), (113, 1, 114, .ireturn), (114, 1, 115, .aload_n 0), (115, 3, 118, .getfield 111), (118, 1, 119, .ireturn), (119, 1, 120, .iconst 0), (120, 1, 121, .istore_n 3), (121, 1, 122, .iload_n 3), (122, 1, 123, .iconst 4), (123, 3, 126, .if_icmp .ge 27), (126, 1, 127, .iload_n 2), (127, 1, 128, .aload_n 0), (128, 3, 131, .getfield 70), (131, 1, 132, .iload_n 3), (132, 1, 133, .iaload), (133, 1, 134, .iconst (-1)), (134, 3, 137, .if_icmp .ne 7), (137, 1, 138, .iconst 0), (138, 3, 141, .goto 4), (141, 1, 142, .iconst 1), (142, 1, 143, .iadd), (143, 1, 144, .istore_n 2), (144, 3, 147, .iinc 3 1), (147, 3, 150, .goto (-26)), (150, 1, 151, .iload_n 2), (151, 1, 152, .ireturn), (152, 1, 153, .iconst (-1)), (153, 1, 154, .ireturn)]
set_option maxRecDepth 100000 in
theorem tk_X12_count (k : Nat) {pc n pc2 : Nat} {i : Instr} (hk : tb_X12_count[k]? = some (pc, n, pc2, i)) : on_dq cX12_count pc n pc2 i := on_ta (by decide +kernel) k hk
theorem ms_X12_count : on_Mv yX12_count cX12_count 4 (some .int) 1 := ⟨kw_9_171, kw_9_169, kw_9_170, kw_1_13, by decide, by decide, by decide +kernel⟩
def pf_X12_count_121 : Nat → Int → Int → on_S → Option on_O
  | 0, _, _, _ => none
  | nf + 1, l2, l3, σ =>
    on_Lt l3 4 (
      on_Rd σ 96 4 l3 fun v10 =>
      on_Eq v10 (-1) (
        pf_X12_count_121 nf (l2 + 0) (l3 + 1) σ) (
        pf_X12_count_121 nf (l2 + 1) (l3 + 1) σ)) (
      some (l2, σ))
def pf_X12_count (p0 : Int) (σ : on_S) : Option on_O :=
  on_sw p0 0 [
    (on_Rd σ 78 687 0 fun v1 =>
    some (v1, σ)),
    (on_Rd σ 78 687 1 fun v2 =>
    some (v2, σ)),
    (on_Rd σ 78 687 2 fun v3 =>
    some (v3, σ)),
    (on_Rd σ 78 687 3 fun v4 =>
    some (v4, σ)),
    (on_Rd σ 78 687 4 fun v5 =>
    some (v5, σ)),
    (on_Rd σ 78 687 5 fun v6 =>
    some (v6, σ)),
    (on_Rd σ 78 687 6 fun v7 =>
    some (v7, σ)),
    (on_Rd σ 78 687 7 fun v8 =>
    some (v8, σ)),
    (on_Gt σ 77 5 fun v9 =>
    some (v9, σ)),
    (pf_X12_count_121 on_N 0 0 σ)] (
    some ((-1), σ))
set_option maxRecDepth 100000 in
set_option maxHeartbeats 4000000 in
theorem gl_X12_count_121 {E : on_E} {z n : Nat} (X : on_X) (hN : 100 ≤ n) : ∀ (nf : Nat) (l2 : Int) (l3 : Int) (σ : on_S), on_G X E cX12_count RX12 (some .int) 0 0 4 z n σ (pf_X12_count_121 nf l2 l3 σ) 121 [some (.ref (z + 77)), none, some (.int (on_i l2)), some (.int (on_i l3))] [] := by
  intro nf
  induction nf with
  | zero => intro l2 l3 σ; exact on_none
  | succ nf ih =>
    intro l2 l3 σ
    rw [pf_X12_count_121]
    refine on_il3 (tk_X12_count 49 rfl) ?_
    refine on_iconst (tk_X12_count 50 rfl) ?_
    refine on_icmp_ge (tk_X12_count 51 rfl) (tgt := 150) (by decide) ?_ ?_
    · refine on_il2 (tk_X12_count 52 rfl) ?_
      refine on_al0 (tk_X12_count 53 rfl) ?_
      refine fg_12_33 hN kw_6_173 (tk_X12_count 54 rfl) ?_
      refine on_il3 (tk_X12_count 55 rfl) ?_
      refine on_iald (ltc_96 hN) sh_96 (tk_X12_count 56 rfl) fun v10 => ?_
      refine on_iconst (tk_X12_count 57 rfl) ?_
      refine on_icmp_ne (tk_X12_count 58 rfl) (tgt := 141) (by decide) ?_ ?_
      · refine on_iconst (tk_X12_count 59 rfl) ?_
        refine on_goto (tk_X12_count 60 rfl) (tgt := 142) (by decide) ?_
        refine on_iadd (tk_X12_count 62 rfl) ?_
        refine on_is2 rfl (tk_X12_count 63 rfl) ?_
        refine on_inc3 rfl (tk_X12_count 64 rfl) ?_
        refine on_goto (tk_X12_count 65 rfl) (tgt := 121) (by decide) ?_
        exact ih _ _ _
      · refine on_iconst (tk_X12_count 61 rfl) ?_
        refine on_iadd (tk_X12_count 62 rfl) ?_
        refine on_is2 rfl (tk_X12_count 63 rfl) ?_
        refine on_inc3 rfl (tk_X12_count 64 rfl) ?_
        refine on_goto (tk_X12_count 65 rfl) (tgt := 121) (by decide) ?_
        exact ih _ _ _
    · refine on_il2 (tk_X12_count 66 rfl) ?_
      exact on_iret (tk_X12_count 67 rfl)
set_option maxRecDepth 100000 in
set_option maxHeartbeats 4000000 in
theorem ct_X12_count {E : on_E} {z n : Nat} {p0 : Int} (hN : 100 ≤ n) {σ : on_S} : on_Sp E yX12_count cX12_count 4 (some .int) 0 0 z n [.ref (z + 77), .int (on_i p0)] σ (pf_X12_count p0 σ) := by
  refine on_met [some (.ref (z + 77)), some (.int (on_i p0)), none, none] (by decide) rfl rfl (fun X => ?_)
  rw [pf_X12_count]
  refine on_iconst (tk_X12_count 0 rfl) ?_
  refine on_is2 rfl (tk_X12_count 1 rfl) ?_
  refine on_il1 (tk_X12_count 2 rfl) ?_
  refine on_tsw (dt := 152) [56, 63, 70, 77, 84, 91, 98, 106, 114, 119] (tk_X12_count 3 rfl) rfl rfl (by decide) (by decide) ?_ ?_
  · intro j q hq
    match j, hq with
    | 0, hq =>
      cases hq
      refine on_al0 (tk_X12_count 4 rfl) ?_
      refine fg_12_1 hN kw_6_141 (tk_X12_count 5 rfl) ?_
      refine on_iconst (tk_X12_count 6 rfl) ?_
      refine on_iald (ltc_78 hN) sh_78 (tk_X12_count 7 rfl) fun v1 => ?_
      exact on_iret (tk_X12_count 8 rfl)
    | 1, hq =>
      cases hq
      refine on_al0 (tk_X12_count 9 rfl) ?_
      refine fg_12_1 hN kw_6_141 (tk_X12_count 10 rfl) ?_
      refine on_iconst (tk_X12_count 11 rfl) ?_
      refine on_iald (ltc_78 hN) sh_78 (tk_X12_count 12 rfl) fun v2 => ?_
      exact on_iret (tk_X12_count 13 rfl)
    | 2, hq =>
      cases hq
      refine on_al0 (tk_X12_count 14 rfl) ?_
      refine fg_12_1 hN kw_6_141 (tk_X12_count 15 rfl) ?_
      refine on_iconst (tk_X12_count 16 rfl) ?_
      refine on_iald (ltc_78 hN) sh_78 (tk_X12_count 17 rfl) fun v3 => ?_
      exact on_iret (tk_X12_count 18 rfl)
    | 3, hq =>
      cases hq
      refine on_al0 (tk_X12_count 19 rfl) ?_
      refine fg_12_1 hN kw_6_141 (tk_X12_count 20 rfl) ?_
      refine on_iconst (tk_X12_count 21 rfl) ?_
      refine on_iald (ltc_78 hN) sh_78 (tk_X12_count 22 rfl) fun v4 => ?_
      exact on_iret (tk_X12_count 23 rfl)
    | 4, hq =>
      cases hq
      refine on_al0 (tk_X12_count 24 rfl) ?_
      refine fg_12_1 hN kw_6_141 (tk_X12_count 25 rfl) ?_
      refine on_iconst (tk_X12_count 26 rfl) ?_
      refine on_iald (ltc_78 hN) sh_78 (tk_X12_count 27 rfl) fun v5 => ?_
      exact on_iret (tk_X12_count 28 rfl)
    | 5, hq =>
      cases hq
      refine on_al0 (tk_X12_count 29 rfl) ?_
      refine fg_12_1 hN kw_6_141 (tk_X12_count 30 rfl) ?_
      refine on_iconst (tk_X12_count 31 rfl) ?_
      refine on_iald (ltc_78 hN) sh_78 (tk_X12_count 32 rfl) fun v6 => ?_
      exact on_iret (tk_X12_count 33 rfl)
    | 6, hq =>
      cases hq
      refine on_al0 (tk_X12_count 34 rfl) ?_
      refine fg_12_1 hN kw_6_141 (tk_X12_count 35 rfl) ?_
      refine on_bipush (tk_X12_count 36 rfl) bp_6 ?_
      refine on_iald (ltc_78 hN) sh_78 (tk_X12_count 37 rfl) fun v7 => ?_
      exact on_iret (tk_X12_count 38 rfl)
    | 7, hq =>
      cases hq
      refine on_al0 (tk_X12_count 39 rfl) ?_
      refine fg_12_1 hN kw_6_141 (tk_X12_count 40 rfl) ?_
      refine on_bipush (tk_X12_count 41 rfl) bp_7 ?_
      refine on_iald (ltc_78 hN) sh_78 (tk_X12_count 42 rfl) fun v8 => ?_
      exact on_iret (tk_X12_count 43 rfl)
    | 8, hq =>
      cases hq
      refine on_al0 (tk_X12_count 44 rfl) ?_
      refine fg_12_5 hN kw_6_145 (tk_X12_count 45 rfl) fun v9 => ?_
      exact on_iret (tk_X12_count 46 rfl)
    | 9, hq =>
      cases hq
      refine on_iconst (tk_X12_count 47 rfl) ?_
      refine on_is3 rfl (tk_X12_count 48 rfl) ?_
      refine on_dr1 ?_
      exact gl_X12_count_121 X  hN on_N _ _ _
    | j + 10, hq => simp at hq
  · refine on_iconst (tk_X12_count 68 rfl) ?_
    exact on_iret (tk_X12_count 69 rfl)
def tb_X12_cut : List (Nat × Nat × Nat × Instr) := [(0, 2, 2, .bipush 64), (2, 2, 4, .bipush 8), (4, 1, 5, .iload_n 2), (5, 1, 6, .ishl), (6, 1, 7, .isub), (7, 1, 8, .istore_n 3), (8, 1, 9, .lload_n 0), (9, 1, 10, .iload_n 3), (10, 1, 11, .lshl), (11, 1, 12, .iload_n 3), (12, 1, 13, .lshr), (13, 1, 14, .lreturn)]
set_option maxRecDepth 100000 in
theorem tk_X12_cut (k : Nat) {pc n pc2 : Nat} {i : Instr} (hk : tb_X12_cut[k]? = some (pc, n, pc2, i)) : on_dq cX12_cut pc n pc2 i := on_ta (by decide +kernel) k hk
theorem ms_X12_cut : on_Ms yX12_cut cX12_cut 4 (some .long) 2 := ⟨kw_9_182, kw_9_181, kw_1_13, by decide, by decide, by decide +kernel⟩
def pf_X12_cut (p0 : Int) (p1 : Int) (σ : on_S) : Option on_O :=
  some ((on_shrl (on_shll p0 (64 - (on_shl 8 p1))) (64 - (on_shl 8 p1))), σ)
set_option maxRecDepth 100000 in
set_option maxHeartbeats 4000000 in
theorem ct_X12_cut {E : on_E} {z n : Nat} {p0 : Int} {p1 : Int} (hN : 100 ≤ n) {σ : on_S} : on_Sp E yX12_cut cX12_cut 4 (some .long) 0 0 z n [.long (on_l p0), .int (on_i p1)] σ (pf_X12_cut p0 p1 σ) := by
  refine on_met [some (.long (on_l p0)), none, some (.int (on_i p1)), none] (by decide) rfl rfl (fun X => ?_)
  rw [pf_X12_cut]
  refine on_bipush (tk_X12_cut 0 rfl) bp_64 ?_
  refine on_bipush (tk_X12_cut 1 rfl) bp_8 ?_
  refine on_il2 (tk_X12_cut 2 rfl) ?_
  refine on_ishl (tk_X12_cut 3 rfl) ?_
  refine on_isub (tk_X12_cut 4 rfl) ?_
  refine on_is3 rfl (tk_X12_cut 5 rfl) ?_
  refine on_ll0 (tk_X12_cut 6 rfl) ?_
  refine on_il3 (tk_X12_cut 7 rfl) ?_
  refine on_lshl (tk_X12_cut 8 rfl) ?_
  refine on_il3 (tk_X12_cut 9 rfl) ?_
  refine on_lshr (tk_X12_cut 10 rfl) ?_
  exact on_lret (tk_X12_cut 11 rfl)
def tb_X12_row : List (Nat × Nat × Nat × Instr) := [(0, 1, 1, .iload_n 1), (1, 3, 4, .invokestatic 449), (4, 3, 7, .ifCond .eq 21), (7, 1, 8, .iload_n 2), (8, 1, 9, .i2l), (9, 1, 10, .lconst 0), (10, 3, 13, .ldc2_w 92), (13, 3, 16, .invokestatic 88), (16, 3, 19, .ifCond .eq 9), (19, 1, 20, .iload_n 3), (20, 2, 22, .bipush 60), (22, 3, 25, .if_icmp .le 6), (25, 2, 27, .bipush (-2)), (27, 1, 28, .ireturn), (28, 1, 29, .iload_n 3), (29, 3, 32, .ifCond .ge 6), (32, 2, 34, .bipush (-3)), (34, 1, 35, .ireturn), (35, 1, 36, .aload_n 0), (36, 3, 39, .getfield 70), (39, 1, 40, .iload_n 1), (40, 1, 41, .iload_n 3), (41, 1, 42, .iastore), (42, 1, 43, .aload_n 0), (43, 3, 46, .getfield 73), (46, 1, 47, .iload_n 1), (47, 1, 48, .iload_n 2), (48, 1, 49, .iastore), (49, 1, 50, .iconst 0), (50, 2, 52, .istore 4), (52, 2, 54, .iload 4), (54, 2, 56, .bipush 60), (56, 3, 59, .if_icmp .ge 22), (59, 1, 60, .aload_n 0), (60, 3, 63, .getfield 76), (63, 2, 65, .bipush 60), (65, 1, 66, .iload_n 1), (66, 1, 67, .imul), (67, 2, 69, .iload 4), (69, 1, 70, .iadd), (70, 1, 71, .lconst 0), (71, 1, 72, .lastore), (72, 3, 75, .iinc 4 1), (75, 3, 78, .goto (-23)), (78, 1, 79, .iconst 0), (79, 1, 80, .ireturn)]
set_option maxRecDepth 100000 in
theorem tk_X12_row (k : Nat) {pc n pc2 : Nat} {i : Instr} (hk : tb_X12_row[k]? = some (pc, n, pc2, i)) : on_dq cX12_row pc n pc2 i := on_ta (by decide +kernel) k hk
theorem ms_X12_row : on_Mv yX12_row cX12_row 5 (some .int) 3 := ⟨kw_9_175, kw_9_173, kw_9_174, kw_1_13, by decide, by decide, by decide +kernel⟩
def pf_X12_row_52 : Nat → Int → Int → on_S → Option on_O
  | 0, _, _, _ => none
  | nf + 1, l1, l4, σ =>
    on_Lt l4 60 (
      on_Wr σ 98 240 ((60 * l1) + l4) 0 fun σ7 =>
      pf_X12_row_52 nf l1 (l4 + 1) σ7) (
      some (0, σ))
def pf_X12_row (p0 : Int) (p1 : Int) (p2 : Int) (σ : on_S) : Option on_O :=
  on_Cl (pf_X12_isSlot p0 σ) fun v1 σ2 =>
  on_Eq v1 0 (
    some ((-2), σ2)) (
    on_Ck p1 <|
    on_Cl (pf_X12_in p1 0 3 σ2) fun v3 σ4 =>
    on_Eq v3 0 (
      some ((-2), σ4)) (
      on_Le p2 60 (
        on_Lt p2 0 (
          some ((-3), σ4)) (
          on_Wr σ4 96 4 p0 p2 fun σ5 =>
          on_Wr σ5 97 4 p0 p1 fun σ6 =>
          pf_X12_row_52 on_N p0 0 σ6)) (
        some ((-2), σ4))))
set_option maxRecDepth 100000 in
set_option maxHeartbeats 4000000 in
theorem gl_X12_row_52 {E : on_E} {z n : Nat} (X : on_X) (hN : 100 ≤ n) : ∀ (nf : Nat) (l1 : Int) (l4 : Int) (σ : on_S), on_G X E cX12_row RX12 (some .int) 2 45 5 z n σ (pf_X12_row_52 nf l1 l4 σ) 52 [some (.ref (z + 77)), some (.int (on_i l1)), none, none, some (.int (on_i l4))] [] := by
  intro nf
  induction nf with
  | zero => intro l1 l4 σ; exact on_none
  | succ nf ih =>
    intro l1 l4 σ
    rw [pf_X12_row_52]
    refine on_il4 (tk_X12_row 30 rfl) ?_
    refine on_bipush (tk_X12_row 31 rfl) bp_60 ?_
    refine on_icmp_ge (tk_X12_row 32 rfl) (tgt := 78) (by decide) ?_ ?_
    · refine on_al0 (tk_X12_row 33 rfl) ?_
      refine fg_12_35 hN kw_6_175 (tk_X12_row 34 rfl) ?_
      refine on_bipush (tk_X12_row 35 rfl) bp_60 ?_
      refine on_il1 (tk_X12_row 36 rfl) ?_
      refine on_imul (tk_X12_row 37 rfl) ?_
      refine on_il4 (tk_X12_row 38 rfl) ?_
      refine on_iadd (tk_X12_row 39 rfl) ?_
      refine on_lconst0 (tk_X12_row 40 rfl) ?_
      refine on_last (ltc_98 hN) sh_98 (tk_X12_row 41 rfl) fun σ7 => ?_
      refine on_inc4 rfl (tk_X12_row 42 rfl) ?_
      refine on_goto (tk_X12_row 43 rfl) (tgt := 52) (by decide) ?_
      exact ih _ _ _
    · refine on_iconst (tk_X12_row 44 rfl) ?_
      exact on_iret (tk_X12_row 45 rfl)
set_option maxRecDepth 100000 in
set_option maxHeartbeats 4000000 in
theorem ct_X12_row {E : on_E} {z n : Nat} {p0 : Int} {p1 : Int} {p2 : Int} (hN : 100 ≤ n) {σ : on_S} : on_Sp E yX12_row cX12_row 5 (some .int) 2 45 z n [.ref (z + 77), .int (on_i p0), .int (on_i p1), .int (on_i p2)] σ (pf_X12_row p0 p1 p2 σ) := by
  refine on_met [some (.ref (z + 77)), some (.int (on_i p0)), some (.int (on_i p1)), some (.int (on_i p2)), none] (by decide) rfl rfl (fun X => ?_)
  rw [pf_X12_row]
  refine on_il1 (tk_X12_row 0 rfl) ?_
  refine on_cS1z ms_X12_isSlot kw_9_73 (ct_X12_isSlot hN) rfl (tk_X12_row 1 rfl) fun v1 σ2 => ?_
  refine on_if_eq (tk_X12_row 2 rfl) (tgt := 25) (by decide) ?_ ?_
  · refine on_il2 (tk_X12_row 3 rfl) ?_
    refine on_xi2l (tk_X12_row 4 rfl) ?_
    refine on_lconst0 (tk_X12_row 5 rfl) ?_
    refine on_ldc2 (a := 3) kw_7_174 (by decide +kernel) (tk_X12_row 6 rfl) ?_
    refine on_cS3z ms_X12_in kw_7_18 (ct_X12_in hN) rfl (tk_X12_row 7 rfl) fun v3 σ4 => ?_
    refine on_if_eq (tk_X12_row 8 rfl) (tgt := 25) (by decide) ?_ ?_
    · refine on_il3 (tk_X12_row 9 rfl) ?_
      refine on_bipush (tk_X12_row 10 rfl) bp_60 ?_
      refine on_icmp_le (tk_X12_row 11 rfl) (tgt := 28) (by decide) ?_ ?_
      · refine on_bipush (tk_X12_row 12 rfl) bp_m2 ?_
        exact on_iret (tk_X12_row 13 rfl)
      · refine on_il3 (tk_X12_row 14 rfl) ?_
        refine on_if_ge (tk_X12_row 15 rfl) (tgt := 35) (by decide) ?_ ?_
        · refine on_bipush (tk_X12_row 16 rfl) bp_m3 ?_
          exact on_iret (tk_X12_row 17 rfl)
        · refine on_al0 (tk_X12_row 18 rfl) ?_
          refine fg_12_33 hN kw_6_173 (tk_X12_row 19 rfl) ?_
          refine on_il1 (tk_X12_row 20 rfl) ?_
          refine on_il3 (tk_X12_row 21 rfl) ?_
          refine on_iast (ltc_96 hN) sh_96 (tk_X12_row 22 rfl) fun σ5 => ?_
          refine on_al0 (tk_X12_row 23 rfl) ?_
          refine fg_12_34 hN kw_6_174 (tk_X12_row 24 rfl) ?_
          refine on_il1 (tk_X12_row 25 rfl) ?_
          refine on_il2 (tk_X12_row 26 rfl) ?_
          refine on_iast (ltc_97 hN) sh_97 (tk_X12_row 27 rfl) fun σ6 => ?_
          refine on_iconst (tk_X12_row 28 rfl) ?_
          refine on_is4 rfl (tk_X12_row 29 rfl) ?_
          refine on_dr2 ?_
          refine on_dr3 ?_
          exact gl_X12_row_52 X  hN on_N _ _ _
    · refine on_bipush (tk_X12_row 12 rfl) bp_m2 ?_
      exact on_iret (tk_X12_row 13 rfl)
  · refine on_bipush (tk_X12_row 12 rfl) bp_m2 ?_
    exact on_iret (tk_X12_row 13 rfl)
def tb_X12_write : List (Nat × Nat × Nat × Instr) := [(0, 1, 1, .iload_n 1), (1, 3, 4, .invokestatic 449), (4, 3, 7, .ifCond .ne 6), (7, 2, 9, .bipush (-2)), (9, 1, 10, .ireturn), (10, 1, 11, .aload_n 0), (11, 3, 14, .getfield 70), (14, 1, 15, .iload_n 1), (15, 1, 16, .iaload), (16, 1, 17, .iconst (-1)), (17, 3, 20, .if_icmp .ne 6), (20, 2, 22, .bipush (-6)), (22, 1, 23, .ireturn), (23, 1, 24, .iload_n 2), (24, 1, 25, .i2l), (25, 1, 26, .lconst 0), (26, 1, 27, .aload_n 0), (27, 3, 30, .getfield 70), (30, 1, 31, .iload_n 1), (31, 1, 32, .iaload), (32, 1, 33, .iconst 1), (33, 1, 34, .isub), (34, 1, 35, .i2l), (35, 3, 38, .invokestatic 88), (38, 3, 41, .ifCond .ne 6), (41, 2, 43, .bipush (-7)), (43, 1, 44, .ireturn), (44, 1, 45, .aload_n 0), (45, 3, 48, .getfield 76), (48, 2, 50, .bipush 60), (50, 1, 51, .iload_n 1), (51, 1, 52, .imul), (52, 1, 53, .iload_n 2), (53, 1, 54, .iadd), (54, 1, 55, .lload_n 3), (55, 1, 56, .aload_n 0), (56, 3, 59, .getfield 73), (59, 1, 60, .iload_n 1), (60, 1, 61, .iaload), (61, 3, 64, .invokestatic 510), (64, 1, 65, .lastore), (65, 1, 66, .iconst 0), (66, 1, 67, .ireturn)]
set_option maxRecDepth 100000 in
theorem tk_X12_write (k : Nat) {pc n pc2 : Nat} {i : Instr} (hk : tb_X12_write[k]? = some (pc, n, pc2, i)) : on_dq cX12_write pc n pc2 i := on_ta (by decide +kernel) k hk
theorem ms_X12_write : on_Mv yX12_write cX12_write 5 (some .int) 3 := ⟨kw_9_179, kw_9_177, kw_9_178, kw_1_13, by decide, by decide, by decide +kernel⟩
def pf_X12_write (p0 : Int) (p1 : Int) (p2 : Int) (σ : on_S) : Option on_O :=
  on_Cl (pf_X12_isSlot p0 σ) fun v1 σ2 =>
  on_Eq v1 0 (
    some ((-2), σ2)) (
    on_Rd σ2 96 4 p0 fun v3 =>
    on_Eq v3 (-1) (
      some ((-6), σ2)) (
      on_Ck p1 <|
      on_Rd σ2 96 4 p0 fun v4 =>
      on_Ck (v4 - 1) <|
      on_Cl (pf_X12_in p1 0 (v4 - 1) σ2) fun v5 σ6 =>
      on_Eq v5 0 (
        some ((-7), σ6)) (
        on_Rd σ6 97 4 p0 fun v7 =>
        on_Cl (pf_X12_cut p2 v7 σ6) fun v8 σ9 =>
        on_Wr σ9 98 240 ((60 * p0) + p1) v8 fun σ10 =>
        some (0, σ10))))
set_option maxRecDepth 100000 in
set_option maxHeartbeats 4000000 in
theorem ct_X12_write {E : on_E} {z n : Nat} {p0 : Int} {p1 : Int} {p2 : Int} (hN : 100 ≤ n) {σ : on_S} : on_Sp E yX12_write cX12_write 5 (some .int) 2 45 z n [.ref (z + 77), .int (on_i p0), .int (on_i p1), .long (on_l p2)] σ (pf_X12_write p0 p1 p2 σ) := by
  refine on_met [some (.ref (z + 77)), some (.int (on_i p0)), some (.int (on_i p1)), some (.long (on_l p2)), none] (by decide) rfl rfl (fun X => ?_)
  rw [pf_X12_write]
  refine on_il1 (tk_X12_write 0 rfl) ?_
  refine on_cS1z ms_X12_isSlot kw_9_73 (ct_X12_isSlot hN) rfl (tk_X12_write 1 rfl) fun v1 σ2 => ?_
  refine on_if_ne (tk_X12_write 2 rfl) (tgt := 10) (by decide) ?_ ?_
  · refine on_bipush (tk_X12_write 3 rfl) bp_m2 ?_
    exact on_iret (tk_X12_write 4 rfl)
  · refine on_al0 (tk_X12_write 5 rfl) ?_
    refine fg_12_33 hN kw_6_173 (tk_X12_write 6 rfl) ?_
    refine on_il1 (tk_X12_write 7 rfl) ?_
    refine on_iald (ltc_96 hN) sh_96 (tk_X12_write 8 rfl) fun v3 => ?_
    refine on_iconst (tk_X12_write 9 rfl) ?_
    refine on_icmp_ne (tk_X12_write 10 rfl) (tgt := 23) (by decide) ?_ ?_
    · refine on_bipush (tk_X12_write 11 rfl) bp_m6 ?_
      exact on_iret (tk_X12_write 12 rfl)
    · refine on_il2 (tk_X12_write 13 rfl) ?_
      refine on_xi2l (tk_X12_write 14 rfl) ?_
      refine on_lconst0 (tk_X12_write 15 rfl) ?_
      refine on_al0 (tk_X12_write 16 rfl) ?_
      refine fg_12_33 hN kw_6_173 (tk_X12_write 17 rfl) ?_
      refine on_il1 (tk_X12_write 18 rfl) ?_
      refine on_iald (ltc_96 hN) sh_96 (tk_X12_write 19 rfl) fun v4 => ?_
      refine on_iconst (tk_X12_write 20 rfl) ?_
      refine on_isub (tk_X12_write 21 rfl) ?_
      refine on_xi2l (tk_X12_write 22 rfl) ?_
      refine on_cS3z ms_X12_in kw_7_18 (ct_X12_in hN) rfl (tk_X12_write 23 rfl) fun v5 σ6 => ?_
      refine on_if_ne (tk_X12_write 24 rfl) (tgt := 44) (by decide) ?_ ?_
      · refine on_bipush (tk_X12_write 25 rfl) bp_m7 ?_
        exact on_iret (tk_X12_write 26 rfl)
      · refine on_al0 (tk_X12_write 27 rfl) ?_
        refine fg_12_35 hN kw_6_175 (tk_X12_write 28 rfl) ?_
        refine on_bipush (tk_X12_write 29 rfl) bp_60 ?_
        refine on_il1 (tk_X12_write 30 rfl) ?_
        refine on_imul (tk_X12_write 31 rfl) ?_
        refine on_il2 (tk_X12_write 32 rfl) ?_
        refine on_iadd (tk_X12_write 33 rfl) ?_
        refine on_ll3 (tk_X12_write 34 rfl) ?_
        refine on_al0 (tk_X12_write 35 rfl) ?_
        refine fg_12_34 hN kw_6_174 (tk_X12_write 36 rfl) ?_
        refine on_il1 (tk_X12_write 37 rfl) ?_
        refine on_iald (ltc_97 hN) sh_97 (tk_X12_write 38 rfl) fun v7 => ?_
        refine on_cS2l ms_X12_cut kw_9_180 (ct_X12_cut hN) rfl (tk_X12_write 39 rfl) fun v8 σ9 => ?_
        refine on_last (ltc_98 hN) sh_98 (tk_X12_write 40 rfl) fun σ10 => ?_
        refine on_iconst (tk_X12_write 41 rfl) ?_
        exact on_iret (tk_X12_write 42 rfl)
