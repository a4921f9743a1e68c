def tb_X0_measure : List (Nat × Nat × Nat × Instr) := [(0, 1, 1, .iconst 0), (1, 1, 2, .istore_n 1), (2, 1, 3, .iload_n 1), (3, 1, 4, .aload_n 0), (4, 3, 7, .getfield 9), (7, 1, 8, .arraylength), (8, 3, 11, .if_icmp .ge 58), (11, 1, 12, .iload_n 1), (12, 1, 13, .iconst 4), (13, 1, 14, .idiv), (14, 1, 15, .iload_n 1), (15, 1, 16, .iconst 4), (16, 1, 17, .irem), (17, 3, 20, .if_icmp .ne 7), (20, 1, 21, .iconst 1), (21, 3, 24, .goto 4), (24, 1, 25, .iconst 0), (25, 1, 26, .istore_n 2), (26, 1, 27, .aload_n 0), (27, 3, 30, .getfield 15), (30, 3, 33, .getfield 19), (33, 1, 34, .iload_n 1), (34, 1, 35, .iaload), (35, 1, 36, .istore_n 3), (36, 1, 37, .aload_n 0), (37, 3, 40, .getfield 9), (40, 1, 41, .iload_n 1), (41, 1, 42, .iload_n 2), (42, 3, 45, .ifCond .eq 7), (45, 1, 46, .iconst 0), (46, 3, 49, .goto 13), (49, 1, 50, .iload_n 3), (50, 3, 53, .ifCond .ne 8), (53, 2, 55, .ldc 24), (55, 3, 58, .goto 4), (58, 1, 59, .iload_n 3), (59, 1, 60, .iastore), (60, 3, 63, .iinc 1 1), (63, 3, 66, .goto (-61)), (66, 1, 67, .iconst 0), (67, 1, 68, .istore_n 1), (68, 1, 69, .iload_n 1), (69, 1, 70, .iconst 4), (70, 3, 73, .if_icmp .ge 83), (73, 1, 74, .iconst 0), (74, 1, 75, .istore_n 2), (75, 1, 76, .iload_n 2), (76, 1, 77, .iconst 4), (77, 3, 80, .if_icmp .ge 70), (80, 1, 81, .iconst 0), (81, 1, 82, .istore_n 3), (82, 1, 83, .iload_n 3), (83, 1, 84, .iconst 4), (84, 3, 87, .if_icmp .ge 57), (87, 1, 88, .aload_n 0), (88, 3, 91, .getfield 9), (91, 1, 92, .iload_n 2), (92, 1, 93, .iconst 4), (93, 1, 94, .imul), (94, 1, 95, .iload_n 1), (95, 1, 96, .iadd), (96, 1, 97, .iaload), (97, 1, 98, .aload_n 0), (98, 3, 101, .getfield 9), (101, 1, 102, .iload_n 1), (102, 1, 103, .iconst 4), (103, 1, 104, .imul), (104, 1, 105, .iload_n 3), (105, 1, 106, .iadd), (106, 1, 107, .iaload), (107, 1, 108, .iadd), (108, 2, 110, .istore 4), (110, 1, 111, .aload_n 0), (111, 3, 114, .getfield 9), (114, 1, 115, .iload_n 2), (115, 1, 116, .iconst 4), (116, 1, 117, .imul), (117, 1, 118, .iload_n 3), (118, 1, 119, .iadd), (119, 1, 120, .aload_n 0), (120, 3, 123, .getfield 9), (123, 1, 124, .iload_n 2), (124, 1, 125, .iconst 4), (125, 1, 126, .imul), (126, 1, 127, .iload_n 3), (127, 1, 128, .iadd), (128, 1, 129, .iaload), (129, 2, 131, .iload 4), (131, 3, 134, .invokestatic 25), (134, 1, 135, .iastore), (135, 3, 138, .iinc 3 1), (138, 3, 141, .goto (-56)), (141, 3, 144, .iinc 2 1), (144, 3, 147, .goto (-69)), (147, 3, 150, .iinc 1 1), (150, 3, 153, .goto (-82)), (153, 1, 154, .return_)]
set_option maxRecDepth 100000 in
theorem tk_X0_measure (k : Nat) {pc n pc2 : Nat} {i : Instr} (hk : tb_X0_measure[k]? = some (pc, n, pc2, i)) : on_dq cX0_measure pc n pc2 i := on_ta (by decide +kernel) k hk
theorem ms_X0_measure : on_Mv yX0_measure cX0_measure 5 none 0 := ⟨kw_5_135, kw_5_133, kw_5_134, kw_1_9, by decide, by decide, by decide +kernel⟩
def pf_X0_measure_59 (k2 : Int → on_S → Option on_O) (l1 : Int) (s1 : Int) (s2 : Int) (σ : on_S) : Option on_O :=
  on_Wr σ 64 16 s1 s2 fun σ4 =>
  k2 (l1 + 1) σ4
def pf_X0_measure_25 (k2 : Int → on_S → Option on_O) (l1 : Int) (s0 : Int) (σ : on_S) : Option on_O :=
  on_Rd σ (2 + 7) 16 l1 fun v3 =>
  on_Eq s0 0 (
    on_Eq v3 0 (
      pf_X0_measure_59 k2 l1 l1 1000000 σ) (
      pf_X0_measure_59 k2 l1 l1 v3 σ)) (
    pf_X0_measure_59 k2 l1 l1 0 σ)
def pf_X0_measure_82 (k68 : Int → on_S → Option on_O) (k75 : Int → Int → on_S → Option on_O) : Nat → Int → Int → Int → on_S → Option on_O
  | 0, _, _, _, _ => none
  | nf + 1, l1, l2, l3, σ =>
    on_Lt l3 4 (
      on_Rd σ 64 16 ((l2 * 4) + l1) fun v5 =>
      on_Rd σ 64 16 ((l1 * 4) + l3) fun v6 =>
      on_Rd σ 64 16 ((l2 * 4) + l3) fun v7 =>
      on_Mn v7 (v5 + v6) fun v8 =>
      on_Wr σ 64 16 ((l2 * 4) + l3) v8 fun σ9 =>
      pf_X0_measure_82 k68 k75 nf l1 l2 (l3 + 1) σ9) (
      k75 l1 (l2 + 1) σ)
def pf_X0_measure_75 (k68 : Int → on_S → Option on_O) : Nat → Int → Int → on_S → Option on_O
  | 0, _, _, _ => none
  | nf + 1, l1, l2, σ =>
    on_Lt l2 4 (
      pf_X0_measure_82 k68 (pf_X0_measure_75 k68 nf) on_N l1 l2 0 σ) (
      k68 (l1 + 1) σ)
def pf_X0_measure_68 : Nat → Int → on_S → Option on_O
  | 0, _, _ => none
  | nf + 1, l1, σ =>
    on_Lt l1 4 (
      pf_X0_measure_75 (pf_X0_measure_68 nf) on_N l1 0 σ) (
      some (0, σ))
def pf_X0_measure_2 : Nat → Int → on_S → Option on_O
  | 0, _, _ => none
  | nf + 1, l1, σ =>
    on_Lt l1 ((16 : Nat) : Int) (
      on_Dv l1 4 fun v1 =>
      on_Rm l1 4 fun v2 =>
      on_Eq v1 v2 (
        pf_X0_measure_25 (pf_X0_measure_2 nf) l1 1 σ) (
        pf_X0_measure_25 (pf_X0_measure_2 nf) l1 0 σ)) (
      pf_X0_measure_68 on_N 0 σ)
def pf_X0_measure (σ : on_S) : Option on_O :=
  pf_X0_measure_2 on_N 0 σ
set_option maxRecDepth 100000 in
set_option maxHeartbeats 4000000 in
theorem gb_X0_measure_59 {E : on_E} {z n : Nat} (X : on_X) (k2 : Int → on_S → Option on_O) (hN : 100 ≤ n) (hk2 : ∀ (l1 : Int) (σ : on_S), on_G X E cX0_measure RX0 none 1 21 5 z n σ (k2 l1 σ) 2 [some (.ref (z + 63)), some (.int (on_i l1)), none, none, none] []) (l1 : Int) (s1 : Int) (s2 : Int) (σ : on_S) : on_G X E cX0_measure RX0 none 1 21 5 z n σ (pf_X0_measure_59 k2 l1 s1 s2 σ) 59 [some (.ref (z + 63)), some (.int (on_i l1)), none, none, none] [.int (on_i s2), .int (on_i s1), .ref (z + 64)] := by
  rw [pf_X0_measure_59]
  refine on_iast (ltc_64 hN) sh_64 (tk_X0_measure 36 rfl) fun σ4 => ?_
  refine on_inc1 rfl (tk_X0_measure 37 rfl) ?_
  refine on_goto (tk_X0_measure 38 rfl) (tgt := 2) (by decide) ?_
  exact hk2 _ _
set_option maxRecDepth 100000 in
set_option maxHeartbeats 4000000 in
theorem gb_X0_measure_25 {E : on_E} {z n : Nat} (X : on_X) (k2 : Int → on_S → Option on_O) (hN : 100 ≤ n) (hk2 : ∀ (l1 : Int) (σ : on_S), on_G X E cX0_measure RX0 none 1 21 5 z n σ (k2 l1 σ) 2 [some (.ref (z + 63)), some (.int (on_i l1)), none, none, none] []) (l1 : Int) (s0 : Int) (σ : on_S) : on_G X E cX0_measure RX0 none 1 21 5 z n σ (pf_X0_measure_25 k2 l1 s0 σ) 25 [some (.ref (z + 63)), some (.int (on_i l1)), none, none, none] [.int (on_i s0)] := by
  rw [pf_X0_measure_25]
  refine on_is2 rfl (tk_X0_measure 17 rfl) ?_
  refine on_al0 (tk_X0_measure 18 rfl) ?_
  refine fg_0_0 hN kw_2_105 (tk_X0_measure 19 rfl) ?_
  refine fg_9_11 (on_Sb2 hN) kw_1_184 (tk_X0_measure 20 rfl) ?_
  refine on_il1 (tk_X0_measure 21 rfl) ?_
  refine on_iald (ltS_7 (on_Sb2 hN)) (shS_7 (on_Sb2 hN)) (tk_X0_measure 22 rfl) fun v3 => ?_
  refine on_is3 rfl (tk_X0_measure 23 rfl) ?_
  refine on_al0 (tk_X0_measure 24 rfl) ?_
  refine fg_0_1 hN kw_2_106 (tk_X0_measure 25 rfl) ?_
  refine on_il1 (tk_X0_measure 26 rfl) ?_
  refine on_il2 (tk_X0_measure 27 rfl) ?_
  refine on_if_eq (tk_X0_measure 28 rfl) (tgt := 49) (by decide) ?_ ?_
  · refine on_iconst (tk_X0_measure 29 rfl) ?_
    refine on_goto (tk_X0_measure 30 rfl) (tgt := 59) (by decide) ?_
    refine on_dr2 ?_
    refine on_dr3 ?_
    exact gb_X0_measure_59 X _ hN hk2 _ _ _ _
  · refine on_il3 (tk_X0_measure 31 rfl) ?_
    refine on_if_ne (tk_X0_measure 32 rfl) (tgt := 58) (by decide) ?_ ?_
    · refine on_ldc (a := 1000000) kw_5_136 (by decide +kernel) (tk_X0_measure 33 rfl) ?_
      refine on_goto (tk_X0_measure 34 rfl) (tgt := 59) (by decide) ?_
      refine on_dr2 ?_
      refine on_dr3 ?_
      exact gb_X0_measure_59 X _ hN hk2 _ _ _ _
    · refine on_il3 (tk_X0_measure 35 rfl) ?_
      refine on_dr2 ?_
      refine on_dr3 ?_
      exact gb_X0_measure_59 X _ hN hk2 _ _ _ _
set_option maxRecDepth 100000 in
set_option maxHeartbeats 4000000 in
theorem gl_X0_measure_82 {E : on_E} {z n : Nat} (X : on_X) (k68 : Int → on_S → Option on_O) (k75 : Int → Int → on_S → Option on_O) (hN : 100 ≤ n) (hk68 : ∀ (l1 : Int) (σ : on_S), on_G X E cX0_measure RX0 none 1 21 5 z n σ (k68 l1 σ) 68 [some (.ref (z + 63)), some (.int (on_i l1)), none, none, none] []) (hk75 : ∀ (l1 : Int) (l2 : Int) (σ : on_S), on_G X E cX0_measure RX0 none 1 21 5 z n σ (k75 l1 l2 σ) 75 [some (.ref (z + 63)), some (.int (on_i l1)), some (.int (on_i l2)), none, none] []) : ∀ (nf : Nat) (l1 : Int) (l2 : Int) (l3 : Int) (σ : on_S), on_G X E cX0_measure RX0 none 1 21 5 z n σ (pf_X0_measure_82 k68 k75 nf l1 l2 l3 σ) 82 [some (.ref (z + 63)), some (.int (on_i l1)), some (.int (on_i l2)), some (.int (on_i l3)), none] [] := by
  intro nf
  induction nf with
  | zero => intro l1 l2 l3 σ; exact on_none
  | succ nf ih =>
    intro l1 l2 l3 σ
    rw [pf_X0_measure_82]
    refine on_il3 (tk_X0_measure 51 rfl) ?_
    refine on_iconst (tk_X0_measure 52 rfl) ?_
    refine on_icmp_ge (tk_X0_measure 53 rfl) (tgt := 141) (by decide) ?_ ?_
    · refine on_al0 (tk_X0_measure 54 rfl) ?_
      refine fg_0_1 hN kw_2_106 (tk_X0_measure 55 rfl) ?_
      refine on_il2 (tk_X0_measure 56 rfl) ?_
      refine on_iconst (tk_X0_measure 57 rfl) ?_
      refine on_imul (tk_X0_measure 58 rfl) ?_
      refine on_il1 (tk_X0_measure 59 rfl) ?_
      refine on_iadd (tk_X0_measure 60 rfl) ?_
      refine on_iald (ltc_64 hN) sh_64 (tk_X0_measure 61 rfl) fun v5 => ?_
      refine on_al0 (tk_X0_measure 62 rfl) ?_
      refine fg_0_1 hN kw_2_106 (tk_X0_measure 63 rfl) ?_
      refine on_il1 (tk_X0_measure 64 rfl) ?_
      refine on_iconst (tk_X0_measure 65 rfl) ?_
      refine on_imul (tk_X0_measure 66 rfl) ?_
      refine on_il3 (tk_X0_measure 67 rfl) ?_
      refine on_iadd (tk_X0_measure 68 rfl) ?_
      refine on_iald (ltc_64 hN) sh_64 (tk_X0_measure 69 rfl) fun v6 => ?_
      refine on_iadd (tk_X0_measure 70 rfl) ?_
      refine on_is4 rfl (tk_X0_measure 71 rfl) ?_
      refine on_al0 (tk_X0_measure 72 rfl) ?_
      refine fg_0_1 hN kw_2_106 (tk_X0_measure 73 rfl) ?_
      refine on_il2 (tk_X0_measure 74 rfl) ?_
      refine on_iconst (tk_X0_measure 75 rfl) ?_
      refine on_imul (tk_X0_measure 76 rfl) ?_
      refine on_il3 (tk_X0_measure 77 rfl) ?_
      refine on_iadd (tk_X0_measure 78 rfl) ?_
      refine on_al0 (tk_X0_measure 79 rfl) ?_
      refine fg_0_1 hN kw_2_106 (tk_X0_measure 80 rfl) ?_
      refine on_il2 (tk_X0_measure 81 rfl) ?_
      refine on_iconst (tk_X0_measure 82 rfl) ?_
      refine on_imul (tk_X0_measure 83 rfl) ?_
      refine on_il3 (tk_X0_measure 84 rfl) ?_
      refine on_iadd (tk_X0_measure 85 rfl) ?_
      refine on_iald (ltc_64 hN) sh_64 (tk_X0_measure 86 rfl) fun v7 => ?_
      refine on_il4 (tk_X0_measure 87 rfl) ?_
      refine on_min kw_5_137 kwM_min_s kwM_i kwM_min_c rfl (tk_X0_measure 88 rfl) fun v8 => ?_
      refine on_iast (ltc_64 hN) sh_64 (tk_X0_measure 89 rfl) fun σ9 => ?_
      refine on_inc3 rfl (tk_X0_measure 90 rfl) ?_
      refine on_goto (tk_X0_measure 91 rfl) (tgt := 82) (by decide) ?_
      refine on_dr4 ?_
      exact ih _ _ _ _
    · refine on_inc2 rfl (tk_X0_measure 92 rfl) ?_
      refine on_goto (tk_X0_measure 93 rfl) (tgt := 75) (by decide) ?_
      refine on_dr3 ?_
      exact hk75 _ _ _
set_option maxRecDepth 100000 in
set_option maxHeartbeats 4000000 in
theorem gl_X0_measure_75 {E : on_E} {z n : Nat} (X : on_X) (k68 : Int → on_S → Option on_O) (hN : 100 ≤ n) (hk68 : ∀ (l1 : Int) (σ : on_S), on_G X E cX0_measure RX0 none 1 21 5 z n σ (k68 l1 σ) 68 [some (.ref (z + 63)), some (.int (on_i l1)), none, none, none] []) : ∀ (nf : Nat) (l1 : Int) (l2 : Int) (σ : on_S), on_G X E cX0_measure RX0 none 1 21 5 z n σ (pf_X0_measure_75 k68 nf l1 l2 σ) 75 [some (.ref (z + 63)), some (.int (on_i l1)), some (.int (on_i l2)), none, none] [] := by
  intro nf
  induction nf with
  | zero => intro l1 l2 σ; exact on_none
  | succ nf ih =>
    intro l1 l2 σ
    rw [pf_X0_measure_75]
    refine on_il2 (tk_X0_measure 46 rfl) ?_
    refine on_iconst (tk_X0_measure 47 rfl) ?_
    refine on_icmp_ge (tk_X0_measure 48 rfl) (tgt := 147) (by decide) ?_ ?_
    · refine on_iconst (tk_X0_measure 49 rfl) ?_
      refine on_is3 rfl (tk_X0_measure 50 rfl) ?_
      exact gl_X0_measure_82 X _ _ hN hk68 ih on_N _ _ _ _
    · refine on_inc1 rfl (tk_X0_measure 94 rfl) ?_
      refine on_goto (tk_X0_measure 95 rfl) (tgt := 68) (by decide) ?_
      refine on_dr2 ?_
      exact hk68 _ _
set_option maxRecDepth 100000 in
set_option maxHeartbeats 4000000 in
theorem gl_X0_measure_68 {E : on_E} {z n : Nat} (X : on_X) (hN : 100 ≤ n) : ∀ (nf : Nat) (l1 : Int) (σ : on_S), on_G X E cX0_measure RX0 none 1 21 5 z n σ (pf_X0_measure_68 nf l1 σ) 68 [some (.ref (z + 63)), some (.int (on_i l1)), none, none, none] [] := by
  intro nf
  induction nf with
  | zero => intro l1 σ; exact on_none
  | succ nf ih =>
    intro l1 σ
    rw [pf_X0_measure_68]
    refine on_il1 (tk_X0_measure 41 rfl) ?_
    refine on_iconst (tk_X0_measure 42 rfl) ?_
    refine on_icmp_ge (tk_X0_measure 43 rfl) (tgt := 153) (by decide) ?_ ?_
    · refine on_iconst (tk_X0_measure 44 rfl) ?_
      refine on_is2 rfl (tk_X0_measure 45 rfl) ?_
      exact gl_X0_measure_75 X _ hN ih on_N _ _ _
    · exact on_vret (tk_X0_measure 96 rfl)
set_option maxRecDepth 100000 in
set_option maxHeartbeats 4000000 in
theorem gl_X0_measure_2 {E : on_E} {z n : Nat} (X : on_X) (hN : 100 ≤ n) : ∀ (nf : Nat) (l1 : Int) (σ : on_S), on_G X E cX0_measure RX0 none 1 21 5 z n σ (pf_X0_measure_2 nf l1 σ) 2 [some (.ref (z + 63)), some (.int (on_i l1)), none, none, none] [] := by
  intro nf
  induction nf with
  | zero => intro l1 σ; exact on_none
  | succ nf ih =>
    intro l1 σ
    rw [pf_X0_measure_2]
    refine on_il1 (tk_X0_measure 2 rfl) ?_
    refine on_al0 (tk_X0_measure 3 rfl) ?_
    refine fg_0_1 hN kw_2_106 (tk_X0_measure 4 rfl) ?_
    refine on_alen1 (N := 16) (ltc_64 hN) sh_64 (tk_X0_measure 5 rfl) ?_
    refine on_icmp_ge (tk_X0_measure 6 rfl) (tgt := 66) (by decide) ?_ ?_
    · refine on_il1 (tk_X0_measure 7 rfl) ?_
      refine on_iconst (tk_X0_measure 8 rfl) ?_
      refine on_idiv (tk_X0_measure 9 rfl) fun v1 => ?_
      refine on_il1 (tk_X0_measure 10 rfl) ?_
      refine on_iconst (tk_X0_measure 11 rfl) ?_
      refine on_irem (tk_X0_measure 12 rfl) fun v2 => ?_
      refine on_icmp_ne (tk_X0_measure 13 rfl) (tgt := 24) (by decide) ?_ ?_
      · refine on_iconst (tk_X0_measure 14 rfl) ?_
        refine on_goto (tk_X0_measure 15 rfl) (tgt := 25) (by decide) ?_
        exact gb_X0_measure_25 X _ hN ih _ _ _
      · refine on_iconst (tk_X0_measure 16 rfl) ?_
        exact gb_X0_measure_25 X _ hN ih _ _ _
    · refine on_iconst (tk_X0_measure 39 rfl) ?_
      refine on_is1 rfl (tk_X0_measure 40 rfl) ?_
      exact gl_X0_measure_68 X  hN on_N _ _
set_option maxRecDepth 100000 in
set_option maxHeartbeats 4000000 in
theorem ct_X0_measure {E : on_E} {z n : Nat} (hN : 100 ≤ n) {σ : on_S} : on_Sp E yX0_measure cX0_measure 5 none 1 21 z n [.ref (z + 63)] σ (pf_X0_measure  σ) := by
  refine on_met [some (.ref (z + 63)), none, none, none, none] (by decide) rfl rfl (fun X => ?_)
  rw [pf_X0_measure]
  refine on_iconst (tk_X0_measure 0 rfl) ?_
  refine on_is1 rfl (tk_X0_measure 1 rfl) ?_
  exact gl_X0_measure_2 X  hN on_N _ _
def tb_X0_minutesOf : List (Nat × Nat × Nat × Instr) := [(0, 1, 1, .aload_n 0), (1, 3, 4, .getfield 9), (4, 1, 5, .iload_n 1), (5, 1, 6, .iconst 4), (6, 1, 7, .imul), (7, 1, 8, .iload_n 2), (8, 1, 9, .iadd), (9, 1, 10, .iaload), (10, 1, 11, .istore_n 3), (11, 1, 12, .iload_n 3), (12, 2, 14, .ldc 24), (14, 3, 17, .if_icmp .lt 7), (17, 1, 18, .iconst (-1)), (18, 3, 21, .goto 4), (21, 1, 22, .iload_n 3), (22, 1, 23, .ireturn)]
set_option maxRecDepth 100000 in
theorem tk_X0_minutesOf (k : Nat) {pc n pc2 : Nat} {i : Instr} (hk : tb_X0_minutesOf[k]? = some (pc, n, pc2, i)) : on_dq cX0_minutesOf pc n pc2 i := on_ta (by decide +kernel) k hk
theorem ms_X0_minutesOf : on_Mv yX0_minutesOf cX0_minutesOf 4 (some .int) 2 := ⟨kw_5_141, kw_5_139, kw_5_140, kw_1_9, by decide, by decide, by decide +kernel⟩
def pf_X0_minutesOf (p0 : Int) (p1 : Int) (σ : on_S) : Option on_O :=
  on_Rd σ 64 16 ((p0 * 4) + p1) fun v1 =>
  on_Lt v1 1000000 (
    some (v1, σ)) (
    some ((-1), σ))
set_option maxRecDepth 100000 in
set_option maxHeartbeats 4000000 in
theorem ct_X0_minutesOf {E : on_E} {z n : Nat} {p0 : Int} {p1 : Int} (hN : 100 ≤ n) {σ : on_S} : on_Sp E yX0_minutesOf cX0_minutesOf 4 (some .int) 0 0 z n [.ref (z + 63), .int (on_i p0), .int (on_i p1)] σ (pf_X0_minutesOf p0 p1 σ) := by
  refine on_met [some (.ref (z + 63)), some (.int (on_i p0)), some (.int (on_i p1)), none] (by decide) rfl rfl (fun X => ?_)
  rw [pf_X0_minutesOf]
  refine on_al0 (tk_X0_minutesOf 0 rfl) ?_
  refine fg_0_1 hN kw_2_106 (tk_X0_minutesOf 1 rfl) ?_
  refine on_il1 (tk_X0_minutesOf 2 rfl) ?_
  refine on_iconst (tk_X0_minutesOf 3 rfl) ?_
  refine on_imul (tk_X0_minutesOf 4 rfl) ?_
  refine on_il2 (tk_X0_minutesOf 5 rfl) ?_
  refine on_iadd (tk_X0_minutesOf 6 rfl) ?_
  refine on_iald (ltc_64 hN) sh_64 (tk_X0_minutesOf 7 rfl) fun v1 => ?_
  refine on_is3 rfl (tk_X0_minutesOf 8 rfl) ?_
  refine on_il3 (tk_X0_minutesOf 9 rfl) ?_
  refine on_ldc (a := 1000000) kw_5_136 (by decide +kernel) (tk_X0_minutesOf 10 rfl) ?_
  refine on_icmp_lt (tk_X0_minutesOf 11 rfl) (tgt := 21) (by decide) ?_ ?_
  · refine on_iconst (tk_X0_minutesOf 12 rfl) ?_
    refine on_goto (tk_X0_minutesOf 13 rfl) (tgt := 22) (by decide) ?_
    exact on_iret (tk_X0_minutesOf 15 rfl)
  · refine on_il3 (tk_X0_minutesOf 14 rfl) ?_
    exact on_iret (tk_X0_minutesOf 15 rfl)
def tb_X0_stepTo : List (Nat × Nat × Nat × Instr) := [(0, 1, 1, .iload_n 1), (1, 1, 2, .iload_n 2), (2, 3, 5, .if_icmp .ne 5), (5, 1, 6, .iconst (-1)), (6, 1, 7, .ireturn), (7, 1, 8, .iconst 0), (8, 1, 9, .istore_n 3), (9, 1, 10, .iload_n 3), (10, 1, 11, .aload_n 0), (11, 3, 14, .getfield 15), (14, 3, 17, .getfield 37), (17, 3, 20, .if_icmp .ge 61), (20, 1, 21, .aload_n 0), (21, 3, 24, .getfield 15), (24, 3, 27, .getfield 19), (27, 1, 28, .iload_n 1), (28, 1, 29, .iconst 4), (29, 1, 30, .imul), (30, 1, 31, .iload_n 3), (31, 1, 32, .iadd), (32, 1, 33, .iaload), (33, 2, 35, .istore 4), (35, 1, 36, .aload_n 0), (36, 3, 39, .getfield 9), (39, 1, 40, .iload_n 3), (40, 1, 41, .iconst 4), (41, 1, 42, .imul), (42, 1, 43, .iload_n 2), (43, 1, 44, .iadd), (44, 1, 45, .iaload), (45, 2, 47, .istore 5), (47, 2, 49, .iload 4), (49, 3, 52, .ifCond .le 23), (52, 2, 54, .iload 4), (54, 2, 56, .iload 5), (56, 1, 57, .iadd), (57, 1, 58, .aload_n 0), (58, 3, 61, .getfield 9), (61, 1, 62, .iload_n 1), (62, 1, 63, .iconst 4), (63, 1, 64, .imul), (64, 1, 65, .iload_n 2), (65, 1, 66, .iadd), (66, 1, 67, .iaload), (67, 3, 70, .if_icmp .ne 5), (70, 1, 71, .iload_n 3), (71, 1, 72, .ireturn), (72, 3, 75, .iinc 3 1), (75, 3, 78, .goto (-66)), (78, 1, 79, .iconst (-1)), (79, 1, 80, .ireturn)]
set_option maxRecDepth 100000 in
theorem tk_X0_stepTo (k : Nat) {pc n pc2 : Nat} {i : Instr} (hk : tb_X0_stepTo[k]? = some (pc, n, pc2, i)) : on_dq cX0_stepTo pc n pc2 i := on_ta (by decide +kernel) k hk
theorem ms_X0_stepTo : on_Mv yX0_stepTo cX0_stepTo 6 (some .int) 2 := ⟨kw_5_154, kw_5_152, kw_5_153, kw_1_9, by decide, by decide, by decide +kernel⟩
def pf_X0_stepTo_9 : Nat → Int → Int → Int → on_S → Option on_O
  | 0, _, _, _, _ => none
  | nf + 1, l1, l2, l3, σ =>
    on_Gt σ 2 0 fun v1 =>
    on_Lt l3 v1 (
      on_Rd σ (2 + 7) 16 ((l1 * 4) + l3) fun v2 =>
      on_Rd σ 64 16 ((l3 * 4) + l2) fun v3 =>
      on_Le v2 0 (
        pf_X0_stepTo_9 nf l1 l2 (l3 + 1) σ) (
        on_Rd σ 64 16 ((l1 * 4) + l2) fun v4 =>
        on_Eq (v2 + v3) v4 (
          some (l3, σ)) (
          pf_X0_stepTo_9 nf l1 l2 (l3 + 1) σ))) (
      some ((-1), σ))
def pf_X0_stepTo (p0 : Int) (p1 : Int) (σ : on_S) : Option on_O :=
  on_Eq p0 p1 (
    some ((-1), σ)) (
    pf_X0_stepTo_9 on_N p0 p1 0 σ)
set_option maxRecDepth 100000 in
set_option maxHeartbeats 4000000 in
theorem gl_X0_stepTo_9 {E : on_E} {z n : Nat} (X : on_X) (hN : 100 ≤ n) : ∀ (nf : Nat) (l1 : Int) (l2 : Int) (l3 : Int) (σ : on_S), on_G X E cX0_stepTo RX0 (some .int) 0 0 6 z n σ (pf_X0_stepTo_9 nf l1 l2 l3 σ) 9 [some (.ref (z + 63)), some (.int (on_i l1)), some (.int (on_i l2)), some (.int (on_i l3)), none, none] [] := by
  intro nf
  induction nf with
  | zero => intro l1 l2 l3 σ; exact on_none
  | succ nf ih =>
    intro l1 l2 l3 σ
    rw [pf_X0_stepTo_9]
    refine on_il3 (tk_X0_stepTo 7 rfl) ?_
    refine on_al0 (tk_X0_stepTo 8 rfl) ?_
    refine fg_0_0 hN kw_2_105 (tk_X0_stepTo 9 rfl) ?_
    refine fg_9_0 (on_Sb2 hN) kw_1_153 (tk_X0_stepTo 10 rfl) fun v1 => ?_
    refine on_icmp_ge (tk_X0_stepTo 11 rfl) (tgt := 78) (by decide) ?_ ?_
    · refine on_al0 (tk_X0_stepTo 12 rfl) ?_
      refine fg_0_0 hN kw_2_105 (tk_X0_stepTo 13 rfl) ?_
      refine fg_9_11 (on_Sb2 hN) kw_1_184 (tk_X0_stepTo 14 rfl) ?_
      refine on_il1 (tk_X0_stepTo 15 rfl) ?_
      refine on_iconst (tk_X0_stepTo 16 rfl) ?_
      refine on_imul (tk_X0_stepTo 17 rfl) ?_
      refine on_il3 (tk_X0_stepTo 18 rfl) ?_
      refine on_iadd (tk_X0_stepTo 19 rfl) ?_
      refine on_iald (ltS_7 (on_Sb2 hN)) (shS_7 (on_Sb2 hN)) (tk_X0_stepTo 20 rfl) fun v2 => ?_
      refine on_is4 rfl (tk_X0_stepTo 21 rfl) ?_
      refine on_al0 (tk_X0_stepTo 22 rfl) ?_
      refine fg_0_1 hN kw_2_106 (tk_X0_stepTo 23 rfl) ?_
      refine on_il3 (tk_X0_stepTo 24 rfl) ?_
      refine on_iconst (tk_X0_stepTo 25 rfl) ?_
      refine on_imul (tk_X0_stepTo 26 rfl) ?_
      refine on_il2 (tk_X0_stepTo 27 rfl) ?_
      refine on_iadd (tk_X0_stepTo 28 rfl) ?_
      refine on_iald (ltc_64 hN) sh_64 (tk_X0_stepTo 29 rfl) fun v3 => ?_
      refine on_is5 rfl (tk_X0_stepTo 30 rfl) ?_
      refine on_il4 (tk_X0_stepTo 31 rfl) ?_
      refine on_if_le (tk_X0_stepTo 32 rfl) (tgt := 72) (by decide) ?_ ?_
      · refine on_il4 (tk_X0_stepTo 33 rfl) ?_
        refine on_il5 (tk_X0_stepTo 34 rfl) ?_
        refine on_iadd (tk_X0_stepTo 35 rfl) ?_
        refine on_al0 (tk_X0_stepTo 36 rfl) ?_
        refine fg_0_1 hN kw_2_106 (tk_X0_stepTo 37 rfl) ?_
        refine on_il1 (tk_X0_stepTo 38 rfl) ?_
        refine on_iconst (tk_X0_stepTo 39 rfl) ?_
        refine on_imul (tk_X0_stepTo 40 rfl) ?_
        refine on_il2 (tk_X0_stepTo 41 rfl) ?_
        refine on_iadd (tk_X0_stepTo 42 rfl) ?_
        refine on_iald (ltc_64 hN) sh_64 (tk_X0_stepTo 43 rfl) fun v4 => ?_
        refine on_icmp_ne (tk_X0_stepTo 44 rfl) (tgt := 72) (by decide) ?_ ?_
        · refine on_il3 (tk_X0_stepTo 45 rfl) ?_
          exact on_iret (tk_X0_stepTo 46 rfl)
        · refine on_inc3 rfl (tk_X0_stepTo 47 rfl) ?_
          refine on_goto (tk_X0_stepTo 48 rfl) (tgt := 9) (by decide) ?_
          refine on_dr4 ?_
          refine on_dr5 ?_
          exact ih _ _ _ _
      · refine on_inc3 rfl (tk_X0_stepTo 47 rfl) ?_
        refine on_goto (tk_X0_stepTo 48 rfl) (tgt := 9) (by decide) ?_
        refine on_dr4 ?_
        refine on_dr5 ?_
        exact ih _ _ _ _
    · refine on_iconst (tk_X0_stepTo 49 rfl) ?_
      exact on_iret (tk_X0_stepTo 50 rfl)
set_option maxRecDepth 100000 in
set_option maxHeartbeats 4000000 in
theorem ct_X0_stepTo {E : on_E} {z n : Nat} {p0 : Int} {p1 : Int} (hN : 100 ≤ n) {σ : on_S} : on_Sp E yX0_stepTo cX0_stepTo 6 (some .int) 0 0 z n [.ref (z + 63), .int (on_i p0), .int (on_i p1)] σ (pf_X0_stepTo p0 p1 σ) := by
  refine on_met [some (.ref (z + 63)), some (.int (on_i p0)), some (.int (on_i p1)), none, none, none] (by decide) rfl rfl (fun X => ?_)
  rw [pf_X0_stepTo]
  refine on_il1 (tk_X0_stepTo 0 rfl) ?_
  refine on_il2 (tk_X0_stepTo 1 rfl) ?_
  refine on_icmp_ne (tk_X0_stepTo 2 rfl) (tgt := 7) (by decide) ?_ ?_
  · refine on_iconst (tk_X0_stepTo 3 rfl) ?_
    exact on_iret (tk_X0_stepTo 4 rfl)
  · refine on_iconst (tk_X0_stepTo 5 rfl) ?_
    refine on_is3 rfl (tk_X0_stepTo 6 rfl) ?_
    exact gl_X0_stepTo_9 X  hN on_N _ _ _ _
def tb_X0_houseOnWay : List (Nat × Nat × Nat × Instr) := [(0, 1, 1, .iload_n 3), (1, 3, 4, .ifCond .lt 18), (4, 1, 5, .iload_n 3), (5, 1, 6, .iconst 4), (6, 3, 9, .if_icmp .ge 13), (9, 1, 10, .aload_n 0), (10, 1, 11, .iload_n 1), (11, 1, 12, .iload_n 2), (12, 3, 15, .invokevirtual 31), (15, 1, 16, .iconst (-1)), (16, 3, 19, .if_icmp .ne 5), (19, 1, 20, .iconst (-1)), (20, 1, 21, .ireturn), (21, 1, 22, .iload_n 1), (22, 2, 24, .istore 4), (24, 1, 25, .iconst 0), (25, 2, 27, .istore 5), (27, 2, 29, .iload 5), (29, 1, 30, .iload_n 3), (30, 3, 33, .if_icmp .ge 24), (33, 2, 35, .iload 4), (35, 1, 36, .iconst (-1)), (36, 3, 39, .if_icmp .eq 18), (39, 1, 40, .aload_n 0), (40, 2, 42, .iload 4), (42, 1, 43, .iload_n 2), (43, 3, 46, .invokevirtual 34), (46, 2, 48, .istore 4), (48, 3, 51, .iinc 5 1), (51, 3, 54, .goto (-24)), (54, 2, 56, .iload 4), (56, 1, 57, .ireturn)]
set_option maxRecDepth 100000 in
theorem tk_X0_houseOnWay (k : Nat) {pc n pc2 : Nat} {i : Instr} (hk : tb_X0_houseOnWay[k]? = some (pc, n, pc2, i)) : on_dq cX0_houseOnWay pc n pc2 i := on_ta (by decide +kernel) k hk
theorem ms_X0_houseOnWay : on_Mv yX0_houseOnWay cX0_houseOnWay 6 (some .int) 3 := ⟨kw_5_149, kw_5_147, kw_5_148, kw_1_9, by decide, by decide, by decide +kernel⟩
def pf_X0_houseOnWay_27 : Nat → Int → Int → Int → Int → on_S → Option on_O
  | 0, _, _, _, _, _ => none
  | nf + 1, l2, l3, l4, l5, σ =>
    on_Lt l5 l3 (
      on_Eq l4 (-1) (
        some (l4, σ)) (
        on_Cl (pf_X0_stepTo l4 l2 σ) fun v3 σ4 =>
        pf_X0_houseOnWay_27 nf l2 l3 v3 (l5 + 1) σ4)) (
      some (l4, σ))
def pf_X0_houseOnWay (p0 : Int) (p1 : Int) (p2 : Int) (σ : on_S) : Option on_O :=
  on_Lt p2 0 (
    some ((-1), σ)) (
    on_Lt p2 4 (
      on_Cl (pf_X0_minutesOf p0 p1 σ) fun v1 σ2 =>
      on_Eq v1 (-1) (
        some ((-1), σ2)) (
        pf_X0_houseOnWay_27 on_N p1 p2 p0 0 σ2)) (
      some ((-1), σ)))
set_option maxRecDepth 100000 in
set_option maxHeartbeats 4000000 in
theorem gl_X0_houseOnWay_27 {E : on_E} {z n : Nat} (X : on_X) (hN : 100 ≤ n) : ∀ (nf : Nat) (l2 : Int) (l3 : Int) (l4 : Int) (l5 : Int) (σ : on_S), on_G X E cX0_houseOnWay RX0 (some .int) 1 25 6 z n σ (pf_X0_houseOnWay_27 nf l2 l3 l4 l5 σ) 27 [some (.ref (z + 63)), none, some (.int (on_i l2)), some (.int (on_i l3)), some (.int (on_i l4)), some (.int (on_i l5))] [] := by
  intro nf
  induction nf with
  | zero => intro l2 l3 l4 l5 σ; exact on_none
  | succ nf ih =>
    intro l2 l3 l4 l5 σ
    rw [pf_X0_houseOnWay_27]
    refine on_il5 (tk_X0_houseOnWay 17 rfl) ?_
    refine on_il3 (tk_X0_houseOnWay 18 rfl) ?_
    refine on_icmp_ge (tk_X0_houseOnWay 19 rfl) (tgt := 54) (by decide) ?_ ?_
    · refine on_il4 (tk_X0_houseOnWay 20 rfl) ?_
      refine on_iconst (tk_X0_houseOnWay 21 rfl) ?_
      refine on_icmp_eq (tk_X0_houseOnWay 22 rfl) (tgt := 54) (by decide) ?_ ?_
      · refine on_al0 (tk_X0_houseOnWay 23 rfl) ?_
        refine on_il4 (tk_X0_houseOnWay 24 rfl) ?_
        refine on_il2 (tk_X0_houseOnWay 25 rfl) ?_
        refine on_cV2i 0 ms_X0_stepTo kw_5_151 rfl rfl (ltc_63 hN) sh_63 (ct_X0_stepTo hN) rfl (tk_X0_houseOnWay 26 rfl) fun v3 σ4 => ?_
        refine on_is4 rfl (tk_X0_houseOnWay 27 rfl) ?_
        refine on_inc5 rfl (tk_X0_houseOnWay 28 rfl) ?_
        refine on_goto (tk_X0_houseOnWay 29 rfl) (tgt := 27) (by decide) ?_
        exact ih _ _ _ _ _
      · refine on_il4 (tk_X0_houseOnWay 30 rfl) ?_
        exact on_iret (tk_X0_houseOnWay 31 rfl)
    · refine on_il4 (tk_X0_houseOnWay 30 rfl) ?_
      exact on_iret (tk_X0_houseOnWay 31 rfl)
set_option maxRecDepth 100000 in
set_option maxHeartbeats 4000000 in
theorem ct_X0_houseOnWay {E : on_E} {z n : Nat} {p0 : Int} {p1 : Int} {p2 : Int} (hN : 100 ≤ n) {σ : on_S} : on_Sp E yX0_houseOnWay cX0_houseOnWay 6 (some .int) 1 25 z n [.ref (z + 63), .int (on_i p0), .int (on_i p1), .int (on_i p2)] σ (pf_X0_houseOnWay p0 p1 p2 σ) := by
  refine on_met [some (.ref (z + 63)), some (.int (on_i p0)), some (.int (on_i p1)), some (.int (on_i p2)), none, none] (by decide) rfl rfl (fun X => ?_)
  rw [pf_X0_houseOnWay]
  refine on_il3 (tk_X0_houseOnWay 0 rfl) ?_
  refine on_if_lt (tk_X0_houseOnWay 1 rfl) (tgt := 19) (by decide) ?_ ?_
  · refine on_il3 (tk_X0_houseOnWay 2 rfl) ?_
    refine on_iconst (tk_X0_houseOnWay 3 rfl) ?_
    refine on_icmp_ge (tk_X0_houseOnWay 4 rfl) (tgt := 19) (by decide) ?_ ?_
    · refine on_al0 (tk_X0_houseOnWay 5 rfl) ?_
      refine on_il1 (tk_X0_houseOnWay 6 rfl) ?_
      refine on_il2 (tk_X0_houseOnWay 7 rfl) ?_
      refine on_cV2i 0 ms_X0_minutesOf kw_5_150 rfl rfl (ltc_63 hN) sh_63 (ct_X0_minutesOf hN) rfl (tk_X0_houseOnWay 8 rfl) fun v1 σ2 => ?_
      refine on_iconst (tk_X0_houseOnWay 9 rfl) ?_
      refine on_icmp_ne (tk_X0_houseOnWay 10 rfl) (tgt := 21) (by decide) ?_ ?_
      · refine on_iconst (tk_X0_houseOnWay 11 rfl) ?_
        exact on_iret (tk_X0_houseOnWay 12 rfl)
      · refine on_il1 (tk_X0_houseOnWay 13 rfl) ?_
        refine on_is4 rfl (tk_X0_houseOnWay 14 rfl) ?_
        refine on_iconst (tk_X0_houseOnWay 15 rfl) ?_
        refine on_is5 rfl (tk_X0_houseOnWay 16 rfl) ?_
        refine on_dr1 ?_
        exact gl_X0_houseOnWay_27 X  hN on_N _ _ _ _ _
    · refine on_iconst (tk_X0_houseOnWay 11 rfl) ?_
      exact on_iret (tk_X0_houseOnWay 12 rfl)
  · refine on_iconst (tk_X0_houseOnWay 11 rfl) ?_
    exact on_iret (tk_X0_houseOnWay 12 rfl)
def tb_X0_tillAllHear : List (Nat × Nat × Nat × Instr) := [(0, 1, 1, .iconst 0), (1, 1, 2, .istore_n 2), (2, 1, 3, .iconst 0), (3, 1, 4, .istore_n 3), (4, 1, 5, .iload_n 3), (5, 1, 6, .aload_n 0), (6, 3, 9, .getfield 15), (9, 3, 12, .getfield 37), (12, 3, 15, .if_icmp .ge 32), (15, 1, 16, .aload_n 0), (16, 1, 17, .iload_n 1), (17, 1, 18, .iload_n 3), (18, 3, 21, .invokevirtual 31), (21, 2, 23, .istore 4), (23, 2, 25, .iload 4), (25, 1, 26, .iconst (-1)), (26, 3, 29, .if_icmp .ne 5), (29, 1, 30, .iconst (-1)), (30, 1, 31, .ireturn), (31, 1, 32, .iload_n 2), (32, 2, 34, .iload 4), (34, 3, 37, .invokestatic 41), (37, 1, 38, .istore_n 2), (38, 3, 41, .iinc 3 1), (41, 3, 44, .goto (-37)), (44, 1, 45, .iload_n 2), (45, 1, 46, .ireturn)]
set_option maxRecDepth 100000 in
theorem tk_X0_tillAllHear (k : Nat) {pc n pc2 : Nat} {i : Instr} (hk : tb_X0_tillAllHear[k]? = some (pc, n, pc2, i)) : on_dq cX0_tillAllHear pc n pc2 i := on_ta (by decide +kernel) k hk
theorem ms_X0_tillAllHear : on_Mv yX0_tillAllHear cX0_tillAllHear 5 (some .int) 1 := ⟨kw_5_162, kw_5_160, kw_5_161, kw_1_9, by decide, by decide, by decide +kernel⟩
def pf_X0_tillAllHear_4 : Nat → Int → Int → Int → on_S → Option on_O
  | 0, _, _, _, _ => none
  | nf + 1, l1, l2, l3, σ =>
    on_Gt σ 2 0 fun v1 =>
    on_Lt l3 v1 (
      on_Cl (pf_X0_minutesOf l1 l3 σ) fun v2 σ3 =>
      on_Eq v2 (-1) (
        some ((-1), σ3)) (
        on_Mx l2 v2 fun v4 =>
        pf_X0_tillAllHear_4 nf l1 v4 (l3 + 1) σ3)) (
      some (l2, σ))
def pf_X0_tillAllHear (p0 : Int) (σ : on_S) : Option on_O :=
  pf_X0_tillAllHear_4 on_N p0 0 0 σ
set_option maxRecDepth 100000 in
set_option maxHeartbeats 4000000 in
theorem gl_X0_tillAllHear_4 {E : on_E} {z n : Nat} (X : on_X) (hN : 100 ≤ n) : ∀ (nf : Nat) (l1 : Int) (l2 : Int) (l3 : Int) (σ : on_S), on_G X E cX0_tillAllHear RX0 (some .int) 1 23 5 z n σ (pf_X0_tillAllHear_4 nf l1 l2 l3 σ) 4 [some (.ref (z + 63)), some (.int (on_i l1)), some (.int (on_i l2)), some (.int (on_i l3)), none] [] := by
  intro nf
  induction nf with
  | zero => intro l1 l2 l3 σ; exact on_none
  | succ nf ih =>
    intro l1 l2 l3 σ
    rw [pf_X0_tillAllHear_4]
    refine on_il3 (tk_X0_tillAllHear 4 rfl) ?_
    refine on_al0 (tk_X0_tillAllHear 5 rfl) ?_
    refine fg_0_0 hN kw_2_105 (tk_X0_tillAllHear 6 rfl) ?_
    refine fg_9_0 (on_Sb2 hN) kw_1_153 (tk_X0_tillAllHear 7 rfl) fun v1 => ?_
    refine on_icmp_ge (tk_X0_tillAllHear 8 rfl) (tgt := 44) (by decide) ?_ ?_
    · refine on_al0 (tk_X0_tillAllHear 9 rfl) ?_
      refine on_il1 (tk_X0_tillAllHear 10 rfl) ?_
      refine on_il3 (tk_X0_tillAllHear 11 rfl) ?_
      refine on_cV2i 0 ms_X0_minutesOf kw_5_150 rfl rfl (ltc_63 hN) sh_63 (ct_X0_minutesOf hN) rfl (tk_X0_tillAllHear 12 rfl) fun v2 σ3 => ?_
      refine on_is4 rfl (tk_X0_tillAllHear 13 rfl) ?_
      refine on_il4 (tk_X0_tillAllHear 14 rfl) ?_
      refine on_iconst (tk_X0_tillAllHear 15 rfl) ?_
      refine on_icmp_ne (tk_X0_tillAllHear 16 rfl) (tgt := 31) (by decide) ?_ ?_
      · refine on_iconst (tk_X0_tillAllHear 17 rfl) ?_
        exact on_iret (tk_X0_tillAllHear 18 rfl)
      · refine on_il2 (tk_X0_tillAllHear 19 rfl) ?_
        refine on_il4 (tk_X0_tillAllHear 20 rfl) ?_
        refine on_max kw_5_163 kwM_max_s kwM_i kwM_max_c rfl (tk_X0_tillAllHear 21 rfl) fun v4 => ?_
        refine on_is2 rfl (tk_X0_tillAllHear 22 rfl) ?_
        refine on_inc3 rfl (tk_X0_tillAllHear 23 rfl) ?_
        refine on_goto (tk_X0_tillAllHear 24 rfl) (tgt := 4) (by decide) ?_
        refine on_dr4 ?_
        exact ih _ _ _ _
    · refine on_il2 (tk_X0_tillAllHear 25 rfl) ?_
      exact on_iret (tk_X0_tillAllHear 26 rfl)
set_option maxRecDepth 100000 in
set_option maxHeartbeats 4000000 in
theorem ct_X0_tillAllHear {E : on_E} {z n : Nat} {p0 : Int} (hN : 100 ≤ n) {σ : on_S} : on_Sp E yX0_tillAllHear cX0_tillAllHear 5 (some .int) 1 23 z n [.ref (z + 63), .int (on_i p0)] σ (pf_X0_tillAllHear p0 σ) := by
  refine on_met [some (.ref (z + 63)), some (.int (on_i p0)), none, none, none] (by decide) rfl rfl (fun X => ?_)
  rw [pf_X0_tillAllHear]
  refine on_iconst (tk_X0_tillAllHear 0 rfl) ?_
  refine on_is2 rfl (tk_X0_tillAllHear 1 rfl) ?_
  refine on_iconst (tk_X0_tillAllHear 2 rfl) ?_
  refine on_is3 rfl (tk_X0_tillAllHear 3 rfl) ?_
  exact gl_X0_tillAllHear_4 X  hN on_N _ _ _ _
def tb_X5_begin : List (Nat × Nat × Nat × Instr) := [(0, 1, 1, .aload_n 0), (1, 3, 4, .getfield 15), (4, 3, 7, .invokevirtual 19), (7, 1, 8, .aload_n 0), (8, 3, 11, .getfield 15), (11, 3, 14, .getfield 24), (14, 3, 17, .getfield 28), (17, 1, 18, .iconst 0), (18, 1, 19, .aload_n 0), (19, 3, 22, .getfield 9), (22, 1, 23, .iconst 0), (23, 1, 24, .aload_n 0), (24, 3, 27, .getfield 9), (27, 1, 28, .arraylength), (28, 3, 31, .invokestatic 31), (31, 1, 32, .return_)]
set_option maxRecDepth 100000 in
theorem tk_X5_begin (k : Nat) {pc n pc2 : Nat} {i : Instr} (hk : tb_X5_begin[k]? = some (pc, n, pc2, i)) : on_dq cX5_begin pc n pc2 i := on_ta (by decide +kernel) k hk
theorem ms_X5_begin : on_Mv yX5_begin cX5_begin 1 none 0 := ⟨kw_4_173, kw_4_171, kw_4_172, kw_1_10, by decide, by decide, by decide +kernel⟩
def pf_X5_begin (σ : on_S) : Option on_O :=
  on_Cl (pf_X9_measureLeft 2 σ) fun _ σ2 =>
  on_Cp σ2 (2 + 18) 8 0 66 8 0 ((8 : Nat) : Int) fun σ3 =>
  some (0, σ3)
set_option maxRecDepth 100000 in
set_option maxHeartbeats 4000000 in
theorem ct_X5_begin {E : on_E} {z n : Nat} (hN : 100 ≤ n) {σ : on_S} : on_Sp E yX5_begin cX5_begin 1 none 3 71 z n [.ref (z + 65)] σ (pf_X5_begin  σ) := by
  refine on_met [some (.ref (z + 65))] (by decide) rfl rfl (fun X => ?_)
  rw [pf_X5_begin]
  refine on_al0 (tk_X5_begin 0 rfl) ?_
  refine fg_5_0 hN kw_2_118 (tk_X5_begin 1 rfl) ?_
  refine on_cV0v 9 ms_X9_measureLeft kw_4_174 rfl rfl (ltS_0 (on_Sb2 hN)) (shS_0 (on_Sb2 hN)) (ct_X9_measureLeft hN (on_Sb2 hN)) rfl (tk_X5_begin 2 rfl) fun v1 σ2 => ?_
  refine on_al0 (tk_X5_begin 3 rfl) ?_
  refine fg_5_0 hN kw_2_118 (tk_X5_begin 4 rfl) ?_
  refine fg_9_13 (on_Sb2 hN) kw_1_191 (tk_X5_begin 5 rfl) ?_
  refine fg_4_4 (on_Sb2 hN) kw_1_107 (tk_X5_begin 6 rfl) ?_
  refine on_iconst (tk_X5_begin 7 rfl) ?_
  refine on_al0 (tk_X5_begin 8 rfl) ?_
  refine fg_5_1 hN kw_2_119 (tk_X5_begin 9 rfl) ?_
  refine on_iconst (tk_X5_begin 10 rfl) ?_
  refine on_al0 (tk_X5_begin 11 rfl) ?_
  refine fg_5_1 hN kw_2_119 (tk_X5_begin 12 rfl) ?_
  refine on_alen1 (N := 8) (ltc_66 hN) sh_66 (tk_X5_begin 13 rfl) ?_
  refine on_acpi kw_4_175 kwA_n kwA_s kwA_i (ltS_18 (on_Sb2 hN)) (ltc_66 hN) (shS_18 (on_Sb2 hN)) sh_66 rfl (tk_X5_begin 14 rfl) fun σ3 => ?_
  exact on_vret (tk_X5_begin 15 rfl)
def tb_X5_giveKnotsBack : List (Nat × Nat × Nat × Instr) := [(0, 1, 1, .aload_n 0), (1, 3, 4, .getfield 9), (4, 1, 5, .iconst 0), (5, 1, 6, .aload_n 0), (6, 3, 9, .getfield 15), (9, 3, 12, .getfield 24), (12, 3, 15, .getfield 28), (15, 1, 16, .iconst 0), (16, 1, 17, .aload_n 0), (17, 3, 20, .getfield 9), (20, 1, 21, .arraylength), (21, 3, 24, .invokestatic 31), (24, 1, 25, .return_)]
set_option maxRecDepth 100000 in
theorem tk_X5_giveKnotsBack (k : Nat) {pc n pc2 : Nat} {i : Instr} (hk : tb_X5_giveKnotsBack[k]? = some (pc, n, pc2, i)) : on_dq cX5_giveKnotsBack pc n pc2 i := on_ta (by decide +kernel) k hk
theorem ms_X5_giveKnotsBack : on_Mv yX5_giveKnotsBack cX5_giveKnotsBack 1 none 0 := ⟨kw_4_180, kw_4_178, kw_4_179, kw_1_10, by decide, by decide, by decide +kernel⟩
def pf_X5_giveKnotsBack (σ : on_S) : Option on_O :=
  on_Cp σ 66 8 0 (2 + 18) 8 0 ((8 : Nat) : Int) fun σ1 =>
  some (0, σ1)
set_option maxRecDepth 100000 in
set_option maxHeartbeats 4000000 in
theorem ct_X5_giveKnotsBack {E : on_E} {z n : Nat} (hN : 100 ≤ n) {σ : on_S} : on_Sp E yX5_giveKnotsBack cX5_giveKnotsBack 1 none 1 26 z n [.ref (z + 65)] σ (pf_X5_giveKnotsBack  σ) := by
  refine on_met [some (.ref (z + 65))] (by decide) rfl rfl (fun X => ?_)
  rw [pf_X5_giveKnotsBack]
  refine on_al0 (tk_X5_giveKnotsBack 0 rfl) ?_
  refine fg_5_1 hN kw_2_119 (tk_X5_giveKnotsBack 1 rfl) ?_
  refine on_iconst (tk_X5_giveKnotsBack 2 rfl) ?_
  refine on_al0 (tk_X5_giveKnotsBack 3 rfl) ?_
  refine fg_5_0 hN kw_2_118 (tk_X5_giveKnotsBack 4 rfl) ?_
  refine fg_9_13 (on_Sb2 hN) kw_1_191 (tk_X5_giveKnotsBack 5 rfl) ?_
  refine fg_4_4 (on_Sb2 hN) kw_1_107 (tk_X5_giveKnotsBack 6 rfl) ?_
  refine on_iconst (tk_X5_giveKnotsBack 7 rfl) ?_
  refine on_al0 (tk_X5_giveKnotsBack 8 rfl) ?_
  refine fg_5_1 hN kw_2_119 (tk_X5_giveKnotsBack 9 rfl) ?_
  refine on_alen1 (N := 8) (ltc_66 hN) sh_66 (tk_X5_giveKnotsBack 10 rfl) ?_
  refine on_acpi kw_4_175 kwA_n kwA_s kwA_i (ltc_66 hN) (ltS_18 (on_Sb2 hN)) sh_66 (shS_18 (on_Sb2 hN)) rfl (tk_X5_giveKnotsBack 11 rfl) fun σ1 => ?_
  exact on_vret (tk_X5_giveKnotsBack 12 rfl)
def tb_X5_pass : List (Nat × Nat × Nat × Instr) := [(0, 1, 1, .aload_n 0), (1, 3, 4, .invokevirtual 37), (4, 1, 5, .aload_n 0), (5, 1, 6, .iconst 0), (6, 3, 9, .putfield 40), (9, 1, 10, .aload_n 0), (10, 1, 11, .iconst (-1)), (11, 3, 14, .putfield 44), (14, 1, 15, .lload_n 1), (15, 2, 17, .lstore 4), (17, 1, 18, .iconst 0), (18, 2, 20, .istore 6), (20, 2, 22, .iload 6), (22, 1, 23, .iload_n 3), (23, 3, 26, .if_icmp .ge 119), (26, 1, 27, .aload_n 0), (27, 3, 30, .getfield 15), (30, 3, 33, .getfield 47), (33, 3, 36, .ifCond .le 109), (36, 3, 39, .ldc2_w 50), (39, 2, 41, .lload 4), (41, 1, 42, .lmul), (42, 3, 45, .ldc2_w 52), (45, 1, 46, .ladd), (46, 3, 49, .ldc2_w 54), (49, 1, 50, .lrem), (50, 2, 52, .lstore 4), (52, 2, 54, .lload 4), (54, 3, 57, .ldc2_w 56), (57, 1, 58, .ldiv), (58, 1, 59, .aload_n 0), (59, 3, 62, .getfield 15), (62, 3, 65, .getfield 47), (65, 1, 66, .i2l), (66, 1, 67, .lrem), (67, 1, 68, .l2i), (68, 2, 70, .istore 7), (70, 1, 71, .aload_n 0), (71, 3, 74, .getfield 15), (74, 2, 76, .iload 7), (76, 3, 79, .invokevirtual 58), (79, 2, 81, .istore 8), (81, 2, 83, .iload 8), (83, 1, 84, .iconst (-1)), (84, 3, 87, .if_icmp .eq 38), (87, 1, 88, .aload_n 0), (88, 3, 91, .getfield 15), (91, 2, 93, .iload 8), (93, 1, 94, .aload_n 0), (94, 3, 97, .getfield 15), (97, 2, 99, .iload 7), (99, 3, 102, .invokevirtual 62), (102, 3, 105, .invokevirtual 65), (105, 1, 106, .iconst (-1)), (106, 3, 109, .if_icmp .ne 16), (109, 1, 110, .aload_n 0), (110, 1, 111, .dup), (111, 3, 114, .getfield 40), (114, 1, 115, .iconst 1), (115, 1, 116, .iadd), (116, 3, 119, .putfield 40), (119, 3, 122, .goto 17), (122, 1, 123, .aload_n 0), (123, 3, 126, .getfield 44), (126, 1, 127, .iconst (-1)), (127, 3, 130, .if_icmp .ne 9), (130, 1, 131, .aload_n 0), (131, 2, 133, .iload 6), (133, 3, 136, .putfield 44), (136, 3, 139, .iinc 6 1), (139, 3, 142, .goto (-119)), (142, 1, 143, .aload_n 0), (143, 3, 146, .invokevirtual 69), (146, 1, 147, .return_)]
set_option maxRecDepth 100000 in
theorem tk_X5_pass (k : Nat) {pc n pc2 : Nat} {i : Instr} (hk : tb_X5_pass[k]? = some (pc, n, pc2, i)) : on_dq cX5_pass pc n pc2 i := on_ta (by decide +kernel) k hk
theorem ms_X5_pass : on_Mv yX5_pass cX5_pass 9 none 2 := ⟨kw_6_82, kw_6_80, kw_6_81, kw_1_10, by decide, by decide, by decide +kernel⟩
def pf_X5_pass_122 (k20 : Int → Int → Int → on_S → Option on_O) (l3 : Int) (l4 : Int) (l6 : Int) (σ : on_S) : Option on_O :=
  on_Gt σ 65 3 fun v18 =>
  on_Eq v18 (-1) (
    on_Pt σ 65 3 l6 fun σ19 =>
    k20 l3 l4 (l6 + 1) σ19) (
    k20 l3 l4 (l6 + 1) σ)
def pf_X5_pass_142 (σ : on_S) : Option on_O :=
  on_Cl (pf_X5_giveKnotsBack σ) fun _ σ21 =>
  some (0, σ21)
def pf_X5_pass_20 : Nat → Int → Int → Int → on_S → Option on_O
  | 0, _, _, _, _ => none
  | nf + 1, l3, l4, l6, σ =>
    on_Lt l6 l3 (
      on_Gt σ 2 7 fun v5 =>
      on_Le v5 0 (
        pf_X5_pass_142 σ) (
        on_RmL ((1103515245 * l4) + 12345) 2147483648 fun v6 =>
        on_DvL v6 65536 fun v7 =>
        on_Gt σ 2 7 fun v8 =>
        on_Ck v8 <|
        on_RmL v7 v8 fun v9 =>
        on_Cl (pf_X9_netBelow 2 v9 σ) fun v10 σ11 =>
        on_Eq v10 (-1) (
          pf_X5_pass_122 (pf_X5_pass_20 nf) l3 v6 l6 σ11) (
          on_Cl (pf_X9_forceOf 2 v9 σ11) fun v12 σ13 =>
          on_Cl (pf_X9_fallInto 2 v10 v12 σ13) fun v14 σ15 =>
          on_Eq v14 (-1) (
            on_Gt σ15 65 2 fun v16 =>
            on_Pt σ15 65 2 (v16 + 1) fun σ17 =>
            pf_X5_pass_20 nf l3 v6 (l6 + 1) σ17) (
            pf_X5_pass_122 (pf_X5_pass_20 nf) l3 v6 l6 σ15)))) (
      pf_X5_pass_142 σ)
def pf_X5_pass (p0 : Int) (p1 : Int) (σ : on_S) : Option on_O :=
  on_Cl (pf_X5_begin σ) fun _ σ2 =>
  on_Pt σ2 65 2 0 fun σ3 =>
  on_Pt σ3 65 3 (-1) fun σ4 =>
  pf_X5_pass_20 on_N p1 p0 0 σ4
set_option maxRecDepth 100000 in
set_option maxHeartbeats 4000000 in
theorem gb_X5_pass_122 {E : on_E} {z n : Nat} (X : on_X) (k20 : Int → Int → Int → on_S → Option on_O) (hN : 100 ≤ n) (hk20 : ∀ (l3 : Int) (l4 : Int) (l6 : Int) (σ : on_S), on_G X E cX5_pass RX5 none 4 91 9 z n σ (k20 l3 l4 l6 σ) 20 [some (.ref (z + 65)), none, none, some (.int (on_i l3)), some (.long (on_l l4)), none, some (.int (on_i l6)), none, none] []) (l3 : Int) (l4 : Int) (l6 : Int) (σ : on_S) : on_G X E cX5_pass RX5 none 4 91 9 z n σ (pf_X5_pass_122 k20 l3 l4 l6 σ) 122 [some (.ref (z + 65)), none, none, some (.int (on_i l3)), some (.long (on_l l4)), none, some (.int (on_i l6)), none, none] [] := by
  rw [pf_X5_pass_122]
  refine on_al0 (tk_X5_pass 62 rfl) ?_
  refine fg_5_3 hN kw_2_122 (tk_X5_pass 63 rfl) fun v18 => ?_
  refine on_iconst (tk_X5_pass 64 rfl) ?_
  refine on_icmp_ne (tk_X5_pass 65 rfl) (tgt := 136) (by decide) ?_ ?_
  · refine on_al0 (tk_X5_pass 66 rfl) ?_
    refine on_il6 (tk_X5_pass 67 rfl) ?_
    refine fp_5_3 hN kw_2_122 (tk_X5_pass 68 rfl) fun σ19 => ?_
    refine on_inc6 rfl (tk_X5_pass 69 rfl) ?_
    refine on_goto (tk_X5_pass 70 rfl) (tgt := 20) (by decide) ?_
    exact hk20 _ _ _ _
  · refine on_inc6 rfl (tk_X5_pass 69 rfl) ?_
    refine on_goto (tk_X5_pass 70 rfl) (tgt := 20) (by decide) ?_
    exact hk20 _ _ _ _
set_option maxRecDepth 100000 in
set_option maxHeartbeats 4000000 in
theorem gb_X5_pass_142 {E : on_E} {z n : Nat} (X : on_X) (hN : 100 ≤ n) (σ : on_S) : on_G X E cX5_pass RX5 none 4 91 9 z n σ (pf_X5_pass_142  σ) 142 [some (.ref (z + 65)), none, none, none, none, none, none, none, none] [] := by
  rw [pf_X5_pass_142]
  refine on_al0 (tk_X5_pass 71 rfl) ?_
  refine on_cV0v 5 ms_X5_giveKnotsBack kw_4_177 rfl rfl (ltc_65 hN) sh_65 (ct_X5_giveKnotsBack hN) rfl (tk_X5_pass 72 rfl) fun v20 σ21 => ?_
  exact on_vret (tk_X5_pass 73 rfl)
set_option maxRecDepth 100000 in
set_option maxHeartbeats 4000000 in
theorem gl_X5_pass_20 {E : on_E} {z n : Nat} (X : on_X) (hN : 100 ≤ n) : ∀ (nf : Nat) (l3 : Int) (l4 : Int) (l6 : Int) (σ : on_S), on_G X E cX5_pass RX5 none 4 91 9 z n σ (pf_X5_pass_20 nf l3 l4 l6 σ) 20 [some (.ref (z + 65)), none, none, some (.int (on_i l3)), some (.long (on_l l4)), none, some (.int (on_i l6)), none, none] [] := by
  intro nf
  induction nf with
  | zero => intro l3 l4 l6 σ; exact on_none
  | succ nf ih =>
    intro l3 l4 l6 σ
    rw [pf_X5_pass_20]
    refine on_il6 (tk_X5_pass 12 rfl) ?_
    refine on_il3 (tk_X5_pass 13 rfl) ?_
    refine on_icmp_ge (tk_X5_pass 14 rfl) (tgt := 142) (by decide) ?_ ?_
    · refine on_al0 (tk_X5_pass 15 rfl) ?_
      refine fg_5_0 hN kw_2_118 (tk_X5_pass 16 rfl) ?_
      refine fg_9_7 (on_Sb2 hN) kw_1_174 (tk_X5_pass 17 rfl) fun v5 => ?_
      refine on_if_le (tk_X5_pass 18 rfl) (tgt := 142) (by decide) ?_ ?_
      · refine on_ldc2 (a := 1103515245) kw_6_83 (by decide +kernel) (tk_X5_pass 19 rfl) ?_
        refine on_ll4 (tk_X5_pass 20 rfl) ?_
        refine on_lmul (tk_X5_pass 21 rfl) ?_
        refine on_ldc2 (a := 12345) kw_6_84 (by decide +kernel) (tk_X5_pass 22 rfl) ?_
        refine on_ladd (tk_X5_pass 23 rfl) ?_
        refine on_ldc2 (a := 2147483648) kw_6_85 (by decide +kernel) (tk_X5_pass 24 rfl) ?_
        refine on_lrem (tk_X5_pass 25 rfl) fun v6 => ?_
        refine on_ls4 rfl (tk_X5_pass 26 rfl) ?_
        refine on_ll4 (tk_X5_pass 27 rfl) ?_
        refine on_ldc2 (a := 65536) kw_6_86 (by decide +kernel) (tk_X5_pass 28 rfl) ?_
        refine on_ldiv (tk_X5_pass 29 rfl) fun v7 => ?_
        refine on_al0 (tk_X5_pass 30 rfl) ?_
        refine fg_5_0 hN kw_2_118 (tk_X5_pass 31 rfl) ?_
        refine fg_9_7 (on_Sb2 hN) kw_1_174 (tk_X5_pass 32 rfl) fun v8 => ?_
        refine on_xi2l (tk_X5_pass 33 rfl) ?_
        refine on_lrem (tk_X5_pass 34 rfl) fun v9 => ?_
        refine on_xl2i (tk_X5_pass 35 rfl) ?_
        refine on_is7 rfl (tk_X5_pass 36 rfl) ?_
        refine on_al0 (tk_X5_pass 37 rfl) ?_
        refine fg_5_0 hN kw_2_118 (tk_X5_pass 38 rfl) ?_
        refine on_il7 (tk_X5_pass 39 rfl) ?_
        refine on_cV1i 9 ms_X9_netBelow kw_6_87 rfl rfl (ltS_0 (on_Sb2 hN)) (shS_0 (on_Sb2 hN)) (ct_X9_netBelow hN (on_Sb2 hN)) rfl (tk_X5_pass 40 rfl) fun v10 σ11 => ?_
        refine on_is8 rfl (tk_X5_pass 41 rfl) ?_
        refine on_il8 (tk_X5_pass 42 rfl) ?_
        refine on_iconst (tk_X5_pass 43 rfl) ?_
        refine on_icmp_eq (tk_X5_pass 44 rfl) (tgt := 122) (by decide) ?_ ?_
        · refine on_al0 (tk_X5_pass 45 rfl) ?_
          refine fg_5_0 hN kw_2_118 (tk_X5_pass 46 rfl) ?_
          refine on_il8 (tk_X5_pass 47 rfl) ?_
          refine on_al0 (tk_X5_pass 48 rfl) ?_
          refine fg_5_0 hN kw_2_118 (tk_X5_pass 49 rfl) ?_
          refine on_il7 (tk_X5_pass 50 rfl) ?_
          refine on_cV1i 9 ms_X9_forceOf kw_6_88 rfl rfl (ltS_0 (on_Sb2 hN)) (shS_0 (on_Sb2 hN)) (ct_X9_forceOf hN (on_Sb2 hN)) rfl (tk_X5_pass 51 rfl) fun v12 σ13 => ?_
          refine on_cV2i 9 ms_X9_fallInto kw_4_176 rfl rfl (ltS_0 (on_Sb2 hN)) (shS_0 (on_Sb2 hN)) (ct_X9_fallInto hN (on_Sb2 hN)) rfl (tk_X5_pass 52 rfl) fun v14 σ15 => ?_
          refine on_iconst (tk_X5_pass 53 rfl) ?_
          refine on_icmp_ne (tk_X5_pass 54 rfl) (tgt := 122) (by decide) ?_ ?_
          · refine on_al0 (tk_X5_pass 55 rfl) ?_
            refine on_dup rfl (tk_X5_pass 56 rfl) ?_
            refine fg_5_2 hN kw_2_120 (tk_X5_pass 57 rfl) fun v16 => ?_
            refine on_iconst (tk_X5_pass 58 rfl) ?_
            refine on_iadd (tk_X5_pass 59 rfl) ?_
            refine fp_5_2 hN kw_2_120 (tk_X5_pass 60 rfl) fun σ17 => ?_
            refine on_goto (tk_X5_pass 61 rfl) (tgt := 136) (by decide) ?_
            refine on_inc6 rfl (tk_X5_pass 69 rfl) ?_
            refine on_goto (tk_X5_pass 70 rfl) (tgt := 20) (by decide) ?_
            refine on_dr7 ?_
            refine on_dr8 ?_
            exact ih _ _ _ _
          · refine on_dr7 ?_
            refine on_dr8 ?_
            exact gb_X5_pass_122 X _ hN ih _ _ _ _
        · refine on_dr7 ?_
          refine on_dr8 ?_
          exact gb_X5_pass_122 X _ hN ih _ _ _ _
      · refine on_dr3 ?_
        refine on_dr4 ?_
        refine on_dr6 ?_
        exact gb_X5_pass_142 X  hN _
    · refine on_dr3 ?_
      refine on_dr4 ?_
      refine on_dr6 ?_
      exact gb_X5_pass_142 X  hN _
set_option maxRecDepth 100000 in
set_option maxHeartbeats 4000000 in
theorem ct_X5_pass {E : on_E} {z n : Nat} {p0 : Int} {p1 : Int} (hN : 100 ≤ n) {σ : on_S} : on_Sp E yX5_pass cX5_pass 9 none 4 91 z n [.ref (z + 65), .long (on_l p0), .int (on_i p1)] σ (pf_X5_pass p0 p1 σ) := by
  refine on_met [some (.ref (z + 65)), some (.long (on_l p0)), none, some (.int (on_i p1)), none, none, none, none, none] (by decide) rfl rfl (fun X => ?_)
  rw [pf_X5_pass]
  refine on_al0 (tk_X5_pass 0 rfl) ?_
  refine on_cV0v 5 ms_X5_begin kw_4_170 rfl rfl (ltc_65 hN) sh_65 (ct_X5_begin hN) rfl (tk_X5_pass 1 rfl) fun v1 σ2 => ?_
  refine on_al0 (tk_X5_pass 2 rfl) ?_
  refine on_iconst (tk_X5_pass 3 rfl) ?_
  refine fp_5_2 hN kw_2_120 (tk_X5_pass 4 rfl) fun σ3 => ?_
  refine on_al0 (tk_X5_pass 5 rfl) ?_
  refine on_iconst (tk_X5_pass 6 rfl) ?_
  refine fp_5_3 hN kw_2_122 (tk_X5_pass 7 rfl) fun σ4 => ?_
  refine on_ll1 (tk_X5_pass 8 rfl) ?_
  refine on_ls4 rfl (tk_X5_pass 9 rfl) ?_
  refine on_iconst (tk_X5_pass 10 rfl) ?_
  refine on_is6 rfl (tk_X5_pass 11 rfl) ?_
  refine on_dr1 ?_
  exact gl_X5_pass_20 X  hN on_N _ _ _ _
def tb_X5_jumpsHeld : List (Nat × Nat × Nat × Instr) := [(0, 1, 1, .aload_n 0), (1, 3, 4, .getfield 15), (4, 3, 7, .getfield 24), (7, 3, 10, .getfield 72), (10, 1, 11, .iload_n 1), (11, 1, 12, .iaload), (12, 3, 15, .ifCond .ne 23), (15, 1, 16, .iload_n 2), (16, 1, 17, .aload_n 0), (17, 3, 20, .getfield 15), (20, 1, 21, .iload_n 1), (21, 3, 24, .invokevirtual 75), (24, 3, 27, .if_icmp .gt 9), (27, 3, 30, .sipush 999), (30, 3, 33, .goto 4), (33, 1, 34, .iconst 0), (34, 1, 35, .ireturn), (35, 1, 36, .aload_n 0), (36, 3, 39, .invokevirtual 37), (39, 1, 40, .iconst 0), (40, 1, 41, .istore_n 3), (41, 1, 42, .iload_n 3), (42, 3, 45, .sipush 999), (45, 3, 48, .if_icmp .ge 22), (48, 1, 49, .aload_n 0), (49, 3, 52, .getfield 15), (52, 1, 53, .iload_n 1), (53, 1, 54, .iload_n 2), (54, 3, 57, .invokevirtual 65), (57, 1, 58, .iconst (-1)), (58, 3, 61, .if_icmp .ne 9), (61, 3, 64, .iinc 3 1), (64, 3, 67, .goto (-23)), (67, 1, 68, .aload_n 0), (68, 3, 71, .invokevirtual 69), (71, 1, 72, .iload_n 3), (72, 1, 73, .ireturn)]
set_option maxRecDepth 100000 in
theorem tk_X5_jumpsHeld (k : Nat) {pc n pc2 : Nat} {i : Instr} (hk : tb_X5_jumpsHeld[k]? = some (pc, n, pc2, i)) : on_dq cX5_jumpsHeld pc n pc2 i := on_ta (by decide +kernel) k hk
theorem ms_X5_jumpsHeld : on_Mv yX5_jumpsHeld cX5_jumpsHeld 4 (some .int) 2 := ⟨kw_4_168, kw_4_166, kw_4_167, kw_1_10, by decide, by decide, by decide +kernel⟩
def pf_X5_jumpsHeld_67 (l3 : Int) (σ : on_S) : Option on_O :=
  on_Cl (pf_X5_giveKnotsBack σ) fun _ σ9 =>
  some (l3, σ9)
def pf_X5_jumpsHeld_41 : Nat → Int → Int → Int → on_S → Option on_O
  | 0, _, _, _, _ => none
  | nf + 1, l1, l2, l3, σ =>
    on_Lt l3 999 (
      on_Cl (pf_X9_fallInto 2 l1 l2 σ) fun v6 σ7 =>
      on_Eq v6 (-1) (
        pf_X5_jumpsHeld_41 nf l1 l2 (l3 + 1) σ7) (
        pf_X5_jumpsHeld_67 l3 σ7)) (
      pf_X5_jumpsHeld_67 l3 σ)
def pf_X5_jumpsHeld (p0 : Int) (p1 : Int) (σ : on_S) : Option on_O :=
  on_Rd σ (2 + 16) 2 p0 fun v1 =>
  on_Eq v1 0 (
    on_Cl (pf_X9_carriedNow 2 p0 σ) fun v2 σ3 =>
    on_Le p1 v2 (
      some (999, σ3)) (
      some (0, σ3))) (
    on_Cl (pf_X5_begin σ) fun _ σ5 =>
    pf_X5_jumpsHeld_41 on_N p0 p1 0 σ5)
set_option maxRecDepth 100000 in
set_option maxHeartbeats 4000000 in
theorem gb_X5_jumpsHeld_67 {E : on_E} {z n : Nat} (X : on_X) (hN : 100 ≤ n) (l3 : Int) (σ : on_S) : on_G X E cX5_jumpsHeld RX5 (some .int) 5 120 4 z n σ (pf_X5_jumpsHeld_67 l3 σ) 67 [some (.ref (z + 65)), none, none, some (.int (on_i l3))] [] := by
  rw [pf_X5_jumpsHeld_67]
  refine on_al0 (tk_X5_jumpsHeld 33 rfl) ?_
  refine on_cV0v 5 ms_X5_giveKnotsBack kw_4_177 rfl rfl (ltc_65 hN) sh_65 (ct_X5_giveKnotsBack hN) rfl (tk_X5_jumpsHeld 34 rfl) fun v8 σ9 => ?_
  refine on_il3 (tk_X5_jumpsHeld 35 rfl) ?_
  exact on_iret (tk_X5_jumpsHeld 36 rfl)
set_option maxRecDepth 100000 in
set_option maxHeartbeats 4000000 in
theorem gl_X5_jumpsHeld_41 {E : on_E} {z n : Nat} (X : on_X) (hN : 100 ≤ n) : ∀ (nf : Nat) (l1 : Int) (l2 : Int) (l3 : Int) (σ : on_S), on_G X E cX5_jumpsHeld RX5 (some .int) 5 120 4 z n σ (pf_X5_jumpsHeld_41 nf l1 l2 l3 σ) 41 [some (.ref (z + 65)), some (.int (on_i l1)), some (.int (on_i l2)), some (.int (on_i l3))] [] := by
  intro nf
  induction nf with
  | zero => intro l1 l2 l3 σ; exact on_none
  | succ nf ih =>
    intro l1 l2 l3 σ
    rw [pf_X5_jumpsHeld_41]
    refine on_il3 (tk_X5_jumpsHeld 21 rfl) ?_
    refine on_sipush (tk_X5_jumpsHeld 22 rfl) sp_999 ?_
    refine on_icmp_ge (tk_X5_jumpsHeld 23 rfl) (tgt := 67) (by decide) ?_ ?_
    · refine on_al0 (tk_X5_jumpsHeld 24 rfl) ?_
      refine fg_5_0 hN kw_2_118 (tk_X5_jumpsHeld 25 rfl) ?_
      refine on_il1 (tk_X5_jumpsHeld 26 rfl) ?_
      refine on_il2 (tk_X5_jumpsHeld 27 rfl) ?_
      refine on_cV2i 9 ms_X9_fallInto kw_4_176 rfl rfl (ltS_0 (on_Sb2 hN)) (shS_0 (on_Sb2 hN)) (ct_X9_fallInto hN (on_Sb2 hN)) rfl (tk_X5_jumpsHeld 28 rfl) fun v6 σ7 => ?_
      refine on_iconst (tk_X5_jumpsHeld 29 rfl) ?_
      refine on_icmp_ne (tk_X5_jumpsHeld 30 rfl) (tgt := 67) (by decide) ?_ ?_
      · refine on_inc3 rfl (tk_X5_jumpsHeld 31 rfl) ?_
        refine on_goto (tk_X5_jumpsHeld 32 rfl) (tgt := 41) (by decide) ?_
        exact ih _ _ _ _
      · refine on_dr1 ?_
        refine on_dr2 ?_
        exact gb_X5_jumpsHeld_67 X  hN _ _
    · refine on_dr1 ?_
      refine on_dr2 ?_
      exact gb_X5_jumpsHeld_67 X  hN _ _
set_option maxRecDepth 100000 in
set_option maxHeartbeats 4000000 in
theorem ct_X5_jumpsHeld {E : on_E} {z n : Nat} {p0 : Int} {p1 : Int} (hN : 100 ≤ n) {σ : on_S} : on_Sp E yX5_jumpsHeld cX5_jumpsHeld 4 (some .int) 5 120 z n [.ref (z + 65), .int (on_i p0), .int (on_i p1)] σ (pf_X5_jumpsHeld p0 p1 σ) := by
  refine on_met [some (.ref (z + 65)), some (.int (on_i p0)), some (.int (on_i p1)), none] (by decide) rfl rfl (fun X => ?_)
  rw [pf_X5_jumpsHeld]
  refine on_al0 (tk_X5_jumpsHeld 0 rfl) ?_
  refine fg_5_0 hN kw_2_118 (tk_X5_jumpsHeld 1 rfl) ?_
  refine fg_9_13 (on_Sb2 hN) kw_1_191 (tk_X5_jumpsHeld 2 rfl) ?_
  refine fg_4_2 (on_Sb2 hN) kw_1_97 (tk_X5_jumpsHeld 3 rfl) ?_
  refine on_il1 (tk_X5_jumpsHeld 4 rfl) ?_
  refine on_iald (ltS_16 (on_Sb2 hN)) (shS_16 (on_Sb2 hN)) (tk_X5_jumpsHeld 5 rfl) fun v1 => ?_
  refine on_if_ne (tk_X5_jumpsHeld 6 rfl) (tgt := 35) (by decide) ?_ ?_
  · refine on_il2 (tk_X5_jumpsHeld 7 rfl) ?_
    refine on_al0 (tk_X5_jumpsHeld 8 rfl) ?_
    refine fg_5_0 hN kw_2_118 (tk_X5_jumpsHeld 9 rfl) ?_
    refine on_il1 (tk_X5_jumpsHeld 10 rfl) ?_
    refine on_cV1i 9 ms_X9_carriedNow kw_4_169 rfl rfl (ltS_0 (on_Sb2 hN)) (shS_0 (on_Sb2 hN)) (ct_X9_carriedNow hN (on_Sb2 hN)) rfl (tk_X5_jumpsHeld 11 rfl) fun v2 σ3 => ?_
    refine on_icmp_gt (tk_X5_jumpsHeld 12 rfl) (tgt := 33) (by decide) ?_ ?_
    · refine on_sipush (tk_X5_jumpsHeld 13 rfl) sp_999 ?_
      refine on_goto (tk_X5_jumpsHeld 14 rfl) (tgt := 34) (by decide) ?_
      exact on_iret (tk_X5_jumpsHeld 16 rfl)
    · refine on_iconst (tk_X5_jumpsHeld 15 rfl) ?_
      exact on_iret (tk_X5_jumpsHeld 16 rfl)
  · refine on_al0 (tk_X5_jumpsHeld 17 rfl) ?_
    refine on_cV0v 5 ms_X5_begin kw_4_170 rfl rfl (ltc_65 hN) sh_65 (ct_X5_begin hN) rfl (tk_X5_jumpsHeld 18 rfl) fun v4 σ5 => ?_
    refine on_iconst (tk_X5_jumpsHeld 19 rfl) ?_
    refine on_is3 rfl (tk_X5_jumpsHeld 20 rfl) ?_
    exact gl_X5_jumpsHeld_41 X  hN on_N _ _ _ _
def tb_X10_understands : List (Nat × Nat × Nat × Instr) := [(0, 1, 1, .aload_n 1), (1, 3, 4, .getfield 19), (4, 1, 5, .iconst 3), (5, 1, 6, .irem), (6, 3, 9, .ifCond .eq 5), (9, 1, 10, .iconst 0), (10, 1, 11, .ireturn), (11, 1, 12, .iconst 0), (12, 1, 13, .istore_n 2), (13, 1, 14, .iload_n 2), (14, 1, 15, .iconst 2), (15, 1, 16, .iadd), (16, 1, 17, .aload_n 1), (17, 3, 20, .getfield 19), (20, 3, 23, .if_icmp .ge 77), (23, 1, 24, .aload_n 1), (24, 3, 27, .getfield 25), (27, 1, 28, .iload_n 2), (28, 1, 29, .laload), (29, 1, 30, .lstore_n 3), (30, 1, 31, .aload_n 1), (31, 3, 34, .getfield 25), (34, 1, 35, .iload_n 2), (35, 1, 36, .iconst 2), (36, 1, 37, .iadd), (37, 1, 38, .laload), (38, 2, 40, .lstore 5), (40, 1, 41, .lload_n 3), (41, 1, 42, .lconst 0), (42, 1, 43, .lcmp), (43, 3, 46, .ifCond .lt 46), (46, 1, 47, .lload_n 3), (47, 1, 48, .aload_n 0), (48, 3, 51, .getfield 15), (51, 3, 54, .getfield 29), (54, 3, 57, .getfield 35), (57, 1, 58, .i2l), (58, 1, 59, .lcmp), (59, 3, 62, .ifCond .ge 30), (62, 1, 63, .aload_n 1), (63, 3, 66, .getfield 25), (66, 1, 67, .iload_n 2), (67, 1, 68, .iconst 1), (68, 1, 69, .iadd), (69, 1, 70, .laload), (70, 1, 71, .lconst 0), (71, 1, 72, .lcmp), (72, 3, 75, .ifCond .lt 17), (75, 2, 77, .lload 5), (77, 1, 78, .lconst 0), (78, 1, 79, .lcmp), (79, 3, 82, .ifCond .lt 10), (82, 2, 84, .lload 5), (84, 1, 85, .lconst 1), (85, 1, 86, .lcmp), (86, 3, 89, .ifCond .le 5), (89, 1, 90, .iconst 0), (90, 1, 91, .ireturn), (91, 3, 94, .iinc 2 3), (94, 3, 97, .goto (-81)), (97, 1, 98, .iconst 1), (98, 1, 99, .ireturn)]
set_option maxRecDepth 100000 in
theorem tk_X10_understands (k : Nat) {pc n pc2 : Nat} {i : Instr} (hk : tb_X10_understands[k]? = some (pc, n, pc2, i)) : on_dq cX10_understands pc n pc2 i := on_ta (by decide +kernel) k hk
theorem ms_X10_understands : on_Mv yX10_understands cX10_understands 7 (some .boolean) 1 := ⟨kw_5_219, kw_5_217, kw_5_218, kw_1_11, by decide, by decide, by decide +kernel⟩
def pf_X10_understands_13 (p0 : Nat) : Nat → Int → on_S → Option on_O
  | 0, _, _ => none
  | nf + 1, l2, σ =>
    on_Gt σ p0 1 fun v3 =>
    on_Lt (l2 + 2) v3 (
      on_Rd σ (p0 + 1) 60 l2 fun v4 =>
      on_Rd σ (p0 + 1) 60 (l2 + 2) fun v5 =>
      on_LtL v4 0 (
        some (0, σ)) (
        on_Gt σ (2 + 14) 0 fun v6 =>
        on_Ck v6 <|
        on_LtL v4 v6 (
          on_Rd σ (p0 + 1) 60 (l2 + 1) fun v7 =>
          on_LtL v7 0 (
            some (0, σ)) (
            on_LtL v5 0 (
              some (0, σ)) (
              on_LeL v5 1 (
                pf_X10_understands_13 p0 nf (l2 + 3) σ) (
                some (0, σ))))) (
          some (0, σ)))) (
      some (1, σ))
def pf_X10_understands (p0 : Nat) (σ : on_S) : Option on_O :=
  on_Gt σ p0 1 fun v1 =>
  on_Rm v1 3 fun v2 =>
  on_Eq v2 0 (
    pf_X10_understands_13 p0 on_N 0 σ) (
    some (0, σ))
set_option maxRecDepth 100000 in
set_option maxHeartbeats 4000000 in
theorem gl_X10_understands_13 {E : on_E} {z n : Nat} (X : on_X) (p0 : Nat) (hN : 100 ≤ n) (ho0 : on_Lb p0) : ∀ (nf : Nat) (l2 : Int) (σ : on_S), on_G X E cX10_understands RX10 (some .boolean) 0 0 7 z n σ (pf_X10_understands_13 p0 nf l2 σ) 13 [some (.ref (z + 67)), some (.ref (z + p0)), some (.int (on_i l2)), none, none, none, none] [] := by
  intro nf
  induction nf with
  | zero => intro l2 σ; exact on_none
  | succ nf ih =>
    intro l2 σ
    rw [pf_X10_understands_13]
    refine on_il2 (tk_X10_understands 9 rfl) ?_
    refine on_iconst (tk_X10_understands 10 rfl) ?_
    refine on_iadd (tk_X10_understands 11 rfl) ?_
    refine on_al1 (tk_X10_understands 12 rfl) ?_
    refine fg_8_1 hN ho0 kw_2_165 (tk_X10_understands 13 rfl) fun v3 => ?_
    refine on_icmp_ge (tk_X10_understands 14 rfl) (tgt := 97) (by decide) ?_ ?_
    · refine on_al1 (tk_X10_understands 15 rfl) ?_
      refine fg_8_2 hN ho0 kw_2_169 (tk_X10_understands 16 rfl) ?_
      refine on_il2 (tk_X10_understands 17 rfl) ?_
      refine on_lald (ltL_1 hN ho0) (shL_1 ho0) (tk_X10_understands 18 rfl) fun v4 => ?_
      refine on_ls3 rfl (tk_X10_understands 19 rfl) ?_
      refine on_al1 (tk_X10_understands 20 rfl) ?_
      refine fg_8_2 hN ho0 kw_2_169 (tk_X10_understands 21 rfl) ?_
      refine on_il2 (tk_X10_understands 22 rfl) ?_
      refine on_iconst (tk_X10_understands 23 rfl) ?_
      refine on_iadd (tk_X10_understands 24 rfl) ?_
      refine on_lald (ltL_1 hN ho0) (shL_1 ho0) (tk_X10_understands 25 rfl) fun v5 => ?_
      refine on_ls5 rfl (tk_X10_understands 26 rfl) ?_
      refine on_ll3 (tk_X10_understands 27 rfl) ?_
      refine on_lconst0 (tk_X10_understands 28 rfl) ?_
      refine on_lcmp_lt (tk_X10_understands 29 rfl) (tk_X10_understands 30 rfl) (tgt := 89) (by decide) ?_ ?_
      · refine on_ll3 (tk_X10_understands 31 rfl) ?_
        refine on_al0 (tk_X10_understands 32 rfl) ?_
        refine fg_10_0 hN kw_2_139 (tk_X10_understands 33 rfl) ?_
        refine fg_9_13 (on_Sb2 hN) kw_1_192 (tk_X10_understands 34 rfl) ?_
        refine fg_4_0 (on_Sb2 hN) kw_1_87 (tk_X10_understands 35 rfl) fun v6 => ?_
        refine on_xi2l (tk_X10_understands 36 rfl) ?_
        refine on_lcmp_ge (tk_X10_understands 37 rfl) (tk_X10_understands 38 rfl) (tgt := 89) (by decide) ?_ ?_
        · refine on_al1 (tk_X10_understands 39 rfl) ?_
          refine fg_8_2 hN ho0 kw_2_169 (tk_X10_understands 40 rfl) ?_
          refine on_il2 (tk_X10_understands 41 rfl) ?_
          refine on_iconst (tk_X10_understands 42 rfl) ?_
          refine on_iadd (tk_X10_understands 43 rfl) ?_
          refine on_lald (ltL_1 hN ho0) (shL_1 ho0) (tk_X10_understands 44 rfl) fun v7 => ?_
          refine on_lconst0 (tk_X10_understands 45 rfl) ?_
          refine on_lcmp_lt (tk_X10_understands 46 rfl) (tk_X10_understands 47 rfl) (tgt := 89) (by decide) ?_ ?_
          · refine on_ll5 (tk_X10_understands 48 rfl) ?_
            refine on_lconst0 (tk_X10_understands 49 rfl) ?_
            refine on_lcmp_lt (tk_X10_understands 50 rfl) (tk_X10_understands 51 rfl) (tgt := 89) (by decide) ?_ ?_
            · refine on_ll5 (tk_X10_understands 52 rfl) ?_
              refine on_lconst1 (tk_X10_understands 53 rfl) ?_
              refine on_lcmp_le (tk_X10_understands 54 rfl) (tk_X10_understands 55 rfl) (tgt := 91) (by decide) ?_ ?_
              · refine on_iconst (tk_X10_understands 56 rfl) ?_
                exact on_zret0 (tk_X10_understands 57 rfl)
              · refine on_inc2 rfl (tk_X10_understands 58 rfl) ?_
                refine on_goto (tk_X10_understands 59 rfl) (tgt := 13) (by decide) ?_
                refine on_dr3 ?_
                refine on_dr5 ?_
                exact ih _ _
            · refine on_iconst (tk_X10_understands 56 rfl) ?_
              exact on_zret0 (tk_X10_understands 57 rfl)
          · refine on_iconst (tk_X10_understands 56 rfl) ?_
            exact on_zret0 (tk_X10_understands 57 rfl)
        · refine on_iconst (tk_X10_understands 56 rfl) ?_
          exact on_zret0 (tk_X10_understands 57 rfl)
      · refine on_iconst (tk_X10_understands 56 rfl) ?_
        exact on_zret0 (tk_X10_understands 57 rfl)
    · refine on_iconst (tk_X10_understands 60 rfl) ?_
      exact on_zret1 (tk_X10_understands 61 rfl)
set_option maxRecDepth 100000 in
set_option maxHeartbeats 4000000 in
theorem ct_X10_understands {E : on_E} {z n : Nat} {p0 : Nat} (hN : 100 ≤ n) (ho0 : on_Lb p0) {σ : on_S} : on_Sp E yX10_understands cX10_understands 7 (some .boolean) 0 0 z n [.ref (z + 67), .ref (z + p0)] σ (pf_X10_understands p0 σ) := by
  refine on_met [some (.ref (z + 67)), some (.ref (z + p0)), none, none, none, none, none] (by decide) rfl rfl (fun X => ?_)
  rw [pf_X10_understands]
  refine on_al1 (tk_X10_understands 0 rfl) ?_
  refine fg_8_1 hN ho0 kw_2_165 (tk_X10_understands 1 rfl) fun v1 => ?_
  refine on_iconst (tk_X10_understands 2 rfl) ?_
  refine on_irem (tk_X10_understands 3 rfl) fun v2 => ?_
  refine on_if_eq (tk_X10_understands 4 rfl) (tgt := 11) (by decide) ?_ ?_
  · refine on_iconst (tk_X10_understands 5 rfl) ?_
    exact on_zret0 (tk_X10_understands 6 rfl)
  · refine on_iconst (tk_X10_understands 7 rfl) ?_
    refine on_is2 rfl (tk_X10_understands 8 rfl) ?_
    exact gl_X10_understands_13 X _ hN ho0 on_N _ _
def tb_X10_measure : List (Nat × Nat × Nat × Instr) := [(0, 1, 1, .iconst 0), (1, 1, 2, .istore_n 1), (2, 1, 3, .iload_n 1), (3, 1, 4, .aload_n 0), (4, 3, 7, .getfield 15), (7, 3, 10, .getfield 29), (10, 3, 13, .getfield 35), (13, 3, 16, .if_icmp .ge 47), (16, 1, 17, .aload_n 0), (17, 3, 20, .getfield 9), (20, 1, 21, .iconst 2), (21, 1, 22, .iload_n 1), (22, 1, 23, .imul), (23, 1, 24, .aload_n 0), (24, 3, 27, .getfield 15), (27, 1, 28, .iload_n 1), (28, 1, 29, .iconst 0), (29, 1, 30, .iconst 0), (30, 3, 33, .invokevirtual 56), (33, 1, 34, .iastore), (34, 1, 35, .aload_n 0), (35, 3, 38, .getfield 9), (38, 1, 39, .iconst 2), (39, 1, 40, .iload_n 1), (40, 1, 41, .imul), (41, 1, 42, .iconst 1), (42, 1, 43, .iadd), (43, 1, 44, .aload_n 0), (44, 3, 47, .getfield 15), (47, 1, 48, .iload_n 1), (48, 1, 49, .iconst 1), (49, 1, 50, .iconst 0), (50, 3, 53, .invokevirtual 56), (53, 1, 54, .iastore), (54, 3, 57, .iinc 1 1), (57, 3, 60, .goto (-55)), (60, 1, 61, .return_)]
set_option maxRecDepth 100000 in
theorem tk_X10_measure (k : Nat) {pc n pc2 : Nat} {i : Instr} (hk : tb_X10_measure[k]? = some (pc, n, pc2, i)) : on_dq cX10_measure pc n pc2 i := on_ta (by decide +kernel) k hk
theorem ms_X10_measure : on_Mv yX10_measure cX10_measure 2 none 0 := ⟨kw_5_227, kw_5_225, kw_5_226, kw_1_11, by decide, by decide, by decide +kernel⟩
def pf_X10_measure_2 : Nat → Int → on_S → Option on_O
  | 0, _, _ => none
  | nf + 1, l1, σ =>
    on_Gt σ (2 + 14) 0 fun v1 =>
    on_Lt l1 v1 (
      on_Cl (pf_X9_carriedIf 2 l1 0 0 σ) fun v2 σ3 =>
      on_Wr σ3 68 4 (2 * l1) v2 fun σ4 =>
      on_Cl (pf_X9_carriedIf 2 l1 1 0 σ4) fun v5 σ6 =>
      on_Wr σ6 68 4 ((2 * l1) + 1) v5 fun σ7 =>
      pf_X10_measure_2 nf (l1 + 1) σ7) (
      some (0, σ))
def pf_X10_measure (σ : on_S) : Option on_O :=
  pf_X10_measure_2 on_N 0 σ
set_option maxRecDepth 100000 in
set_option maxHeartbeats 4000000 in
theorem gl_X10_measure_2 {E : on_E} {z n : Nat} (X : on_X) (hN : 100 ≤ n) : ∀ (nf : Nat) (l1 : Int) (σ : on_S), on_G X E cX10_measure RX10 none 4 99 2 z n σ (pf_X10_measure_2 nf l1 σ) 2 [some (.ref (z + 67)), some (.int (on_i l1))] [] := by
  intro nf
  induction nf with
  | zero => intro l1 σ; exact on_none
  | succ nf ih =>
    intro l1 σ
    rw [pf_X10_measure_2]
    refine on_il1 (tk_X10_measure 2 rfl) ?_
    refine on_al0 (tk_X10_measure 3 rfl) ?_
    refine fg_10_0 hN kw_2_139 (tk_X10_measure 4 rfl) ?_
    refine fg_9_13 (on_Sb2 hN) kw_1_192 (tk_X10_measure 5 rfl) ?_
    refine fg_4_0 (on_Sb2 hN) kw_1_87 (tk_X10_measure 6 rfl) fun v1 => ?_
    refine on_icmp_ge (tk_X10_measure 7 rfl) (tgt := 60) (by decide) ?_ ?_
    · refine on_al0 (tk_X10_measure 8 rfl) ?_
      refine fg_10_1 hN kw_2_140 (tk_X10_measure 9 rfl) ?_
      refine on_iconst (tk_X10_measure 10 rfl) ?_
      refine on_il1 (tk_X10_measure 11 rfl) ?_
      refine on_imul (tk_X10_measure 12 rfl) ?_
      refine on_al0 (tk_X10_measure 13 rfl) ?_
      refine fg_10_0 hN kw_2_139 (tk_X10_measure 14 rfl) ?_
      refine on_il1 (tk_X10_measure 15 rfl) ?_
      refine on_iconst (tk_X10_measure 16 rfl) ?_
      refine on_iconst (tk_X10_measure 17 rfl) ?_
      refine on_cV3i 9 ms_X9_carriedIf kw_5_228 rfl rfl (ltS_0 (on_Sb2 hN)) (shS_0 (on_Sb2 hN)) (ct_X9_carriedIf hN (on_Sb2 hN)) rfl (tk_X10_measure 18 rfl) fun v2 σ3 => ?_
      refine on_iast (ltc_68 hN) sh_68 (tk_X10_measure 19 rfl) fun σ4 => ?_
      refine on_al0 (tk_X10_measure 20 rfl) ?_
      refine fg_10_1 hN kw_2_140 (tk_X10_measure 21 rfl) ?_
      refine on_iconst (tk_X10_measure 22 rfl) ?_
      refine on_il1 (tk_X10_measure 23 rfl) ?_
      refine on_imul (tk_X10_measure 24 rfl) ?_
      refine on_iconst (tk_X10_measure 25 rfl) ?_
      refine on_iadd (tk_X10_measure 26 rfl) ?_
      refine on_al0 (tk_X10_measure 27 rfl) ?_
      refine fg_10_0 hN kw_2_139 (tk_X10_measure 28 rfl) ?_
      refine on_il1 (tk_X10_measure 29 rfl) ?_
      refine on_iconst (tk_X10_measure 30 rfl) ?_
      refine on_iconst (tk_X10_measure 31 rfl) ?_
      refine on_cV3i 9 ms_X9_carriedIf kw_5_228 rfl rfl (ltS_0 (on_Sb2 hN)) (shS_0 (on_Sb2 hN)) (ct_X9_carriedIf hN (on_Sb2 hN)) rfl (tk_X10_measure 32 rfl) fun v5 σ6 => ?_
      refine on_iast (ltc_68 hN) sh_68 (tk_X10_measure 33 rfl) fun σ7 => ?_
      refine on_inc1 rfl (tk_X10_measure 34 rfl) ?_
      refine on_goto (tk_X10_measure 35 rfl) (tgt := 2) (by decide) ?_
      exact ih _ _
    · exact on_vret (tk_X10_measure 36 rfl)
set_option maxRecDepth 100000 in
set_option maxHeartbeats 4000000 in
theorem ct_X10_measure {E : on_E} {z n : Nat} (hN : 100 ≤ n) {σ : on_S} : on_Sp E yX10_measure cX10_measure 2 none 4 99 z n [.ref (z + 67)] σ (pf_X10_measure  σ) := by
  refine on_met [some (.ref (z + 67)), none] (by decide) rfl rfl (fun X => ?_)
  rw [pf_X10_measure]
  refine on_iconst (tk_X10_measure 0 rfl) ?_
  refine on_is1 rfl (tk_X10_measure 1 rfl) ?_
  exact gl_X10_measure_2 X  hN on_N _ _
def tb_X10_firstUnlike : List (Nat × Nat × Nat × Instr) := [(0, 1, 1, .iconst 0), (1, 1, 2, .istore_n 3), (2, 1, 3, .iload_n 3), (3, 1, 4, .iconst 2), (4, 1, 5, .iadd), (5, 1, 6, .aload_n 1), (6, 3, 9, .getfield 19), (9, 3, 12, .if_icmp .ge 81), (12, 1, 13, .aload_n 1), (13, 3, 16, .getfield 25), (16, 1, 17, .iload_n 3), (17, 1, 18, .laload), (18, 1, 19, .l2i), (19, 2, 21, .istore 4), (21, 1, 22, .aload_n 1), (22, 3, 25, .getfield 25), (25, 1, 26, .iload_n 3), (26, 1, 27, .iconst 1), (27, 1, 28, .iadd), (28, 1, 29, .laload), (29, 1, 30, .aload_n 0), (30, 3, 33, .getfield 9), (33, 1, 34, .iconst 2), (34, 2, 36, .iload 4), (36, 1, 37, .imul), (37, 1, 38, .iload_n 2), (38, 2, 40, .iload 4), (40, 1, 41, .ishr), (41, 1, 42, .iconst 1), (42, 1, 43, .iand), (43, 1, 44, .iadd), (44, 1, 45, .iaload), (45, 1, 46, .i2l), (46, 1, 47, .lcmp), (47, 3, 50, .ifCond .gt 7), (50, 1, 51, .iconst 1), (51, 3, 54, .goto 4), (54, 1, 55, .iconst 0), (55, 2, 57, .istore 5), (57, 2, 59, .iload 5), (59, 1, 60, .aload_n 1), (60, 3, 63, .getfield 25), (63, 1, 64, .iload_n 3), (64, 1, 65, .iconst 2), (65, 1, 66, .iadd), (66, 1, 67, .laload), (67, 1, 68, .lconst 1), (68, 1, 69, .lcmp), (69, 3, 72, .ifCond .ne 7), (72, 1, 73, .iconst 1), (73, 3, 76, .goto 4), (76, 1, 77, .iconst 0), (77, 3, 80, .if_icmp .eq 7), (80, 1, 81, .iload_n 3), (81, 1, 82, .iconst 3), (82, 1, 83, .idiv), (83, 1, 84, .ireturn), (84, 3, 87, .iinc 3 3), (87, 3, 90, .goto (-85)), (90, 1, 91, .iconst (-1)), (91, 1, 92, .ireturn)]
set_option maxRecDepth 100000 in
theorem tk_X10_firstUnlike (k : Nat) {pc n pc2 : Nat} {i : Instr} (hk : tb_X10_firstUnlike[k]? = some (pc, n, pc2, i)) : on_dq cX10_firstUnlike pc n pc2 i := on_ta (by decide +kernel) k hk
theorem ms_X10_firstUnlike : on_Mv yX10_firstUnlike cX10_firstUnlike 6 (some .int) 2 := ⟨kw_5_232, kw_5_230, kw_5_231, kw_1_11, by decide, by decide, by decide +kernel⟩
def pf_X10_firstUnlike_77 (p0 : Nat) (k2 : Int → Int → on_S → Option on_O) (l2 : Int) (l3 : Int) (s0 : Int) (s1 : Int) (σ : on_S) : Option on_O :=
  on_Eq s0 s1 (
    k2 l2 (l3 + 3) σ) (
    on_Dv l3 3 fun v6 =>
    some (v6, σ))
def pf_X10_firstUnlike_55 (p0 : Nat) (k2 : Int → Int → on_S → Option on_O) (l2 : Int) (l3 : Int) (s0 : Int) (σ : on_S) : Option on_O :=
  on_Rd σ (p0 + 1) 60 (l3 + 2) fun v5 =>
  on_EqL v5 1 (
    pf_X10_firstUnlike_77 p0 k2 l2 l3 s0 1 σ) (
    pf_X10_firstUnlike_77 p0 k2 l2 l3 s0 0 σ)
def pf_X10_firstUnlike_2 (p0 : Nat) : Nat → Int → Int → on_S → Option on_O
  | 0, _, _, _ => none
  | nf + 1, l2, l3, σ =>
    on_Gt σ p0 1 fun v1 =>
    on_Lt (l3 + 2) v1 (
      on_Rd σ (p0 + 1) 60 l3 fun v2 =>
      on_Rd σ (p0 + 1) 60 (l3 + 1) fun v3 =>
      on_Rd σ 68 4 ((2 * v2) + (on_and (on_shr l2 v2) 1)) fun v4 =>
      on_Ck v4 <|
      on_LeL v3 v4 (
        pf_X10_firstUnlike_55 p0 (pf_X10_firstUnlike_2 p0 nf) l2 l3 1 σ) (
        pf_X10_firstUnlike_55 p0 (pf_X10_firstUnlike_2 p0 nf) l2 l3 0 σ)) (
      some ((-1), σ))
def pf_X10_firstUnlike (p0 : Nat) (p1 : Int) (σ : on_S) : Option on_O :=
  pf_X10_firstUnlike_2 p0 on_N p1 0 σ
set_option maxRecDepth 100000 in
set_option maxHeartbeats 4000000 in
theorem gb_X10_firstUnlike_77 {E : on_E} {z n : Nat} (X : on_X) (p0 : Nat) (k2 : Int → Int → on_S → Option on_O) (hN : 100 ≤ n) (ho0 : on_Lb p0) (hk2 : ∀ (l2 : Int) (l3 : Int) (σ : on_S), on_G X E cX10_firstUnlike RX10 (some .int) 0 0 6 z n σ (k2 l2 l3 σ) 2 [some (.ref (z + 67)), some (.ref (z + p0)), some (.int (on_i l2)), some (.int (on_i l3)), none, none] []) (l2 : Int) (l3 : Int) (s0 : Int) (s1 : Int) (σ : on_S) : on_G X E cX10_firstUnlike RX10 (some .int) 0 0 6 z n σ (pf_X10_firstUnlike_77 p0 k2 l2 l3 s0 s1 σ) 77 [some (.ref (z + 67)), some (.ref (z + p0)), some (.int (on_i l2)), some (.int (on_i l3)), none, none] [.int (on_i s1), .int (on_i s0)] := by
  rw [pf_X10_firstUnlike_77]
  refine on_icmp_eq (tk_X10_firstUnlike 52 rfl) (tgt := 84) (by decide) ?_ ?_
  · refine on_il3 (tk_X10_firstUnlike 53 rfl) ?_
    refine on_iconst (tk_X10_firstUnlike 54 rfl) ?_
    refine on_idiv (tk_X10_firstUnlike 55 rfl) fun v6 => ?_
    exact on_iret (tk_X10_firstUnlike 56 rfl)
  · refine on_inc3 rfl (tk_X10_firstUnlike 57 rfl) ?_
    refine on_goto (tk_X10_firstUnlike 58 rfl) (tgt := 2) (by decide) ?_
    exact hk2 _ _ _
set_option maxRecDepth 100000 in
set_option maxHeartbeats 4000000 in
theorem gb_X10_firstUnlike_55 {E : on_E} {z n : Nat} (X : on_X) (p0 : Nat) (k2 : Int → Int → on_S → Option on_O) (hN : 100 ≤ n) (ho0 : on_Lb p0) (hk2 : ∀ (l2 : Int) (l3 : Int) (σ : on_S), on_G X E cX10_firstUnlike RX10 (some .int) 0 0 6 z n σ (k2 l2 l3 σ) 2 [some (.ref (z + 67)), some (.ref (z + p0)), some (.int (on_i l2)), some (.int (on_i l3)), none, none] []) (l2 : Int) (l3 : Int) (s0 : Int) (σ : on_S) : on_G X E cX10_firstUnlike RX10 (some .int) 0 0 6 z n σ (pf_X10_firstUnlike_55 p0 k2 l2 l3 s0 σ) 55 [some (.ref (z + 67)), some (.ref (z + p0)), some (.int (on_i l2)), some (.int (on_i l3)), none, none] [.int (on_i s0)] := by
  rw [pf_X10_firstUnlike_55]
  refine on_is5 rfl (tk_X10_firstUnlike 38 rfl) ?_
  refine on_il5 (tk_X10_firstUnlike 39 rfl) ?_
  refine on_al1 (tk_X10_firstUnlike 40 rfl) ?_
  refine fg_8_2 hN ho0 kw_2_169 (tk_X10_firstUnlike 41 rfl) ?_
  refine on_il3 (tk_X10_firstUnlike 42 rfl) ?_
  refine on_iconst (tk_X10_firstUnlike 43 rfl) ?_
  refine on_iadd (tk_X10_firstUnlike 44 rfl) ?_
  refine on_lald (ltL_1 hN ho0) (shL_1 ho0) (tk_X10_firstUnlike 45 rfl) fun v5 => ?_
  refine on_lconst1 (tk_X10_firstUnlike 46 rfl) ?_
  refine on_lcmp_ne (tk_X10_firstUnlike 47 rfl) (tk_X10_firstUnlike 48 rfl) (tgt := 76) (by decide) ?_ ?_
  · refine on_iconst (tk_X10_firstUnlike 49 rfl) ?_
    refine on_goto (tk_X10_firstUnlike 50 rfl) (tgt := 77) (by decide) ?_
    refine on_dr5 ?_
    exact gb_X10_firstUnlike_77 X _ _ hN ho0 hk2 _ _ _ _ _
  · refine on_iconst (tk_X10_firstUnlike 51 rfl) ?_
    refine on_dr5 ?_
    exact gb_X10_firstUnlike_77 X _ _ hN ho0 hk2 _ _ _ _ _
set_option maxRecDepth 100000 in
set_option maxHeartbeats 4000000 in
theorem gl_X10_firstUnlike_2 {E : on_E} {z n : Nat} (X : on_X) (p0 : Nat) (hN : 100 ≤ n) (ho0 : on_Lb p0) : ∀ (nf : Nat) (l2 : Int) (l3 : Int) (σ : on_S), on_G X E cX10_firstUnlike RX10 (some .int) 0 0 6 z n σ (pf_X10_firstUnlike_2 p0 nf l2 l3 σ) 2 [some (.ref (z + 67)), some (.ref (z + p0)), some (.int (on_i l2)), some (.int (on_i l3)), none, none] [] := by
  intro nf
  induction nf with
  | zero => intro l2 l3 σ; exact on_none
  | succ nf ih =>
    intro l2 l3 σ
    rw [pf_X10_firstUnlike_2]
    refine on_il3 (tk_X10_firstUnlike 2 rfl) ?_
    refine on_iconst (tk_X10_firstUnlike 3 rfl) ?_
    refine on_iadd (tk_X10_firstUnlike 4 rfl) ?_
    refine on_al1 (tk_X10_firstUnlike 5 rfl) ?_
    refine fg_8_1 hN ho0 kw_2_165 (tk_X10_firstUnlike 6 rfl) fun v1 => ?_
    refine on_icmp_ge (tk_X10_firstUnlike 7 rfl) (tgt := 90) (by decide) ?_ ?_
    · refine on_al1 (tk_X10_firstUnlike 8 rfl) ?_
      refine fg_8_2 hN ho0 kw_2_169 (tk_X10_firstUnlike 9 rfl) ?_
      refine on_il3 (tk_X10_firstUnlike 10 rfl) ?_
      refine on_lald (ltL_1 hN ho0) (shL_1 ho0) (tk_X10_firstUnlike 11 rfl) fun v2 => ?_
      refine on_xl2i (tk_X10_firstUnlike 12 rfl) ?_
      refine on_is4 rfl (tk_X10_firstUnlike 13 rfl) ?_
      refine on_al1 (tk_X10_firstUnlike 14 rfl) ?_
      refine fg_8_2 hN ho0 kw_2_169 (tk_X10_firstUnlike 15 rfl) ?_
      refine on_il3 (tk_X10_firstUnlike 16 rfl) ?_
      refine on_iconst (tk_X10_firstUnlike 17 rfl) ?_
      refine on_iadd (tk_X10_firstUnlike 18 rfl) ?_
      refine on_lald (ltL_1 hN ho0) (shL_1 ho0) (tk_X10_firstUnlike 19 rfl) fun v3 => ?_
      refine on_al0 (tk_X10_firstUnlike 20 rfl) ?_
      refine fg_10_1 hN kw_2_140 (tk_X10_firstUnlike 21 rfl) ?_
      refine on_iconst (tk_X10_firstUnlike 22 rfl) ?_
      refine on_il4 (tk_X10_firstUnlike 23 rfl) ?_
      refine on_imul (tk_X10_firstUnlike 24 rfl) ?_
      refine on_il2 (tk_X10_firstUnlike 25 rfl) ?_
      refine on_il4 (tk_X10_firstUnlike 26 rfl) ?_
      refine on_ishr (tk_X10_firstUnlike 27 rfl) ?_
      refine on_iconst (tk_X10_firstUnlike 28 rfl) ?_
      refine on_iand (tk_X10_firstUnlike 29 rfl) ?_
      refine on_iadd (tk_X10_firstUnlike 30 rfl) ?_
      refine on_iald (ltc_68 hN) sh_68 (tk_X10_firstUnlike 31 rfl) fun v4 => ?_
      refine on_xi2l (tk_X10_firstUnlike 32 rfl) ?_
      refine on_lcmp_gt (tk_X10_firstUnlike 33 rfl) (tk_X10_firstUnlike 34 rfl) (tgt := 54) (by decide) ?_ ?_
      · refine on_iconst (tk_X10_firstUnlike 35 rfl) ?_
        refine on_goto (tk_X10_firstUnlike 36 rfl) (tgt := 55) (by decide) ?_
        refine on_dr4 ?_
        exact gb_X10_firstUnlike_55 X _ _ hN ho0 ih _ _ _ _
      · refine on_iconst (tk_X10_firstUnlike 37 rfl) ?_
        refine on_dr4 ?_
        exact gb_X10_firstUnlike_55 X _ _ hN ho0 ih _ _ _ _
    · refine on_iconst (tk_X10_firstUnlike 59 rfl) ?_
      exact on_iret (tk_X10_firstUnlike 60 rfl)
set_option maxRecDepth 100000 in
set_option maxHeartbeats 4000000 in
theorem ct_X10_firstUnlike {E : on_E} {z n : Nat} {p0 : Nat} {p1 : Int} (hN : 100 ≤ n) (ho0 : on_Lb p0) {σ : on_S} : on_Sp E yX10_firstUnlike cX10_firstUnlike 6 (some .int) 0 0 z n [.ref (z + 67), .ref (z + p0), .int (on_i p1)] σ (pf_X10_firstUnlike p0 p1 σ) := by
  refine on_met [some (.ref (z + 67)), some (.ref (z + p0)), some (.int (on_i p1)), none, none, none] (by decide) rfl rfl (fun X => ?_)
  rw [pf_X10_firstUnlike]
  refine on_iconst (tk_X10_firstUnlike 0 rfl) ?_
  refine on_is3 rfl (tk_X10_firstUnlike 1 rfl) ?_
  exact gl_X10_firstUnlike_2 X _ hN ho0 on_N _ _ _
def tb_X10_weigh : List (Nat × Nat × Nat × Instr) := [(0, 1, 1, .aload_n 0), (1, 3, 4, .invokevirtual 40), (4, 1, 5, .iconst 1), (5, 1, 6, .aload_n 0), (6, 3, 9, .getfield 15), (9, 3, 12, .getfield 29), (12, 3, 15, .getfield 35), (15, 1, 16, .ishl), (16, 1, 17, .iconst 1), (17, 1, 18, .isub), (18, 1, 19, .istore_n 2), (19, 1, 20, .aload_n 0), (20, 1, 21, .iconst 0), (21, 3, 24, .putfield 43), (24, 1, 25, .aload_n 0), (25, 1, 26, .iload_n 2), (26, 3, 29, .putfield 46), (29, 1, 30, .aload_n 0), (30, 1, 31, .iload_n 2), (31, 3, 34, .putfield 49), (34, 1, 35, .iconst 0), (35, 1, 36, .istore_n 3), (36, 1, 37, .iload_n 3), (37, 1, 38, .iload_n 2), (38, 3, 41, .if_icmp .gt 51), (41, 1, 42, .aload_n 0), (42, 1, 43, .aload_n 1), (43, 1, 44, .iload_n 3), (44, 3, 47, .invokevirtual 52), (47, 1, 48, .iconst (-1)), (48, 3, 51, .if_icmp .ne 35), (51, 1, 52, .aload_n 0), (52, 1, 53, .dup), (53, 3, 56, .getfield 43), (56, 1, 57, .iconst 1), (57, 1, 58, .iadd), (58, 3, 61, .putfield 43), (61, 1, 62, .aload_n 0), (62, 1, 63, .dup), (63, 3, 66, .getfield 46), (66, 1, 67, .iload_n 3), (67, 1, 68, .iand), (68, 3, 71, .putfield 46), (71, 1, 72, .aload_n 0), (72, 1, 73, .dup), (73, 3, 76, .getfield 49), (76, 1, 77, .iload_n 3), (77, 1, 78, .iconst (-1)), (78, 1, 79, .ixor), (79, 1, 80, .iand), (80, 3, 83, .putfield 49), (83, 3, 86, .iinc 3 1), (86, 3, 89, .goto (-50)), (89, 1, 90, .return_)]
set_option maxRecDepth 100000 in
theorem tk_X10_weigh (k : Nat) {pc n pc2 : Nat} {i : Instr} (hk : tb_X10_weigh[k]? = some (pc, n, pc2, i)) : on_dq cX10_weigh pc n pc2 i := on_ta (by decide +kernel) k hk
theorem ms_X10_weigh : on_Mv yX10_weigh cX10_weigh 4 none 1 := ⟨kw_5_223, kw_5_221, kw_5_222, kw_1_11, by decide, by decide, by decide +kernel⟩
def pf_X10_weigh_36 (p0 : Nat) : Nat → Int → Int → on_S → Option on_O
  | 0, _, _, _ => none
  | nf + 1, l2, l3, σ =>
    on_Le l3 l2 (
      on_Cl (pf_X10_firstUnlike p0 l3 σ) fun v7 σ8 =>
      on_Eq v7 (-1) (
        on_Gt σ8 67 2 fun v9 =>
        on_Pt σ8 67 2 (v9 + 1) fun σ10 =>
        on_Gt σ10 67 3 fun v11 =>
        on_Pt σ10 67 3 (on_and v11 l3) fun σ12 =>
        on_Gt σ12 67 4 fun v13 =>
        on_Pt σ12 67 4 (on_and v13 (on_xor l3 (-1))) fun σ14 =>
        pf_X10_weigh_36 p0 nf l2 (l3 + 1) σ14) (
        pf_X10_weigh_36 p0 nf l2 (l3 + 1) σ8)) (
      some (0, σ))
def pf_X10_weigh (p0 : Nat) (σ : on_S) : Option on_O :=
  on_Cl (pf_X10_measure σ) fun _ σ2 =>
  on_Gt σ2 (2 + 14) 0 fun v3 =>
  on_Pt σ2 67 2 0 fun σ4 =>
  on_Pt σ4 67 3 ((on_shl 1 v3) - 1) fun σ5 =>
  on_Pt σ5 67 4 ((on_shl 1 v3) - 1) fun σ6 =>
  pf_X10_weigh_36 p0 on_N ((on_shl 1 v3) - 1) 0 σ6
set_option maxRecDepth 100000 in
set_option maxHeartbeats 4000000 in
theorem gl_X10_weigh_36 {E : on_E} {z n : Nat} (X : on_X) (p0 : Nat) (hN : 100 ≤ n) (ho0 : on_Lb p0) : ∀ (nf : Nat) (l2 : Int) (l3 : Int) (σ : on_S), on_G X E cX10_weigh RX10 none 5 120 4 z n σ (pf_X10_weigh_36 p0 nf l2 l3 σ) 36 [some (.ref (z + 67)), some (.ref (z + p0)), some (.int (on_i l2)), some (.int (on_i l3))] [] := by
  intro nf
  induction nf with
  | zero => intro l2 l3 σ; exact on_none
  | succ nf ih =>
    intro l2 l3 σ
    rw [pf_X10_weigh_36]
    refine on_il3 (tk_X10_weigh 22 rfl) ?_
    refine on_il2 (tk_X10_weigh 23 rfl) ?_
    refine on_icmp_gt (tk_X10_weigh 24 rfl) (tgt := 89) (by decide) ?_ ?_
    · refine on_al0 (tk_X10_weigh 25 rfl) ?_
      refine on_al1 (tk_X10_weigh 26 rfl) ?_
      refine on_il3 (tk_X10_weigh 27 rfl) ?_
      refine on_cV2i 10 ms_X10_firstUnlike kw_5_229 rfl rfl (ltc_67 hN) sh_67 (ct_X10_firstUnlike hN ho0) rfl (tk_X10_weigh 28 rfl) fun v7 σ8 => ?_
      refine on_iconst (tk_X10_weigh 29 rfl) ?_
      refine on_icmp_ne (tk_X10_weigh 30 rfl) (tgt := 83) (by decide) ?_ ?_
      · refine on_al0 (tk_X10_weigh 31 rfl) ?_
        refine on_dup rfl (tk_X10_weigh 32 rfl) ?_
        refine fg_10_2 hN kw_2_141 (tk_X10_weigh 33 rfl) fun v9 => ?_
        refine on_iconst (tk_X10_weigh 34 rfl) ?_
        refine on_iadd (tk_X10_weigh 35 rfl) ?_
        refine fp_10_2 hN kw_2_141 (tk_X10_weigh 36 rfl) fun σ10 => ?_
        refine on_al0 (tk_X10_weigh 37 rfl) ?_
        refine on_dup rfl (tk_X10_weigh 38 rfl) ?_
        refine fg_10_3 hN kw_2_143 (tk_X10_weigh 39 rfl) fun v11 => ?_
        refine on_il3 (tk_X10_weigh 40 rfl) ?_
        refine on_iand (tk_X10_weigh 41 rfl) ?_
        refine fp_10_3 hN kw_2_143 (tk_X10_weigh 42 rfl) fun σ12 => ?_
        refine on_al0 (tk_X10_weigh 43 rfl) ?_
        refine on_dup rfl (tk_X10_weigh 44 rfl) ?_
        refine fg_10_4 hN kw_2_145 (tk_X10_weigh 45 rfl) fun v13 => ?_
        refine on_il3 (tk_X10_weigh 46 rfl) ?_
        refine on_iconst (tk_X10_weigh 47 rfl) ?_
        refine on_ixor (tk_X10_weigh 48 rfl) ?_
        refine on_iand (tk_X10_weigh 49 rfl) ?_
        refine fp_10_4 hN kw_2_145 (tk_X10_weigh 50 rfl) fun σ14 => ?_
        refine on_inc3 rfl (tk_X10_weigh 51 rfl) ?_
        refine on_goto (tk_X10_weigh 52 rfl) (tgt := 36) (by decide) ?_
        exact ih _ _ _
      · refine on_inc3 rfl (tk_X10_weigh 51 rfl) ?_
        refine on_goto (tk_X10_weigh 52 rfl) (tgt := 36) (by decide) ?_
        exact ih _ _ _
    · exact on_vret (tk_X10_weigh 53 rfl)
set_option maxRecDepth 100000 in
set_option maxHeartbeats 4000000 in
theorem ct_X10_weigh {E : on_E} {z n : Nat} {p0 : Nat} (hN : 100 ≤ n) (ho0 : on_Lb p0) {σ : on_S} : on_Sp E yX10_weigh cX10_weigh 4 none 5 120 z n [.ref (z + 67), .ref (z + p0)] σ (pf_X10_weigh p0 σ) := by
  refine on_met [some (.ref (z + 67)), some (.ref (z + p0)), none, none] (by decide) rfl rfl (fun X => ?_)
  rw [pf_X10_weigh]
  refine on_al0 (tk_X10_weigh 0 rfl) ?_
  refine on_cV0v 10 ms_X10_measure kw_5_224 rfl rfl (ltc_67 hN) sh_67 (ct_X10_measure hN) rfl (tk_X10_weigh 1 rfl) fun v1 σ2 => ?_
  refine on_iconst (tk_X10_weigh 2 rfl) ?_
  refine on_al0 (tk_X10_weigh 3 rfl) ?_
  refine fg_10_0 hN kw_2_139 (tk_X10_weigh 4 rfl) ?_
  refine fg_9_13 (on_Sb2 hN) kw_1_192 (tk_X10_weigh 5 rfl) ?_
  refine fg_4_0 (on_Sb2 hN) kw_1_87 (tk_X10_weigh 6 rfl) fun v3 => ?_
  refine on_ishl (tk_X10_weigh 7 rfl) ?_
  refine on_iconst (tk_X10_weigh 8 rfl) ?_
  refine on_isub (tk_X10_weigh 9 rfl) ?_
  refine on_is2 rfl (tk_X10_weigh 10 rfl) ?_
  refine on_al0 (tk_X10_weigh 11 rfl) ?_
  refine on_iconst (tk_X10_weigh 12 rfl) ?_
  refine fp_10_2 hN kw_2_141 (tk_X10_weigh 13 rfl) fun σ4 => ?_
  refine on_al0 (tk_X10_weigh 14 rfl) ?_
  refine on_il2 (tk_X10_weigh 15 rfl) ?_
  refine fp_10_3 hN kw_2_143 (tk_X10_weigh 16 rfl) fun σ5 => ?_
  refine on_al0 (tk_X10_weigh 17 rfl) ?_
  refine on_il2 (tk_X10_weigh 18 rfl) ?_
  refine fp_10_4 hN kw_2_145 (tk_X10_weigh 19 rfl) fun σ6 => ?_
  refine on_iconst (tk_X10_weigh 20 rfl) ?_
  refine on_is3 rfl (tk_X10_weigh 21 rfl) ?_
  exact gl_X10_weigh_36 X _ hN ho0 on_N _ _ _
def tb_X10_firstOdd : List (Nat × Nat × Nat × Instr) := [(0, 1, 1, .aload_n 0), (1, 3, 4, .invokevirtual 40), (4, 1, 5, .iconst 0), (5, 1, 6, .istore_n 2), (6, 1, 7, .iconst 0), (7, 1, 8, .istore_n 3), (8, 1, 9, .iload_n 3), (9, 1, 10, .aload_n 0), (10, 3, 13, .getfield 15), (13, 3, 16, .getfield 29), (16, 3, 19, .getfield 35), (19, 3, 22, .if_icmp .ge 26), (22, 1, 23, .iload_n 2), (23, 1, 24, .aload_n 0), (24, 3, 27, .getfield 15), (27, 3, 30, .getfield 29), (30, 3, 33, .getfield 60), (33, 1, 34, .iload_n 3), (34, 1, 35, .iaload), (35, 1, 36, .iload_n 3), (36, 1, 37, .ishl), (37, 1, 38, .ior), (38, 1, 39, .istore_n 2), (39, 3, 42, .iinc 3 1), (42, 3, 45, .goto (-34)), (45, 1, 46, .aload_n 0), (46, 1, 47, .aload_n 1), (47, 1, 48, .iload_n 2), (48, 3, 51, .invokevirtual 52), (51, 1, 52, .ireturn)]
set_option maxRecDepth 100000 in
theorem tk_X10_firstOdd (k : Nat) {pc n pc2 : Nat} {i : Instr} (hk : tb_X10_firstOdd[k]? = some (pc, n, pc2, i)) : on_dq cX10_firstOdd pc n pc2 i := on_ta (by decide +kernel) k hk
theorem ms_X10_firstOdd : on_Mv yX10_firstOdd cX10_firstOdd 4 (some .int) 1 := ⟨kw_6_4, kw_6_2, kw_6_3, kw_1_11, by decide, by decide, by decide +kernel⟩
def pf_X10_firstOdd_8 (p0 : Nat) : Nat → Int → Int → on_S → Option on_O
  | 0, _, _, _ => none
  | nf + 1, l2, l3, σ =>
    on_Gt σ (2 + 14) 0 fun v3 =>
    on_Lt l3 v3 (
      on_Rd σ (2 + 17) 2 l3 fun v4 =>
      pf_X10_firstOdd_8 p0 nf (on_or l2 (on_shl v4 l3)) (l3 + 1) σ) (
      on_Cl (pf_X10_firstUnlike p0 l2 σ) fun v5 σ6 =>
      some (v5, σ6))
def pf_X10_firstOdd (p0 : Nat) (σ : on_S) : Option on_O :=
  on_Cl (pf_X10_measure σ) fun _ σ2 =>
  pf_X10_firstOdd_8 p0 on_N 0 0 σ2
set_option maxRecDepth 100000 in
set_option maxHeartbeats 4000000 in
theorem gl_X10_firstOdd_8 {E : on_E} {z n : Nat} (X : on_X) (p0 : Nat) (hN : 100 ≤ n) (ho0 : on_Lb p0) : ∀ (nf : Nat) (l2 : Int) (l3 : Int) (σ : on_S), on_G X E cX10_firstOdd RX10 (some .int) 5 120 4 z n σ (pf_X10_firstOdd_8 p0 nf l2 l3 σ) 8 [some (.ref (z + 67)), some (.ref (z + p0)), some (.int (on_i l2)), some (.int (on_i l3))] [] := by
  intro nf
  induction nf with
  | zero => intro l2 l3 σ; exact on_none
  | succ nf ih =>
    intro l2 l3 σ
    rw [pf_X10_firstOdd_8]
    refine on_il3 (tk_X10_firstOdd 6 rfl) ?_
    refine on_al0 (tk_X10_firstOdd 7 rfl) ?_
    refine fg_10_0 hN kw_2_139 (tk_X10_firstOdd 8 rfl) ?_
    refine fg_9_13 (on_Sb2 hN) kw_1_192 (tk_X10_firstOdd 9 rfl) ?_
    refine fg_4_0 (on_Sb2 hN) kw_1_87 (tk_X10_firstOdd 10 rfl) fun v3 => ?_
    refine on_icmp_ge (tk_X10_firstOdd 11 rfl) (tgt := 45) (by decide) ?_ ?_
    · refine on_il2 (tk_X10_firstOdd 12 rfl) ?_
      refine on_al0 (tk_X10_firstOdd 13 rfl) ?_
      refine fg_10_0 hN kw_2_139 (tk_X10_firstOdd 14 rfl) ?_
      refine fg_9_13 (on_Sb2 hN) kw_1_192 (tk_X10_firstOdd 15 rfl) ?_
      refine fg_4_3 (on_Sb2 hN) kw_1_102 (tk_X10_firstOdd 16 rfl) ?_
      refine on_il3 (tk_X10_firstOdd 17 rfl) ?_
      refine on_iald (ltS_17 (on_Sb2 hN)) (shS_17 (on_Sb2 hN)) (tk_X10_firstOdd 18 rfl) fun v4 => ?_
      refine on_il3 (tk_X10_firstOdd 19 rfl) ?_
      refine on_ishl (tk_X10_firstOdd 20 rfl) ?_
      refine on_ior (tk_X10_firstOdd 21 rfl) ?_
      refine on_is2 rfl (tk_X10_firstOdd 22 rfl) ?_
      refine on_inc3 rfl (tk_X10_firstOdd 23 rfl) ?_
      refine on_goto (tk_X10_firstOdd 24 rfl) (tgt := 8) (by decide) ?_
      exact ih _ _ _
    · refine on_al0 (tk_X10_firstOdd 25 rfl) ?_
      refine on_al1 (tk_X10_firstOdd 26 rfl) ?_
      refine on_il2 (tk_X10_firstOdd 27 rfl) ?_
      refine on_cV2i 10 ms_X10_firstUnlike kw_5_229 rfl rfl (ltc_67 hN) sh_67 (ct_X10_firstUnlike hN ho0) rfl (tk_X10_firstOdd 28 rfl) fun v5 σ6 => ?_
      exact on_iret (tk_X10_firstOdd 29 rfl)
set_option maxRecDepth 100000 in
set_option maxHeartbeats 4000000 in
theorem ct_X10_firstOdd {E : on_E} {z n : Nat} {p0 : Nat} (hN : 100 ≤ n) (ho0 : on_Lb p0) {σ : on_S} : on_Sp E yX10_firstOdd cX10_firstOdd 4 (some .int) 5 120 z n [.ref (z + 67), .ref (z + p0)] σ (pf_X10_firstOdd p0 σ) := by
  refine on_met [some (.ref (z + 67)), some (.ref (z + p0)), none, none] (by decide) rfl rfl (fun X => ?_)
  rw [pf_X10_firstOdd]
  refine on_al0 (tk_X10_firstOdd 0 rfl) ?_
  refine on_cV0v 10 ms_X10_measure kw_5_224 rfl rfl (ltc_67 hN) sh_67 (ct_X10_measure hN) rfl (tk_X10_firstOdd 1 rfl) fun v1 σ2 => ?_
  refine on_iconst (tk_X10_firstOdd 2 rfl) ?_
  refine on_is2 rfl (tk_X10_firstOdd 3 rfl) ?_
  refine on_iconst (tk_X10_firstOdd 4 rfl) ?_
  refine on_is3 rfl (tk_X10_firstOdd 5 rfl) ?_
  exact gl_X10_firstOdd_8 X _ hN ho0 on_N _ _ _
