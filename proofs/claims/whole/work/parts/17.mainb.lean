def tb_X11_ways : List (Nat × Nat × Nat × Instr) := [(0, 1, 1, .aload_n 0), (1, 3, 4, .getfield 16), (4, 3, 7, .invokevirtual 243), (7, 3, 10, .ifCond .ne 6), (10, 2, 12, .bipush (-2)), (12, 1, 13, .ireturn), (13, 1, 14, .aload_n 0), (14, 3, 17, .getfield 56), (17, 3, 20, .invokevirtual 297), (20, 1, 21, .aload_n 0), (21, 3, 24, .getfield 56), (24, 3, 27, .getfield 309), (27, 1, 28, .ireturn)]
set_option maxRecDepth 100000 in
theorem tk_X11_ways (k : Nat) {pc n pc2 : Nat} {i : Instr} (hk : tb_X11_ways[k]? = some (pc, n, pc2, i)) : on_dq cX11_ways pc n pc2 i := on_ta (by decide +kernel) k hk
theorem ms_X11_ways : on_Mv yX11_ways cX11_ways 1 (some .int) 0 := ⟨kw_5_66, kw_5_64, kw_5_65, kw_1_1, by decide, by decide, by decide +kernel⟩
def pf_X11_ways (σ : on_S) : Option on_O :=
  on_Cl (pf_X9_isThere 2 σ) fun v1 σ2 =>
  on_Eq v1 0 (
    some ((-2), σ2)) (
    on_Cl (pf_X1_seek σ2) fun _ σ4 =>
    on_Gt σ4 59 6 fun v5 =>
    some (v5, σ4))
set_option maxRecDepth 100000 in
set_option maxHeartbeats 4000000 in
theorem ct_X11_ways {E : on_E} {z n : Nat} (hN : 100 ≤ n) {σ : on_S} : on_Sp E yX11_ways cX11_ways 1 (some .int) 4 100 z n [.ref (z + 0)] σ (pf_X11_ways  σ) := by
  refine on_met [some (.ref (z + 0))] (by decide) rfl rfl (fun X => ?_)
  rw [pf_X11_ways]
  refine on_al0 (tk_X11_ways 0 rfl) ?_
  refine fg_11_2 hN kw_2_181 (tk_X11_ways 1 rfl) ?_
  refine on_cV0z 9 ms_X9_isThere kw_4_152 rfl rfl (ltS_0 (on_Sb2 hN)) (shS_0 (on_Sb2 hN)) (ct_X9_isThere hN (on_Sb2 hN)) rfl (tk_X11_ways 2 rfl) fun v1 σ2 => ?_
  refine on_if_ne (tk_X11_ways 3 rfl) (tgt := 13) (by decide) ?_ ?_
  · refine on_bipush (tk_X11_ways 4 rfl) bp_m2 ?_
    exact on_iret (tk_X11_ways 5 rfl)
  · refine on_al0 (tk_X11_ways 6 rfl) ?_
    refine fg_11_8 hN kw_2_187 (tk_X11_ways 7 rfl) ?_
    refine on_cV0v 1 ms_X1_seek kw_5_18 rfl rfl (ltc_59 hN) sh_59 (ct_X1_seek hN) rfl (tk_X11_ways 8 rfl) fun v3 σ4 => ?_
    refine on_al0 (tk_X11_ways 9 rfl) ?_
    refine fg_11_8 hN kw_2_187 (tk_X11_ways 10 rfl) ?_
    refine fg_1_6 hN kw_2_75 (tk_X11_ways 11 rfl) fun v5 => ?_
    exact on_iret (tk_X11_ways 12 rfl)
def tb_X11_quarrels : List (Nat × Nat × Nat × Instr) := [(0, 1, 1, .aload_n 0), (1, 3, 4, .getfield 16), (4, 3, 7, .invokevirtual 243), (7, 3, 10, .ifCond .ne 6), (10, 2, 12, .bipush (-2)), (12, 1, 13, .ireturn), (13, 1, 14, .iconst 0), (14, 1, 15, .istore_n 1), (15, 1, 16, .iconst 0), (16, 1, 17, .istore_n 2), (17, 1, 18, .iload_n 2), (18, 1, 19, .aload_n 0), (19, 3, 22, .getfield 16), (22, 3, 25, .getfield 141), (25, 3, 28, .getfield 312), (28, 3, 31, .if_icmp .ge 34), (31, 1, 32, .iconst 0), (32, 1, 33, .istore_n 3), (33, 1, 34, .iload_n 3), (34, 1, 35, .iconst 4), (35, 3, 38, .if_icmp .ge 21), (38, 1, 39, .iload_n 1), (39, 1, 40, .aload_n 0), (40, 3, 43, .getfield 16), (43, 1, 44, .iload_n 2), (44, 1, 45, .iload_n 3), (45, 3, 48, .invokevirtual 313), (48, 1, 49, .iadd), (49, 1, 50, .istore_n 1), (50, 3, 53, .iinc 3 1), (53, 3, 56, .goto (-20)), (56, 3, 59, .iinc 2 1), (59, 3, 62, .goto (-42)), (62, 1, 63, .iload_n 1), (63, 1, 64, .ireturn)]
set_option maxRecDepth 100000 in
theorem tk_X11_quarrels (k : Nat) {pc n pc2 : Nat} {i : Instr} (hk : tb_X11_quarrels[k]? = some (pc, n, pc2, i)) : on_dq cX11_quarrels pc n pc2 i := on_ta (by decide +kernel) k hk
theorem ms_X11_quarrels : on_Mv yX11_quarrels cX11_quarrels 4 (some .int) 0 := ⟨kw_5_70, kw_5_68, kw_5_69, kw_1_1, by decide, by decide, by decide +kernel⟩
def pf_X11_quarrels_33 (k17 : Int → Int → on_S → Option on_O) : Nat → Int → Int → Int → on_S → Option on_O
  | 0, _, _, _, _ => none
  | nf + 1, l1, l2, l3, σ =>
    on_Lt l3 4 (
      on_Cl (pf_X9_quarrelBehind 2 l2 l3 σ) fun v4 σ5 =>
      pf_X11_quarrels_33 k17 nf (l1 + v4) l2 (l3 + 1) σ5) (
      k17 l1 (l2 + 1) σ)
def pf_X11_quarrels_17 : Nat → Int → Int → on_S → Option on_O
  | 0, _, _, _ => none
  | nf + 1, l1, l2, σ =>
    on_Gt σ (2 + 14) 0 fun v3 =>
    on_Lt l2 v3 (
      pf_X11_quarrels_33 (pf_X11_quarrels_17 nf) on_N l1 l2 0 σ) (
      some (l1, σ))
def pf_X11_quarrels (σ : on_S) : Option on_O :=
  on_Cl (pf_X9_isThere 2 σ) fun v1 σ2 =>
  on_Eq v1 0 (
    some ((-2), σ2)) (
    pf_X11_quarrels_17 on_N 0 0 σ2)
set_option maxRecDepth 100000 in
set_option maxHeartbeats 4000000 in
theorem gl_X11_quarrels_33 {E : on_E} {z n : Nat} (X : on_X) (k17 : Int → Int → on_S → Option on_O) (hN : 100 ≤ n) (hk17 : ∀ (l1 : Int) (l2 : Int) (σ : on_S), on_G X E cX11_quarrels RX11 (some .int) 1 24 4 z n σ (k17 l1 l2 σ) 17 [some (.ref (z + 0)), some (.int (on_i l1)), some (.int (on_i l2)), none] []) : ∀ (nf : Nat) (l1 : Int) (l2 : Int) (l3 : Int) (σ : on_S), on_G X E cX11_quarrels RX11 (some .int) 1 24 4 z n σ (pf_X11_quarrels_33 k17 nf l1 l2 l3 σ) 33 [some (.ref (z + 0)), some (.int (on_i l1)), some (.int (on_i l2)), some (.int (on_i l3))] [] := by
  intro nf
  induction nf with
  | zero => intro l1 l2 l3 σ; exact on_none
  | succ nf ih =>
    intro l1 l2 l3 σ
    rw [pf_X11_quarrels_33]
    refine on_il3 (tk_X11_quarrels 18 rfl) ?_
    refine on_iconst (tk_X11_quarrels 19 rfl) ?_
    refine on_icmp_ge (tk_X11_quarrels 20 rfl) (tgt := 56) (by decide) ?_ ?_
    · refine on_il1 (tk_X11_quarrels 21 rfl) ?_
      refine on_al0 (tk_X11_quarrels 22 rfl) ?_
      refine fg_11_2 hN kw_2_181 (tk_X11_quarrels 23 rfl) ?_
      refine on_il2 (tk_X11_quarrels 24 rfl) ?_
      refine on_il3 (tk_X11_quarrels 25 rfl) ?_
      refine on_cV2i 9 ms_X9_quarrelBehind kw_5_71 rfl rfl (ltS_0 (on_Sb2 hN)) (shS_0 (on_Sb2 hN)) (ct_X9_quarrelBehind hN (on_Sb2 hN)) rfl (tk_X11_quarrels 26 rfl) fun v4 σ5 => ?_
      refine on_iadd (tk_X11_quarrels 27 rfl) ?_
      refine on_is1 rfl (tk_X11_quarrels 28 rfl) ?_
      refine on_inc3 rfl (tk_X11_quarrels 29 rfl) ?_
      refine on_goto (tk_X11_quarrels 30 rfl) (tgt := 33) (by decide) ?_
      exact ih _ _ _ _
    · refine on_inc2 rfl (tk_X11_quarrels 31 rfl) ?_
      refine on_goto (tk_X11_quarrels 32 rfl) (tgt := 17) (by decide) ?_
      refine on_dr3 ?_
      exact hk17 _ _ _
set_option maxRecDepth 100000 in
set_option maxHeartbeats 4000000 in
theorem gl_X11_quarrels_17 {E : on_E} {z n : Nat} (X : on_X) (hN : 100 ≤ n) : ∀ (nf : Nat) (l1 : Int) (l2 : Int) (σ : on_S), on_G X E cX11_quarrels RX11 (some .int) 1 24 4 z n σ (pf_X11_quarrels_17 nf l1 l2 σ) 17 [some (.ref (z + 0)), some (.int (on_i l1)), some (.int (on_i l2)), none] [] := by
  intro nf
  induction nf with
  | zero => intro l1 l2 σ; exact on_none
  | succ nf ih =>
    intro l1 l2 σ
    rw [pf_X11_quarrels_17]
    refine on_il2 (tk_X11_quarrels 10 rfl) ?_
    refine on_al0 (tk_X11_quarrels 11 rfl) ?_
    refine fg_11_2 hN kw_2_181 (tk_X11_quarrels 12 rfl) ?_
    refine fg_9_13 (on_Sb2 hN) kw_1_195 (tk_X11_quarrels 13 rfl) ?_
    refine fg_4_0 (on_Sb2 hN) kw_1_90 (tk_X11_quarrels 14 rfl) fun v3 => ?_
    refine on_icmp_ge (tk_X11_quarrels 15 rfl) (tgt := 62) (by decide) ?_ ?_
    · refine on_iconst (tk_X11_quarrels 16 rfl) ?_
      refine on_is3 rfl (tk_X11_quarrels 17 rfl) ?_
      exact gl_X11_quarrels_33 X _ hN ih on_N _ _ _ _
    · refine on_il1 (tk_X11_quarrels 33 rfl) ?_
      exact on_iret (tk_X11_quarrels 34 rfl)
set_option maxRecDepth 100000 in
set_option maxHeartbeats 4000000 in
theorem ct_X11_quarrels {E : on_E} {z n : Nat} (hN : 100 ≤ n) {σ : on_S} : on_Sp E yX11_quarrels cX11_quarrels 4 (some .int) 1 24 z n [.ref (z + 0)] σ (pf_X11_quarrels  σ) := by
  refine on_met [some (.ref (z + 0)), none, none, none] (by decide) rfl rfl (fun X => ?_)
  rw [pf_X11_quarrels]
  refine on_al0 (tk_X11_quarrels 0 rfl) ?_
  refine fg_11_2 hN kw_2_181 (tk_X11_quarrels 1 rfl) ?_
  refine on_cV0z 9 ms_X9_isThere kw_4_152 rfl rfl (ltS_0 (on_Sb2 hN)) (shS_0 (on_Sb2 hN)) (ct_X9_isThere hN (on_Sb2 hN)) rfl (tk_X11_quarrels 2 rfl) fun v1 σ2 => ?_
  refine on_if_ne (tk_X11_quarrels 3 rfl) (tgt := 13) (by decide) ?_ ?_
  · refine on_bipush (tk_X11_quarrels 4 rfl) bp_m2 ?_
    exact on_iret (tk_X11_quarrels 5 rfl)
  · refine on_iconst (tk_X11_quarrels 6 rfl) ?_
    refine on_is1 rfl (tk_X11_quarrels 7 rfl) ?_
    refine on_iconst (tk_X11_quarrels 8 rfl) ?_
    refine on_is2 rfl (tk_X11_quarrels 9 rfl) ?_
    exact gl_X11_quarrels_17 X  hN on_N _ _ _
def tb_X11_where : List (Nat × Nat × Nat × Instr) := [(0, 1, 1, .iload_n 2), (1, 3, 4, .ifCond .lt 8), (4, 1, 5, .iload_n 2), (5, 1, 6, .iconst 1), (6, 3, 9, .if_icmp .le 6), (9, 2, 11, .bipush (-2)), (11, 1, 12, .ireturn), (12, 1, 13, .aload_n 0), (13, 1, 14, .iload_n 1), (14, 3, 17, .invokevirtual 277), (17, 1, 18, .istore_n 3), (18, 1, 19, .iload_n 3), (19, 3, 22, .ifCond .eq 5), (22, 1, 23, .iload_n 3), (23, 1, 24, .ireturn), (24, 1, 25, .iconst (-1)), (25, 2, 27, .istore 4), (27, 1, 28, .iconst (-1)), (28, 2, 30, .istore 5), (30, 1, 31, .iconst 0), (31, 2, 33, .istore 6), (33, 2, 35, .iload 6), (35, 1, 36, .aload_n 0), (36, 3, 39, .getfield 16), (39, 3, 42, .getfield 316), (42, 3, 45, .if_icmp .ge 68), (45, 1, 46, .aload_n 0), (46, 3, 49, .getfield 16), (49, 2, 51, .iload 6), (51, 1, 52, .iload_n 1), (52, 3, 55, .invokevirtual 319), (55, 3, 58, .ifCond .eq 6), (58, 3, 61, .goto 46), (61, 1, 62, .aload_n 0), (62, 3, 65, .getfield 47), (65, 1, 66, .iload_n 1), (66, 2, 68, .iload 6), (68, 3, 71, .invokevirtual 280), (71, 1, 72, .aload_n 0), (72, 3, 75, .getfield 16), (75, 2, 77, .iload 6), (77, 1, 78, .aload_n 0), (78, 3, 81, .getfield 47), (81, 3, 84, .invokevirtual 283), (84, 3, 87, .invokevirtual 322), (87, 2, 89, .istore 7), (89, 2, 91, .iload 7), (91, 2, 93, .iload 5), (93, 3, 96, .if_icmp .le 11), (96, 2, 98, .iload 7), (98, 2, 100, .istore 5), (100, 2, 102, .iload 6), (102, 2, 104, .istore 4), (104, 3, 107, .iinc 6 1), (107, 3, 110, .goto (-74)), (110, 1, 111, .iload_n 2), (111, 3, 114, .ifCond .ne 8), (114, 2, 116, .iload 4), (116, 3, 119, .goto 5), (119, 2, 121, .iload 5), (121, 1, 122, .ireturn)]
set_option maxRecDepth 100000 in
theorem tk_X11_where (k : Nat) {pc n pc2 : Nat} {i : Instr} (hk : tb_X11_where[k]? = some (pc, n, pc2, i)) : on_dq cX11_where pc n pc2 i := on_ta (by decide +kernel) k hk
theorem ms_X11_where : on_Mv yX11_where cX11_where 8 (some .int) 2 := ⟨kw_5_75, kw_5_73, kw_5_74, kw_1_1, by decide, by decide, by decide +kernel⟩
def pf_X11_where_33 : Nat → Int → Int → Int → Int → Int → on_S → Option on_O
  | 0, _, _, _, _, _, _ => none
  | nf + 1, l1, l2, l4, l5, l6, σ =>
    on_Gt σ 2 3 fun v3 =>
    on_Lt l6 v3 (
      on_Cl (pf_X9_hasOtherNet 2 l6 l1 σ) fun v4 σ5 =>
      on_Eq v4 0 (
        on_Cl (pf_X7_prepare l1 l6 σ5) fun _ σ7 =>
        on_Cl (pf_X7_mostCarried σ7) fun v8 σ9 =>
        on_Cl (pf_X9_jumpersHeldAt 2 l6 v8 σ9) fun v10 σ11 =>
        on_Le v10 l5 (
          pf_X11_where_33 nf l1 l2 l4 l5 (l6 + 1) σ11) (
          pf_X11_where_33 nf l1 l2 l6 v10 (l6 + 1) σ11)) (
        pf_X11_where_33 nf l1 l2 l4 l5 (l6 + 1) σ5)) (
      on_Eq l2 0 (
        some (l4, σ)) (
        some (l5, σ)))
def pf_X11_where (p0 : Int) (p1 : Int) (σ : on_S) : Option on_O :=
  on_Lt p1 0 (
    some ((-2), σ)) (
    on_Le p1 1 (
      on_Cl (pf_X11_standingRefused p0 σ) fun v1 σ2 =>
      on_Eq v1 0 (
        pf_X11_where_33 on_N p0 p1 (-1) (-1) 0 σ2) (
        some (v1, σ2))) (
      some ((-2), σ)))
set_option maxRecDepth 100000 in
set_option maxHeartbeats 4000000 in
theorem gl_X11_where_33 {E : on_E} {z n : Nat} (X : on_X) (hN : 100 ≤ n) : ∀ (nf : Nat) (l1 : Int) (l2 : Int) (l4 : Int) (l5 : Int) (l6 : Int) (σ : on_S), on_G X E cX11_where RX11 (some .int) 4 96 8 z n σ (pf_X11_where_33 nf l1 l2 l4 l5 l6 σ) 33 [some (.ref (z + 0)), some (.int (on_i l1)), some (.int (on_i l2)), none, some (.int (on_i l4)), some (.int (on_i l5)), some (.int (on_i l6)), none] [] := by
  intro nf
  induction nf with
  | zero => intro l1 l2 l4 l5 l6 σ; exact on_none
  | succ nf ih =>
    intro l1 l2 l4 l5 l6 σ
    rw [pf_X11_where_33]
    refine on_il6 (tk_X11_where 21 rfl) ?_
    refine on_al0 (tk_X11_where 22 rfl) ?_
    refine fg_11_2 hN kw_2_181 (tk_X11_where 23 rfl) ?_
    refine fg_9_3 (on_Sb2 hN) kw_1_165 (tk_X11_where 24 rfl) fun v3 => ?_
    refine on_icmp_ge (tk_X11_where 25 rfl) (tgt := 110) (by decide) ?_ ?_
    · refine on_al0 (tk_X11_where 26 rfl) ?_
      refine fg_11_2 hN kw_2_181 (tk_X11_where 27 rfl) ?_
      refine on_il6 (tk_X11_where 28 rfl) ?_
      refine on_il1 (tk_X11_where 29 rfl) ?_
      refine on_cV2z 9 ms_X9_hasOtherNet kw_5_76 rfl rfl (ltS_0 (on_Sb2 hN)) (shS_0 (on_Sb2 hN)) (ct_X9_hasOtherNet hN (on_Sb2 hN)) rfl (tk_X11_where 30 rfl) fun v4 σ5 => ?_
      refine on_if_eq (tk_X11_where 31 rfl) (tgt := 61) (by decide) ?_ ?_
      · refine on_goto (tk_X11_where 32 rfl) (tgt := 104) (by decide) ?_
        refine on_inc6 rfl (tk_X11_where 53 rfl) ?_
        refine on_goto (tk_X11_where 54 rfl) (tgt := 33) (by decide) ?_
        exact ih _ _ _ _ _ _
      · refine on_al0 (tk_X11_where 33 rfl) ?_
        refine fg_11_7 hN kw_2_186 (tk_X11_where 34 rfl) ?_
        refine on_il1 (tk_X11_where 35 rfl) ?_
        refine on_il6 (tk_X11_where 36 rfl) ?_
        refine on_cV2v 7 ms_X7_prepare kw_4_212 rfl rfl (ltc_55 hN) sh_55 (ct_X7_prepare hN) rfl (tk_X11_where 37 rfl) fun v6 σ7 => ?_
        refine on_al0 (tk_X11_where 38 rfl) ?_
        refine fg_11_2 hN kw_2_181 (tk_X11_where 39 rfl) ?_
        refine on_il6 (tk_X11_where 40 rfl) ?_
        refine on_al0 (tk_X11_where 41 rfl) ?_
        refine fg_11_7 hN kw_2_186 (tk_X11_where 42 rfl) ?_
        refine on_cV0i 7 ms_X7_mostCarried kw_4_219 rfl rfl (ltc_55 hN) sh_55 (ct_X7_mostCarried hN) rfl (tk_X11_where 43 rfl) fun v8 σ9 => ?_
        refine on_cV2i 9 ms_X9_jumpersHeldAt kw_5_80 rfl rfl (ltS_0 (on_Sb2 hN)) (shS_0 (on_Sb2 hN)) (ct_X9_jumpersHeldAt hN (on_Sb2 hN)) rfl (tk_X11_where 44 rfl) fun v10 σ11 => ?_
        refine on_is7 rfl (tk_X11_where 45 rfl) ?_
        refine on_il7 (tk_X11_where 46 rfl) ?_
        refine on_il5 (tk_X11_where 47 rfl) ?_
        refine on_icmp_le (tk_X11_where 48 rfl) (tgt := 104) (by decide) ?_ ?_
        · refine on_il7 (tk_X11_where 49 rfl) ?_
          refine on_is5 rfl (tk_X11_where 50 rfl) ?_
          refine on_il6 (tk_X11_where 51 rfl) ?_
          refine on_is4 rfl (tk_X11_where 52 rfl) ?_
          refine on_inc6 rfl (tk_X11_where 53 rfl) ?_
          refine on_goto (tk_X11_where 54 rfl) (tgt := 33) (by decide) ?_
          refine on_dr7 ?_
          exact ih _ _ _ _ _ _
        · refine on_inc6 rfl (tk_X11_where 53 rfl) ?_
          refine on_goto (tk_X11_where 54 rfl) (tgt := 33) (by decide) ?_
          refine on_dr7 ?_
          exact ih _ _ _ _ _ _
    · refine on_il2 (tk_X11_where 55 rfl) ?_
      refine on_if_ne (tk_X11_where 56 rfl) (tgt := 119) (by decide) ?_ ?_
      · refine on_il4 (tk_X11_where 57 rfl) ?_
        refine on_goto (tk_X11_where 58 rfl) (tgt := 121) (by decide) ?_
        exact on_iret (tk_X11_where 60 rfl)
      · refine on_il5 (tk_X11_where 59 rfl) ?_
        exact on_iret (tk_X11_where 60 rfl)
set_option maxRecDepth 100000 in
set_option maxHeartbeats 4000000 in
theorem ct_X11_where {E : on_E} {z n : Nat} {p0 : Int} {p1 : Int} (hN : 100 ≤ n) {σ : on_S} : on_Sp E yX11_where cX11_where 8 (some .int) 4 96 z n [.ref (z + 0), .int (on_i p0), .int (on_i p1)] σ (pf_X11_where p0 p1 σ) := by
  refine on_met [some (.ref (z + 0)), some (.int (on_i p0)), some (.int (on_i p1)), none, none, none, none, none] (by decide) rfl rfl (fun X => ?_)
  rw [pf_X11_where]
  refine on_il2 (tk_X11_where 0 rfl) ?_
  refine on_if_lt (tk_X11_where 1 rfl) (tgt := 9) (by decide) ?_ ?_
  · refine on_il2 (tk_X11_where 2 rfl) ?_
    refine on_iconst (tk_X11_where 3 rfl) ?_
    refine on_icmp_le (tk_X11_where 4 rfl) (tgt := 12) (by decide) ?_ ?_
    · refine on_bipush (tk_X11_where 5 rfl) bp_m2 ?_
      exact on_iret (tk_X11_where 6 rfl)
    · refine on_al0 (tk_X11_where 7 rfl) ?_
      refine on_il1 (tk_X11_where 8 rfl) ?_
      refine on_cV1i 11 ms_X11_standingRefused kw_4_208 rfl rfl (ltc_0 hN) sh_0 (ct_X11_standingRefused hN) rfl (tk_X11_where 9 rfl) fun v1 σ2 => ?_
      refine on_is3 rfl (tk_X11_where 10 rfl) ?_
      refine on_il3 (tk_X11_where 11 rfl) ?_
      refine on_if_eq (tk_X11_where 12 rfl) (tgt := 24) (by decide) ?_ ?_
      · refine on_il3 (tk_X11_where 13 rfl) ?_
        exact on_iret (tk_X11_where 14 rfl)
      · refine on_iconst (tk_X11_where 15 rfl) ?_
        refine on_is4 rfl (tk_X11_where 16 rfl) ?_
        refine on_iconst (tk_X11_where 17 rfl) ?_
        refine on_is5 rfl (tk_X11_where 18 rfl) ?_
        refine on_iconst (tk_X11_where 19 rfl) ?_
        refine on_is6 rfl (tk_X11_where 20 rfl) ?_
        refine on_dr3 ?_
        exact gl_X11_where_33 X  hN on_N _ _ _ _ _ _
  · refine on_bipush (tk_X11_where 5 rfl) bp_m2 ?_
    exact on_iret (tk_X11_where 6 rfl)
def tb_X11_pairsToMakeUp : List (Nat × Nat × Nat × Instr) := [(0, 1, 1, .aload_n 0), (1, 3, 4, .getfield 16), (4, 1, 5, .iload_n 1), (5, 3, 8, .invokevirtual 156), (8, 1, 9, .istore_n 2), (9, 1, 10, .aload_n 0), (10, 3, 13, .getfield 16), (13, 3, 16, .getfield 141), (16, 3, 19, .getfield 153), (19, 1, 20, .iload_n 1), (20, 1, 21, .iaload), (21, 1, 22, .istore_n 3), (22, 1, 23, .iconst (-1)), (23, 2, 25, .istore 4), (25, 1, 26, .iconst 0), (26, 2, 28, .istore 5), (28, 2, 30, .iload 5), (30, 2, 32, .bipush 16), (32, 3, 35, .if_icmp .ge 59), (35, 2, 37, .iload 4), (37, 1, 38, .iconst (-1)), (38, 3, 41, .if_icmp .eq 16), (41, 2, 43, .iload 5), (43, 3, 46, .invokestatic 328), (46, 2, 48, .iload 4), (48, 3, 51, .invokestatic 328), (51, 3, 54, .if_icmp .ge 7), (54, 1, 55, .iconst 1), (55, 3, 58, .goto 4), (58, 1, 59, .iconst 0), (59, 2, 61, .istore 6), (61, 2, 63, .iload 6), (63, 3, 66, .ifCond .eq 22), (66, 1, 67, .aload_n 0), (67, 3, 70, .getfield 16), (70, 1, 71, .iload_n 1), (71, 1, 72, .iload_n 3), (72, 2, 74, .iload 5), (74, 3, 77, .invokevirtual 333), (77, 1, 78, .iload_n 2), (78, 3, 81, .if_icmp .lt 7), (81, 2, 83, .iload 5), (83, 2, 85, .istore 4), (85, 3, 88, .iinc 5 1), (88, 3, 91, .goto (-60)), (91, 2, 93, .iload 4), (93, 1, 94, .ireturn)]
set_option maxRecDepth 100000 in
theorem tk_X11_pairsToMakeUp (k : Nat) {pc n pc2 : Nat} {i : Instr} (hk : tb_X11_pairsToMakeUp[k]? = some (pc, n, pc2, i)) : on_dq cX11_pairsToMakeUp pc n pc2 i := on_ta (by decide +kernel) k hk
theorem ms_X11_pairsToMakeUp : on_Mv yX11_pairsToMakeUp cX11_pairsToMakeUp 7 (some .int) 1 := ⟨kw_5_91, kw_5_90, (on_mp (q := (yX11_pairsToMakeUp, 12)) (by decide +kernel)), kw_1_1, by decide, by decide, by decide +kernel⟩
def pf_X11_pairsToMakeUp_59 (k28 : Int → Int → Int → Int → Int → on_S → Option on_O) (l1 : Int) (l2 : Int) (l3 : Int) (l4 : Int) (l5 : Int) (s0 : Int) (σ : on_S) : Option on_O :=
  on_Eq s0 0 (
    k28 l1 l2 l3 l4 (l5 + 1) σ) (
    on_Cl (pf_X9_carriedIf 2 l1 l3 l5 σ) fun v8 σ9 =>
    on_Lt v8 l2 (
      k28 l1 l2 l3 l4 (l5 + 1) σ9) (
      k28 l1 l2 l3 l5 (l5 + 1) σ9))
def pf_X11_pairsToMakeUp_54 (k28 : Int → Int → Int → Int → Int → on_S → Option on_O) (l1 : Int) (l2 : Int) (l3 : Int) (l4 : Int) (l5 : Int) (σ : on_S) : Option on_O :=
  pf_X11_pairsToMakeUp_59 k28 l1 l2 l3 l4 l5 1 σ
def pf_X11_pairsToMakeUp_28 : Nat → Int → Int → Int → Int → Int → on_S → Option on_O
  | 0, _, _, _, _, _, _ => none
  | nf + 1, l1, l2, l3, l4, l5, σ =>
    on_Lt l5 16 (
      on_Eq l4 (-1) (
        pf_X11_pairsToMakeUp_54 (pf_X11_pairsToMakeUp_28 nf) l1 l2 l3 l4 l5 σ) (
        on_Cl (pf_J6_bitCount_0f7a4 l5 σ) fun v4 σ5 =>
        on_Cl (pf_J6_bitCount_0f7a4 l4 σ5) fun v6 σ7 =>
        on_Lt v4 v6 (
          pf_X11_pairsToMakeUp_54 (pf_X11_pairsToMakeUp_28 nf) l1 l2 l3 l4 l5 σ7) (
          pf_X11_pairsToMakeUp_59 (pf_X11_pairsToMakeUp_28 nf) l1 l2 l3 l4 l5 0 σ7))) (
      some (l4, σ))
def pf_X11_pairsToMakeUp (p0 : Int) (σ : on_S) : Option on_O :=
  on_Cl (pf_X9_needOf 2 p0 σ) fun v1 σ2 =>
  on_Rd σ2 (2 + 17) 2 p0 fun v3 =>
  pf_X11_pairsToMakeUp_28 on_N p0 v1 v3 (-1) 0 σ2
set_option maxRecDepth 100000 in
set_option maxHeartbeats 4000000 in
theorem gb_X11_pairsToMakeUp_59 {E : on_E} {z n : Nat} (X : on_X) (k28 : Int → Int → Int → Int → Int → on_S → Option on_O) (hN : 100 ≤ n) (hk28 : ∀ (l1 : Int) (l2 : Int) (l3 : Int) (l4 : Int) (l5 : Int) (σ : on_S), on_G X E cX11_pairsToMakeUp RX11 (some .int) 4 99 7 z n σ (k28 l1 l2 l3 l4 l5 σ) 28 [some (.ref (z + 0)), some (.int (on_i l1)), some (.int (on_i l2)), some (.int (on_i l3)), some (.int (on_i l4)), some (.int (on_i l5)), none] []) (l1 : Int) (l2 : Int) (l3 : Int) (l4 : Int) (l5 : Int) (s0 : Int) (σ : on_S) : on_G X E cX11_pairsToMakeUp RX11 (some .int) 4 99 7 z n σ (pf_X11_pairsToMakeUp_59 k28 l1 l2 l3 l4 l5 s0 σ) 59 [some (.ref (z + 0)), some (.int (on_i l1)), some (.int (on_i l2)), some (.int (on_i l3)), some (.int (on_i l4)), some (.int (on_i l5)), none] [.int (on_i s0)] := by
  rw [pf_X11_pairsToMakeUp_59]
  refine on_is6 rfl (tk_X11_pairsToMakeUp 30 rfl) ?_
  refine on_il6 (tk_X11_pairsToMakeUp 31 rfl) ?_
  refine on_if_eq (tk_X11_pairsToMakeUp 32 rfl) (tgt := 85) (by decide) ?_ ?_
  · refine on_al0 (tk_X11_pairsToMakeUp 33 rfl) ?_
    refine fg_11_2 hN kw_2_181 (tk_X11_pairsToMakeUp 34 rfl) ?_
    refine on_il1 (tk_X11_pairsToMakeUp 35 rfl) ?_
    refine on_il3 (tk_X11_pairsToMakeUp 36 rfl) ?_
    refine on_il5 (tk_X11_pairsToMakeUp 37 rfl) ?_
    refine on_cV3i 9 ms_X9_carriedIf kw_5_98 rfl rfl (ltS_0 (on_Sb2 hN)) (shS_0 (on_Sb2 hN)) (ct_X9_carriedIf hN (on_Sb2 hN)) rfl (tk_X11_pairsToMakeUp 38 rfl) fun v8 σ9 => ?_
    refine on_il2 (tk_X11_pairsToMakeUp 39 rfl) ?_
    refine on_icmp_lt (tk_X11_pairsToMakeUp 40 rfl) (tgt := 85) (by decide) ?_ ?_
    · refine on_il5 (tk_X11_pairsToMakeUp 41 rfl) ?_
      refine on_is4 rfl (tk_X11_pairsToMakeUp 42 rfl) ?_
      refine on_inc5 rfl (tk_X11_pairsToMakeUp 43 rfl) ?_
      refine on_goto (tk_X11_pairsToMakeUp 44 rfl) (tgt := 28) (by decide) ?_
      refine on_dr6 ?_
      exact hk28 _ _ _ _ _ _
    · refine on_inc5 rfl (tk_X11_pairsToMakeUp 43 rfl) ?_
      refine on_goto (tk_X11_pairsToMakeUp 44 rfl) (tgt := 28) (by decide) ?_
      refine on_dr6 ?_
      exact hk28 _ _ _ _ _ _
  · refine on_inc5 rfl (tk_X11_pairsToMakeUp 43 rfl) ?_
    refine on_goto (tk_X11_pairsToMakeUp 44 rfl) (tgt := 28) (by decide) ?_
    refine on_dr6 ?_
    exact hk28 _ _ _ _ _ _
set_option maxRecDepth 100000 in
set_option maxHeartbeats 4000000 in
theorem gb_X11_pairsToMakeUp_54 {E : on_E} {z n : Nat} (X : on_X) (k28 : Int → Int → Int → Int → Int → on_S → Option on_O) (hN : 100 ≤ n) (hk28 : ∀ (l1 : Int) (l2 : Int) (l3 : Int) (l4 : Int) (l5 : Int) (σ : on_S), on_G X E cX11_pairsToMakeUp RX11 (some .int) 4 99 7 z n σ (k28 l1 l2 l3 l4 l5 σ) 28 [some (.ref (z + 0)), some (.int (on_i l1)), some (.int (on_i l2)), some (.int (on_i l3)), some (.int (on_i l4)), some (.int (on_i l5)), none] []) (l1 : Int) (l2 : Int) (l3 : Int) (l4 : Int) (l5 : Int) (σ : on_S) : on_G X E cX11_pairsToMakeUp RX11 (some .int) 4 99 7 z n σ (pf_X11_pairsToMakeUp_54 k28 l1 l2 l3 l4 l5 σ) 54 [some (.ref (z + 0)), some (.int (on_i l1)), some (.int (on_i l2)), some (.int (on_i l3)), some (.int (on_i l4)), some (.int (on_i l5)), none] [] := by
  rw [pf_X11_pairsToMakeUp_54]
  refine on_iconst (tk_X11_pairsToMakeUp 27 rfl) ?_
  refine on_goto (tk_X11_pairsToMakeUp 28 rfl) (tgt := 59) (by decide) ?_
  exact gb_X11_pairsToMakeUp_59 X _ hN hk28 _ _ _ _ _ _ _
set_option maxRecDepth 100000 in
set_option maxHeartbeats 4000000 in
theorem gl_X11_pairsToMakeUp_28 {E : on_E} {z n : Nat} (X : on_X) (hN : 100 ≤ n) : ∀ (nf : Nat) (l1 : Int) (l2 : Int) (l3 : Int) (l4 : Int) (l5 : Int) (σ : on_S), on_G X E cX11_pairsToMakeUp RX11 (some .int) 4 99 7 z n σ (pf_X11_pairsToMakeUp_28 nf l1 l2 l3 l4 l5 σ) 28 [some (.ref (z + 0)), some (.int (on_i l1)), some (.int (on_i l2)), some (.int (on_i l3)), some (.int (on_i l4)), some (.int (on_i l5)), none] [] := by
  intro nf
  induction nf with
  | zero => intro l1 l2 l3 l4 l5 σ; exact on_none
  | succ nf ih =>
    intro l1 l2 l3 l4 l5 σ
    rw [pf_X11_pairsToMakeUp_28]
    refine on_il5 (tk_X11_pairsToMakeUp 16 rfl) ?_
    refine on_bipush (tk_X11_pairsToMakeUp 17 rfl) bp_16 ?_
    refine on_icmp_ge (tk_X11_pairsToMakeUp 18 rfl) (tgt := 91) (by decide) ?_ ?_
    · refine on_il4 (tk_X11_pairsToMakeUp 19 rfl) ?_
      refine on_iconst (tk_X11_pairsToMakeUp 20 rfl) ?_
      refine on_icmp_eq (tk_X11_pairsToMakeUp 21 rfl) (tgt := 54) (by decide) ?_ ?_
      · refine on_il5 (tk_X11_pairsToMakeUp 22 rfl) ?_
        refine on_cS1i ms_J6_bitCount_0f7a4 kw_5_92 (ct_J6_bitCount_0f7a4 hN) rfl (tk_X11_pairsToMakeUp 23 rfl) fun v4 σ5 => ?_
        refine on_il4 (tk_X11_pairsToMakeUp 24 rfl) ?_
        refine on_cS1i ms_J6_bitCount_0f7a4 kw_5_92 (ct_J6_bitCount_0f7a4 hN) rfl (tk_X11_pairsToMakeUp 25 rfl) fun v6 σ7 => ?_
        refine on_icmp_ge (tk_X11_pairsToMakeUp 26 rfl) (tgt := 58) (by decide) ?_ ?_
        · exact gb_X11_pairsToMakeUp_54 X _ hN ih _ _ _ _ _ _
        · refine on_iconst (tk_X11_pairsToMakeUp 29 rfl) ?_
          exact gb_X11_pairsToMakeUp_59 X _ hN ih _ _ _ _ _ _ _
      · exact gb_X11_pairsToMakeUp_54 X _ hN ih _ _ _ _ _ _
    · refine on_il4 (tk_X11_pairsToMakeUp 45 rfl) ?_
      exact on_iret (tk_X11_pairsToMakeUp 46 rfl)
set_option maxRecDepth 100000 in
set_option maxHeartbeats 4000000 in
theorem ct_X11_pairsToMakeUp {E : on_E} {z n : Nat} {p0 : Int} (hN : 100 ≤ n) {σ : on_S} : on_Sp E yX11_pairsToMakeUp cX11_pairsToMakeUp 7 (some .int) 4 99 z n [.ref (z + 0), .int (on_i p0)] σ (pf_X11_pairsToMakeUp p0 σ) := by
  refine on_met [some (.ref (z + 0)), some (.int (on_i p0)), none, none, none, none, none] (by decide) rfl rfl (fun X => ?_)
  rw [pf_X11_pairsToMakeUp]
  refine on_al0 (tk_X11_pairsToMakeUp 0 rfl) ?_
  refine fg_11_2 hN kw_2_181 (tk_X11_pairsToMakeUp 1 rfl) ?_
  refine on_il1 (tk_X11_pairsToMakeUp 2 rfl) ?_
  refine on_cV1i 9 ms_X9_needOf kw_3_235 rfl rfl (ltS_0 (on_Sb2 hN)) (shS_0 (on_Sb2 hN)) (ct_X9_needOf hN (on_Sb2 hN)) rfl (tk_X11_pairsToMakeUp 3 rfl) fun v1 σ2 => ?_
  refine on_is2 rfl (tk_X11_pairsToMakeUp 4 rfl) ?_
  refine on_al0 (tk_X11_pairsToMakeUp 5 rfl) ?_
  refine fg_11_2 hN kw_2_181 (tk_X11_pairsToMakeUp 6 rfl) ?_
  refine fg_9_13 (on_Sb2 hN) kw_1_195 (tk_X11_pairsToMakeUp 7 rfl) ?_
  refine fg_4_3 (on_Sb2 hN) kw_1_103 (tk_X11_pairsToMakeUp 8 rfl) ?_
  refine on_il1 (tk_X11_pairsToMakeUp 9 rfl) ?_
  refine on_iald (ltS_17 (on_Sb2 hN)) (shS_17 (on_Sb2 hN)) (tk_X11_pairsToMakeUp 10 rfl) fun v3 => ?_
  refine on_is3 rfl (tk_X11_pairsToMakeUp 11 rfl) ?_
  refine on_iconst (tk_X11_pairsToMakeUp 12 rfl) ?_
  refine on_is4 rfl (tk_X11_pairsToMakeUp 13 rfl) ?_
  refine on_iconst (tk_X11_pairsToMakeUp 14 rfl) ?_
  refine on_is5 rfl (tk_X11_pairsToMakeUp 15 rfl) ?_
  exact gl_X11_pairsToMakeUp_28 X  hN on_N _ _ _ _ _ _
def tb_X11_peace : List (Nat × Nat × Nat × Instr) := [(0, 1, 1, .aload_n 0), (1, 3, 4, .getfield 16), (4, 1, 5, .iload_n 1), (5, 3, 8, .invokevirtual 138), (8, 3, 11, .ifCond .ne 6), (11, 2, 13, .bipush (-2)), (13, 1, 14, .ireturn), (14, 1, 15, .aload_n 0), (15, 1, 16, .iload_n 1), (16, 3, 19, .invokevirtual 325), (19, 1, 20, .istore_n 2), (20, 1, 21, .iload_n 2), (21, 1, 22, .iconst (-1)), (22, 3, 25, .if_icmp .ne 7), (25, 1, 26, .iconst (-1)), (26, 3, 29, .goto 7), (29, 1, 30, .iload_n 2), (30, 3, 33, .invokestatic 328), (33, 1, 34, .ireturn)]
set_option maxRecDepth 100000 in
theorem tk_X11_peace (k : Nat) {pc n pc2 : Nat} {i : Instr} (hk : tb_X11_peace[k]? = some (pc, n, pc2, i)) : on_dq cX11_peace pc n pc2 i := on_ta (by decide +kernel) k hk
theorem ms_X11_peace : on_Mv yX11_peace cX11_peace 3 (some .int) 1 := ⟨kw_5_87, kw_5_85, kw_5_86, kw_1_1, by decide, by decide, by decide +kernel⟩
def pf_X11_peace (p0 : Int) (σ : on_S) : Option on_O :=
  on_Cl (pf_X9_hasNet 2 p0 σ) fun v1 σ2 =>
  on_Eq v1 0 (
    some ((-2), σ2)) (
    on_Cl (pf_X11_pairsToMakeUp p0 σ2) fun v3 σ4 =>
    on_Eq v3 (-1) (
      some ((-1), σ4)) (
      on_Cl (pf_J6_bitCount_0f7a4 v3 σ4) fun v5 σ6 =>
      some (v5, σ6)))
set_option maxRecDepth 100000 in
set_option maxHeartbeats 4000000 in
theorem ct_X11_peace {E : on_E} {z n : Nat} {p0 : Int} (hN : 100 ≤ n) {σ : on_S} : on_Sp E yX11_peace cX11_peace 3 (some .int) 5 125 z n [.ref (z + 0), .int (on_i p0)] σ (pf_X11_peace p0 σ) := by
  refine on_met [some (.ref (z + 0)), some (.int (on_i p0)), none] (by decide) rfl rfl (fun X => ?_)
  rw [pf_X11_peace]
  refine on_al0 (tk_X11_peace 0 rfl) ?_
  refine fg_11_2 hN kw_2_181 (tk_X11_peace 1 rfl) ?_
  refine on_il1 (tk_X11_peace 2 rfl) ?_
  refine on_cV1z 9 ms_X9_hasNet kw_3_231 rfl rfl (ltS_0 (on_Sb2 hN)) (shS_0 (on_Sb2 hN)) (ct_X9_hasNet hN (on_Sb2 hN)) rfl (tk_X11_peace 3 rfl) fun v1 σ2 => ?_
  refine on_if_ne (tk_X11_peace 4 rfl) (tgt := 14) (by decide) ?_ ?_
  · refine on_bipush (tk_X11_peace 5 rfl) bp_m2 ?_
    exact on_iret (tk_X11_peace 6 rfl)
  · refine on_al0 (tk_X11_peace 7 rfl) ?_
    refine on_il1 (tk_X11_peace 8 rfl) ?_
    refine on_cV1i 11 ms_X11_pairsToMakeUp kw_5_88 rfl rfl (ltc_0 hN) sh_0 (ct_X11_pairsToMakeUp hN) rfl (tk_X11_peace 9 rfl) fun v3 σ4 => ?_
    refine on_is2 rfl (tk_X11_peace 10 rfl) ?_
    refine on_il2 (tk_X11_peace 11 rfl) ?_
    refine on_iconst (tk_X11_peace 12 rfl) ?_
    refine on_icmp_ne (tk_X11_peace 13 rfl) (tgt := 29) (by decide) ?_ ?_
    · refine on_iconst (tk_X11_peace 14 rfl) ?_
      refine on_goto (tk_X11_peace 15 rfl) (tgt := 33) (by decide) ?_
      exact on_iret (tk_X11_peace 18 rfl)
    · refine on_il2 (tk_X11_peace 16 rfl) ?_
      refine on_cS1i ms_J6_bitCount_0f7a4 kw_5_92 (ct_J6_bitCount_0f7a4 hN) rfl (tk_X11_peace 17 rfl) fun v5 σ6 => ?_
      exact on_iret (tk_X11_peace 18 rfl)
def tb_X11_mends : List (Nat × Nat × Nat × Instr) := [(0, 1, 1, .aload_n 0), (1, 3, 4, .getfield 16), (4, 1, 5, .iload_n 1), (5, 3, 8, .invokevirtual 138), (8, 3, 11, .ifCond .ne 6), (11, 2, 13, .bipush (-2)), (13, 1, 14, .ireturn), (14, 1, 15, .aload_n 0), (15, 1, 16, .iload_n 1), (16, 3, 19, .invokevirtual 325), (19, 1, 20, .ireturn)]
set_option maxRecDepth 100000 in
theorem tk_X11_mends (k : Nat) {pc n pc2 : Nat} {i : Instr} (hk : tb_X11_mends[k]? = some (pc, n, pc2, i)) : on_dq cX11_mends pc n pc2 i := on_ta (by decide +kernel) k hk
theorem ms_X11_mends : on_Mv yX11_mends cX11_mends 2 (some .int) 1 := ⟨kw_5_102, kw_5_100, kw_5_101, kw_1_1, by decide, by decide, by decide +kernel⟩
def pf_X11_mends (p0 : Int) (σ : on_S) : Option on_O :=
  on_Cl (pf_X9_hasNet 2 p0 σ) fun v1 σ2 =>
  on_Eq v1 0 (
    some ((-2), σ2)) (
    on_Cl (pf_X11_pairsToMakeUp p0 σ2) fun v3 σ4 =>
    some (v3, σ4))
set_option maxRecDepth 100000 in
set_option maxHeartbeats 4000000 in
theorem ct_X11_mends {E : on_E} {z n : Nat} {p0 : Int} (hN : 100 ≤ n) {σ : on_S} : on_Sp E yX11_mends cX11_mends 2 (some .int) 5 125 z n [.ref (z + 0), .int (on_i p0)] σ (pf_X11_mends p0 σ) := by
  refine on_met [some (.ref (z + 0)), some (.int (on_i p0))] (by decide) rfl rfl (fun X => ?_)
  rw [pf_X11_mends]
  refine on_al0 (tk_X11_mends 0 rfl) ?_
  refine fg_11_2 hN kw_2_181 (tk_X11_mends 1 rfl) ?_
  refine on_il1 (tk_X11_mends 2 rfl) ?_
  refine on_cV1z 9 ms_X9_hasNet kw_3_231 rfl rfl (ltS_0 (on_Sb2 hN)) (shS_0 (on_Sb2 hN)) (ct_X9_hasNet hN (on_Sb2 hN)) rfl (tk_X11_mends 3 rfl) fun v1 σ2 => ?_
  refine on_if_ne (tk_X11_mends 4 rfl) (tgt := 14) (by decide) ?_ ?_
  · refine on_bipush (tk_X11_mends 5 rfl) bp_m2 ?_
    exact on_iret (tk_X11_mends 6 rfl)
  · refine on_al0 (tk_X11_mends 7 rfl) ?_
    refine on_il1 (tk_X11_mends 8 rfl) ?_
    refine on_cV1i 11 ms_X11_pairsToMakeUp kw_5_88 rfl rfl (ltc_0 hN) sh_0 (ct_X11_pairsToMakeUp hN) rfl (tk_X11_mends 9 rfl) fun v3 σ4 => ?_
    exact on_iret (tk_X11_mends 10 rfl)
def tb_X11_harmOf : List (Nat × Nat × Nat × Instr) := [(0, 1, 1, .aload_n 0), (1, 3, 4, .getfield 16), (4, 3, 7, .getfield 122), (7, 3, 10, .getfield 132), (10, 1, 11, .iload_n 1), (11, 1, 12, .iaload), (12, 1, 13, .istore_n 2), (13, 1, 14, .aload_n 0), (14, 3, 17, .getfield 16), (17, 3, 20, .getfield 122), (20, 3, 23, .getfield 135), (23, 1, 24, .iload_n 1), (24, 1, 25, .iaload), (25, 1, 26, .istore_n 3), (26, 1, 27, .iload_n 2), (27, 1, 28, .iconst (-1)), (28, 3, 31, .if_icmp .ne 5), (31, 1, 32, .iconst 0), (32, 1, 33, .ireturn), (33, 1, 34, .aload_n 0), (34, 3, 37, .getfield 16), (37, 3, 40, .invokevirtual 340), (40, 2, 42, .istore 4), (42, 1, 43, .aload_n 0), (43, 3, 46, .getfield 16), (46, 1, 47, .iload_n 1), (47, 3, 50, .invokevirtual 266), (50, 1, 51, .aload_n 0), (51, 3, 54, .getfield 16), (54, 3, 57, .invokevirtual 340), (57, 2, 59, .istore 5), (59, 1, 60, .aload_n 0), (60, 3, 63, .getfield 16), (63, 1, 64, .iload_n 1), (64, 1, 65, .iload_n 2), (65, 1, 66, .iload_n 3), (66, 3, 69, .invokevirtual 269), (69, 2, 71, .iload 4), (71, 2, 73, .iload 5), (73, 1, 74, .isub), (74, 1, 75, .ireturn)]
set_option maxRecDepth 100000 in
theorem tk_X11_harmOf (k : Nat) {pc n pc2 : Nat} {i : Instr} (hk : tb_X11_harmOf[k]? = some (pc, n, pc2, i)) : on_dq cX11_harmOf pc n pc2 i := on_ta (by decide +kernel) k hk
theorem ms_X11_harmOf : on_Mv yX11_harmOf cX11_harmOf 6 (some .int) 1 := ⟨kw_5_110, kw_5_109, (on_mp (q := (yX11_harmOf, 12)) (by decide +kernel)), kw_1_1, by decide, by decide, by decide +kernel⟩
def pf_X11_harmOf (p0 : Int) (σ : on_S) : Option on_O :=
  on_Rd σ (2 + 11) 9 p0 fun v1 =>
  on_Rd σ (2 + 12) 9 p0 fun v2 =>
  on_Eq v1 (-1) (
    some (0, σ)) (
    on_Cl (pf_X9_allCarry 2 σ) fun v3 σ4 =>
    on_Cl (pf_X9_takeAway 2 p0 σ4) fun _ σ6 =>
    on_Cl (pf_X9_allCarry 2 σ6) fun v7 σ8 =>
    on_Cl (pf_X9_putAt 2 p0 v1 v2 σ8) fun _ σ10 =>
    some ((v3 - v7), σ10))
set_option maxRecDepth 100000 in
set_option maxHeartbeats 4000000 in
theorem ct_X11_harmOf {E : on_E} {z n : Nat} {p0 : Int} (hN : 100 ≤ n) {σ : on_S} : on_Sp E yX11_harmOf cX11_harmOf 6 (some .int) 5 121 z n [.ref (z + 0), .int (on_i p0)] σ (pf_X11_harmOf p0 σ) := by
  refine on_met [some (.ref (z + 0)), some (.int (on_i p0)), none, none, none, none] (by decide) rfl rfl (fun X => ?_)
  rw [pf_X11_harmOf]
  refine on_al0 (tk_X11_harmOf 0 rfl) ?_
  refine fg_11_2 hN kw_2_181 (tk_X11_harmOf 1 rfl) ?_
  refine fg_9_12 (on_Sb2 hN) kw_1_188 (tk_X11_harmOf 2 rfl) ?_
  refine fg_3_3 (on_Sb2 hN) kw_1_57 (tk_X11_harmOf 3 rfl) ?_
  refine on_il1 (tk_X11_harmOf 4 rfl) ?_
  refine on_iald (ltS_11 (on_Sb2 hN)) (shS_11 (on_Sb2 hN)) (tk_X11_harmOf 5 rfl) fun v1 => ?_
  refine on_is2 rfl (tk_X11_harmOf 6 rfl) ?_
  refine on_al0 (tk_X11_harmOf 7 rfl) ?_
  refine fg_11_2 hN kw_2_181 (tk_X11_harmOf 8 rfl) ?_
  refine fg_9_12 (on_Sb2 hN) kw_1_188 (tk_X11_harmOf 9 rfl) ?_
  refine fg_3_4 (on_Sb2 hN) kw_1_61 (tk_X11_harmOf 10 rfl) ?_
  refine on_il1 (tk_X11_harmOf 11 rfl) ?_
  refine on_iald (ltS_12 (on_Sb2 hN)) (shS_12 (on_Sb2 hN)) (tk_X11_harmOf 12 rfl) fun v2 => ?_
  refine on_is3 rfl (tk_X11_harmOf 13 rfl) ?_
  refine on_il2 (tk_X11_harmOf 14 rfl) ?_
  refine on_iconst (tk_X11_harmOf 15 rfl) ?_
  refine on_icmp_ne (tk_X11_harmOf 16 rfl) (tgt := 33) (by decide) ?_ ?_
  · refine on_iconst (tk_X11_harmOf 17 rfl) ?_
    exact on_iret (tk_X11_harmOf 18 rfl)
  · refine on_al0 (tk_X11_harmOf 19 rfl) ?_
    refine fg_11_2 hN kw_2_181 (tk_X11_harmOf 20 rfl) ?_
    refine on_cV0i 9 ms_X9_allCarry kw_5_111 rfl rfl (ltS_0 (on_Sb2 hN)) (shS_0 (on_Sb2 hN)) (ct_X9_allCarry hN (on_Sb2 hN)) rfl (tk_X11_harmOf 21 rfl) fun v3 σ4 => ?_
    refine on_is4 rfl (tk_X11_harmOf 22 rfl) ?_
    refine on_al0 (tk_X11_harmOf 23 rfl) ?_
    refine fg_11_2 hN kw_2_181 (tk_X11_harmOf 24 rfl) ?_
    refine on_il1 (tk_X11_harmOf 25 rfl) ?_
    refine on_cV1v 9 ms_X9_takeAway kw_4_189 rfl rfl (ltS_0 (on_Sb2 hN)) (shS_0 (on_Sb2 hN)) (ct_X9_takeAway hN (on_Sb2 hN)) rfl (tk_X11_harmOf 26 rfl) fun v5 σ6 => ?_
    refine on_al0 (tk_X11_harmOf 27 rfl) ?_
    refine fg_11_2 hN kw_2_181 (tk_X11_harmOf 28 rfl) ?_
    refine on_cV0i 9 ms_X9_allCarry kw_5_111 rfl rfl (ltS_0 (on_Sb2 hN)) (shS_0 (on_Sb2 hN)) (ct_X9_allCarry hN (on_Sb2 hN)) rfl (tk_X11_harmOf 29 rfl) fun v7 σ8 => ?_
    refine on_is5 rfl (tk_X11_harmOf 30 rfl) ?_
    refine on_al0 (tk_X11_harmOf 31 rfl) ?_
    refine fg_11_2 hN kw_2_181 (tk_X11_harmOf 32 rfl) ?_
    refine on_il1 (tk_X11_harmOf 33 rfl) ?_
    refine on_il2 (tk_X11_harmOf 34 rfl) ?_
    refine on_il3 (tk_X11_harmOf 35 rfl) ?_
    refine on_cV3v 9 ms_X9_putAt kw_4_193 rfl rfl (ltS_0 (on_Sb2 hN)) (shS_0 (on_Sb2 hN)) (ct_X9_putAt hN (on_Sb2 hN)) rfl (tk_X11_harmOf 36 rfl) fun v9 σ10 => ?_
    refine on_il4 (tk_X11_harmOf 37 rfl) ?_
    refine on_il5 (tk_X11_harmOf 38 rfl) ?_
    refine on_isub (tk_X11_harmOf 39 rfl) ?_
    exact on_iret (tk_X11_harmOf 40 rfl)
def tb_X11_harm : List (Nat × Nat × Nat × Instr) := [(0, 1, 1, .aload_n 0), (1, 3, 4, .getfield 16), (4, 1, 5, .iload_n 1), (5, 3, 8, .invokevirtual 119), (8, 3, 11, .ifCond .eq 11), (11, 1, 12, .aload_n 0), (12, 1, 13, .iload_n 1), (13, 3, 16, .invokevirtual 337), (16, 3, 19, .goto 6), (19, 3, 22, .sipush (-1000)), (22, 1, 23, .ireturn)]
set_option maxRecDepth 100000 in
theorem tk_X11_harm (k : Nat) {pc n pc2 : Nat} {i : Instr} (hk : tb_X11_harm[k]? = some (pc, n, pc2, i)) : on_dq cX11_harm pc n pc2 i := on_ta (by decide +kernel) k hk
theorem ms_X11_harm : on_Mv yX11_harm cX11_harm 2 (some .int) 1 := ⟨kw_5_106, kw_5_104, kw_5_105, kw_1_1, by decide, by decide, by decide +kernel⟩
def pf_X11_harm (p0 : Int) (σ : on_S) : Option on_O :=
  on_Cl (pf_X9_hasMan 2 p0 σ) fun v1 σ2 =>
  on_Eq v1 0 (
    some ((-1000), σ2)) (
    on_Cl (pf_X11_harmOf p0 σ2) fun v3 σ4 =>
    some (v3, σ4))
set_option maxRecDepth 100000 in
set_option maxHeartbeats 4000000 in
theorem ct_X11_harm {E : on_E} {z n : Nat} {p0 : Int} (hN : 100 ≤ n) {σ : on_S} : on_Sp E yX11_harm cX11_harm 2 (some .int) 6 146 z n [.ref (z + 0), .int (on_i p0)] σ (pf_X11_harm p0 σ) := by
  refine on_met [some (.ref (z + 0)), some (.int (on_i p0))] (by decide) rfl rfl (fun X => ?_)
  rw [pf_X11_harm]
  refine on_al0 (tk_X11_harm 0 rfl) ?_
  refine fg_11_2 hN kw_2_181 (tk_X11_harm 1 rfl) ?_
  refine on_il1 (tk_X11_harm 2 rfl) ?_
  refine on_cV1z 9 ms_X9_hasMan kw_3_223 rfl rfl (ltS_0 (on_Sb2 hN)) (shS_0 (on_Sb2 hN)) (ct_X9_hasMan hN (on_Sb2 hN)) rfl (tk_X11_harm 3 rfl) fun v1 σ2 => ?_
  refine on_if_eq (tk_X11_harm 4 rfl) (tgt := 19) (by decide) ?_ ?_
  · refine on_al0 (tk_X11_harm 5 rfl) ?_
    refine on_il1 (tk_X11_harm 6 rfl) ?_
    refine on_cV1i 11 ms_X11_harmOf kw_5_107 rfl rfl (ltc_0 hN) sh_0 (ct_X11_harmOf hN) rfl (tk_X11_harm 7 rfl) fun v3 σ4 => ?_
    refine on_goto (tk_X11_harm 8 rfl) (tgt := 22) (by decide) ?_
    exact on_iret (tk_X11_harm 10 rfl)
  · refine on_sipush (tk_X11_harm 9 rfl) sp_m1000 ?_
    exact on_iret (tk_X11_harm 10 rfl)
def tb_X11_key : List (Nat × Nat × Nat × Instr) := [(0, 1, 1, .aload_n 0), (1, 3, 4, .getfield 16), (4, 3, 7, .invokevirtual 243), (7, 3, 10, .ifCond .ne 6), (10, 2, 12, .bipush (-2)), (12, 1, 13, .ireturn), (13, 1, 14, .iconst (-1)), (14, 1, 15, .istore_n 1), (15, 1, 16, .iconst 0), (16, 1, 17, .istore_n 2), (17, 1, 18, .iconst 0), (18, 1, 19, .istore_n 3), (19, 1, 20, .iload_n 3), (20, 1, 21, .aload_n 0), (21, 3, 24, .getfield 16), (24, 3, 27, .getfield 122), (27, 3, 30, .getfield 287), (30, 3, 33, .if_icmp .ge 32), (33, 1, 34, .aload_n 0), (34, 1, 35, .iload_n 3), (35, 3, 38, .invokevirtual 337), (38, 2, 40, .istore 4), (40, 1, 41, .iload_n 1), (41, 1, 42, .iconst (-1)), (42, 3, 45, .if_icmp .eq 9), (45, 2, 47, .iload 4), (47, 1, 48, .iload_n 2), (48, 3, 51, .if_icmp .le 8), (51, 1, 52, .iload_n 3), (52, 1, 53, .istore_n 1), (53, 2, 55, .iload 4), (55, 1, 56, .istore_n 2), (56, 3, 59, .iinc 3 1), (59, 3, 62, .goto (-40)), (62, 1, 63, .iload_n 1), (63, 1, 64, .ireturn)]
set_option maxRecDepth 100000 in
theorem tk_X11_key (k : Nat) {pc n pc2 : Nat} {i : Instr} (hk : tb_X11_key[k]? = some (pc, n, pc2, i)) : on_dq cX11_key pc n pc2 i := on_ta (by decide +kernel) k hk
theorem ms_X11_key : on_Mv yX11_key cX11_key 5 (some .int) 0 := ⟨kw_5_118, kw_5_116, kw_5_117, kw_1_1, by decide, by decide, by decide +kernel⟩
def pf_X11_key_51 (k19 : Int → Int → Int → on_S → Option on_O) (l3 : Int) (l4 : Int) (σ : on_S) : Option on_O :=
  k19 l3 l4 (l3 + 1) σ
def pf_X11_key_19 : Nat → Int → Int → Int → on_S → Option on_O
  | 0, _, _, _, _ => none
  | nf + 1, l1, l2, l3, σ =>
    on_Gt σ (2 + 8) 0 fun v3 =>
    on_Lt l3 v3 (
      on_Cl (pf_X11_harmOf l3 σ) fun v4 σ5 =>
      on_Eq l1 (-1) (
        pf_X11_key_51 (pf_X11_key_19 nf) l3 v4 σ5) (
        on_Le v4 l2 (
          pf_X11_key_19 nf l1 l2 (l3 + 1) σ5) (
          pf_X11_key_51 (pf_X11_key_19 nf) l3 v4 σ5))) (
      some (l1, σ))
def pf_X11_key (σ : on_S) : Option on_O :=
  on_Cl (pf_X9_isThere 2 σ) fun v1 σ2 =>
  on_Eq v1 0 (
    some ((-2), σ2)) (
    pf_X11_key_19 on_N (-1) 0 0 σ2)
set_option maxRecDepth 100000 in
set_option maxHeartbeats 4000000 in
theorem gb_X11_key_51 {E : on_E} {z n : Nat} (X : on_X) (k19 : Int → Int → Int → on_S → Option on_O) (hN : 100 ≤ n) (hk19 : ∀ (l1 : Int) (l2 : Int) (l3 : Int) (σ : on_S), on_G X E cX11_key RX11 (some .int) 6 146 5 z n σ (k19 l1 l2 l3 σ) 19 [some (.ref (z + 0)), some (.int (on_i l1)), some (.int (on_i l2)), some (.int (on_i l3)), none] []) (l3 : Int) (l4 : Int) (σ : on_S) : on_G X E cX11_key RX11 (some .int) 6 146 5 z n σ (pf_X11_key_51 k19 l3 l4 σ) 51 [some (.ref (z + 0)), none, none, some (.int (on_i l3)), some (.int (on_i l4))] [] := by
  rw [pf_X11_key_51]
  refine on_il3 (tk_X11_key 28 rfl) ?_
  refine on_is1 rfl (tk_X11_key 29 rfl) ?_
  refine on_il4 (tk_X11_key 30 rfl) ?_
  refine on_is2 rfl (tk_X11_key 31 rfl) ?_
  refine on_inc3 rfl (tk_X11_key 32 rfl) ?_
  refine on_goto (tk_X11_key 33 rfl) (tgt := 19) (by decide) ?_
  refine on_dr4 ?_
  exact hk19 _ _ _ _
set_option maxRecDepth 100000 in
set_option maxHeartbeats 4000000 in
theorem gl_X11_key_19 {E : on_E} {z n : Nat} (X : on_X) (hN : 100 ≤ n) : ∀ (nf : Nat) (l1 : Int) (l2 : Int) (l3 : Int) (σ : on_S), on_G X E cX11_key RX11 (some .int) 6 146 5 z n σ (pf_X11_key_19 nf l1 l2 l3 σ) 19 [some (.ref (z + 0)), some (.int (on_i l1)), some (.int (on_i l2)), some (.int (on_i l3)), none] [] := by
  intro nf
  induction nf with
  | zero => intro l1 l2 l3 σ; exact on_none
  | succ nf ih =>
    intro l1 l2 l3 σ
    rw [pf_X11_key_19]
    refine on_il3 (tk_X11_key 12 rfl) ?_
    refine on_al0 (tk_X11_key 13 rfl) ?_
    refine fg_11_2 hN kw_2_181 (tk_X11_key 14 rfl) ?_
    refine fg_9_12 (on_Sb2 hN) kw_1_188 (tk_X11_key 15 rfl) ?_
    refine fg_3_0 (on_Sb2 hN) kw_1_47 (tk_X11_key 16 rfl) fun v3 => ?_
    refine on_icmp_ge (tk_X11_key 17 rfl) (tgt := 62) (by decide) ?_ ?_
    · refine on_al0 (tk_X11_key 18 rfl) ?_
      refine on_il3 (tk_X11_key 19 rfl) ?_
      refine on_cV1i 11 ms_X11_harmOf kw_5_107 rfl rfl (ltc_0 hN) sh_0 (ct_X11_harmOf hN) rfl (tk_X11_key 20 rfl) fun v4 σ5 => ?_
      refine on_is4 rfl (tk_X11_key 21 rfl) ?_
      refine on_il1 (tk_X11_key 22 rfl) ?_
      refine on_iconst (tk_X11_key 23 rfl) ?_
      refine on_icmp_eq (tk_X11_key 24 rfl) (tgt := 51) (by decide) ?_ ?_
      · refine on_il4 (tk_X11_key 25 rfl) ?_
        refine on_il2 (tk_X11_key 26 rfl) ?_
        refine on_icmp_le (tk_X11_key 27 rfl) (tgt := 56) (by decide) ?_ ?_
        · refine on_dr1 ?_
          refine on_dr2 ?_
          exact gb_X11_key_51 X _ hN ih _ _ _
        · refine on_inc3 rfl (tk_X11_key 32 rfl) ?_
          refine on_goto (tk_X11_key 33 rfl) (tgt := 19) (by decide) ?_
          refine on_dr4 ?_
          exact ih _ _ _ _
      · refine on_dr1 ?_
        refine on_dr2 ?_
        exact gb_X11_key_51 X _ hN ih _ _ _
    · refine on_il1 (tk_X11_key 34 rfl) ?_
      exact on_iret (tk_X11_key 35 rfl)
set_option maxRecDepth 100000 in
set_option maxHeartbeats 4000000 in
theorem ct_X11_key {E : on_E} {z n : Nat} (hN : 100 ≤ n) {σ : on_S} : on_Sp E yX11_key cX11_key 5 (some .int) 6 146 z n [.ref (z + 0)] σ (pf_X11_key  σ) := by
  refine on_met [some (.ref (z + 0)), none, none, none, none] (by decide) rfl rfl (fun X => ?_)
  rw [pf_X11_key]
  refine on_al0 (tk_X11_key 0 rfl) ?_
  refine fg_11_2 hN kw_2_181 (tk_X11_key 1 rfl) ?_
  refine on_cV0z 9 ms_X9_isThere kw_4_152 rfl rfl (ltS_0 (on_Sb2 hN)) (shS_0 (on_Sb2 hN)) (ct_X9_isThere hN (on_Sb2 hN)) rfl (tk_X11_key 2 rfl) fun v1 σ2 => ?_
  refine on_if_ne (tk_X11_key 3 rfl) (tgt := 13) (by decide) ?_ ?_
  · refine on_bipush (tk_X11_key 4 rfl) bp_m2 ?_
    exact on_iret (tk_X11_key 5 rfl)
  · refine on_iconst (tk_X11_key 6 rfl) ?_
    refine on_is1 rfl (tk_X11_key 7 rfl) ?_
    refine on_iconst (tk_X11_key 8 rfl) ?_
    refine on_is2 rfl (tk_X11_key 9 rfl) ?_
    refine on_iconst (tk_X11_key 10 rfl) ?_
    refine on_is3 rfl (tk_X11_key 11 rfl) ?_
    exact gl_X11_key_19 X  hN on_N _ _ _ _
def tb_X11_carriedWith : List (Nat × Nat × Nat × Instr) := [(0, 1, 1, .aload_n 0), (1, 3, 4, .getfield 16), (4, 3, 7, .getfield 141), (7, 3, 10, .getfield 170), (10, 1, 11, .iload_n 2), (11, 1, 12, .iaload), (12, 1, 13, .iconst (-1)), (13, 3, 16, .if_icmp .eq 5), (16, 1, 17, .iconst 0), (17, 1, 18, .ireturn), (18, 1, 19, .aload_n 0), (19, 3, 22, .getfield 16), (22, 1, 23, .iload_n 1), (23, 1, 24, .iload_n 2), (24, 1, 25, .iconst 4), (25, 1, 26, .idiv), (26, 1, 27, .iload_n 2), (27, 1, 28, .iconst 4), (28, 1, 29, .irem), (29, 3, 32, .invokevirtual 269), (32, 1, 33, .aload_n 0), (33, 3, 36, .getfield 16), (36, 3, 39, .invokevirtual 340), (39, 1, 40, .istore_n 3), (40, 1, 41, .aload_n 0), (41, 3, 44, .getfield 16), (44, 1, 45, .iload_n 1), (45, 3, 48, .invokevirtual 266), (48, 1, 49, .iload_n 3), (49, 1, 50, .ireturn)]
set_option maxRecDepth 100000 in
theorem tk_X11_carriedWith (k : Nat) {pc n pc2 : Nat} {i : Instr} (hk : tb_X11_carriedWith[k]? = some (pc, n, pc2, i)) : on_dq cX11_carriedWith pc n pc2 i := on_ta (by decide +kernel) k hk
theorem ms_X11_carriedWith : on_Mv yX11_carriedWith cX11_carriedWith 4 (some .int) 2 := ⟨kw_5_126, kw_5_125, (on_mp (q := (yX11_carriedWith, 12)) (by decide +kernel)), kw_1_1, by decide, by decide, by decide +kernel⟩
def pf_X11_carriedWith (p0 : Int) (p1 : Int) (σ : on_S) : Option on_O :=
  on_Rd σ (2 + 19) 8 p1 fun v1 =>
  on_Eq v1 (-1) (
    on_Dv p1 4 fun v2 =>
    on_Rm p1 4 fun v3 =>
    on_Cl (pf_X9_putAt 2 p0 v2 v3 σ) fun _ σ5 =>
    on_Cl (pf_X9_allCarry 2 σ5) fun v6 σ7 =>
    on_Cl (pf_X9_takeAway 2 p0 σ7) fun _ σ9 =>
    some (v6, σ9)) (
    some (0, σ))
set_option maxRecDepth 100000 in
set_option maxHeartbeats 4000000 in
theorem ct_X11_carriedWith {E : on_E} {z n : Nat} {p0 : Int} {p1 : Int} (hN : 100 ≤ n) {σ : on_S} : on_Sp E yX11_carriedWith cX11_carriedWith 4 (some .int) 5 121 z n [.ref (z + 0), .int (on_i p0), .int (on_i p1)] σ (pf_X11_carriedWith p0 p1 σ) := by
  refine on_met [some (.ref (z + 0)), some (.int (on_i p0)), some (.int (on_i p1)), none] (by decide) rfl rfl (fun X => ?_)
  rw [pf_X11_carriedWith]
  refine on_al0 (tk_X11_carriedWith 0 rfl) ?_
  refine fg_11_2 hN kw_2_181 (tk_X11_carriedWith 1 rfl) ?_
  refine fg_9_13 (on_Sb2 hN) kw_1_195 (tk_X11_carriedWith 2 rfl) ?_
  refine fg_4_5 (on_Sb2 hN) kw_1_112 (tk_X11_carriedWith 3 rfl) ?_
  refine on_il2 (tk_X11_carriedWith 4 rfl) ?_
  refine on_iald (ltS_19 (on_Sb2 hN)) (shS_19 (on_Sb2 hN)) (tk_X11_carriedWith 5 rfl) fun v1 => ?_
  refine on_iconst (tk_X11_carriedWith 6 rfl) ?_
  refine on_icmp_eq (tk_X11_carriedWith 7 rfl) (tgt := 18) (by decide) ?_ ?_
  · refine on_iconst (tk_X11_carriedWith 8 rfl) ?_
    exact on_iret (tk_X11_carriedWith 9 rfl)
  · refine on_al0 (tk_X11_carriedWith 10 rfl) ?_
    refine fg_11_2 hN kw_2_181 (tk_X11_carriedWith 11 rfl) ?_
    refine on_il1 (tk_X11_carriedWith 12 rfl) ?_
    refine on_il2 (tk_X11_carriedWith 13 rfl) ?_
    refine on_iconst (tk_X11_carriedWith 14 rfl) ?_
    refine on_idiv (tk_X11_carriedWith 15 rfl) fun v2 => ?_
    refine on_il2 (tk_X11_carriedWith 16 rfl) ?_
    refine on_iconst (tk_X11_carriedWith 17 rfl) ?_
    refine on_irem (tk_X11_carriedWith 18 rfl) fun v3 => ?_
    refine on_cV3v 9 ms_X9_putAt kw_4_193 rfl rfl (ltS_0 (on_Sb2 hN)) (shS_0 (on_Sb2 hN)) (ct_X9_putAt hN (on_Sb2 hN)) rfl (tk_X11_carriedWith 19 rfl) fun v4 σ5 => ?_
    refine on_al0 (tk_X11_carriedWith 20 rfl) ?_
    refine fg_11_2 hN kw_2_181 (tk_X11_carriedWith 21 rfl) ?_
    refine on_cV0i 9 ms_X9_allCarry kw_5_111 rfl rfl (ltS_0 (on_Sb2 hN)) (shS_0 (on_Sb2 hN)) (ct_X9_allCarry hN (on_Sb2 hN)) rfl (tk_X11_carriedWith 22 rfl) fun v6 σ7 => ?_
    refine on_is3 rfl (tk_X11_carriedWith 23 rfl) ?_
    refine on_al0 (tk_X11_carriedWith 24 rfl) ?_
    refine fg_11_2 hN kw_2_181 (tk_X11_carriedWith 25 rfl) ?_
    refine on_il1 (tk_X11_carriedWith 26 rfl) ?_
    refine on_cV1v 9 ms_X9_takeAway kw_4_189 rfl rfl (ltS_0 (on_Sb2 hN)) (shS_0 (on_Sb2 hN)) (ct_X9_takeAway hN (on_Sb2 hN)) rfl (tk_X11_carriedWith 27 rfl) fun v8 σ9 => ?_
    refine on_il3 (tk_X11_carriedWith 28 rfl) ?_
    exact on_iret (tk_X11_carriedWith 29 rfl)
def tb_X11_helps : List (Nat × Nat × Nat × Instr) := [(0, 1, 1, .aload_n 0), (1, 3, 4, .getfield 16), (4, 3, 7, .invokevirtual 243), (7, 3, 10, .ifCond .ne 6), (10, 2, 12, .bipush (-2)), (12, 1, 13, .ireturn), (13, 1, 14, .iconst (-1)), (14, 1, 15, .istore_n 1), (15, 1, 16, .aload_n 0), (16, 3, 19, .getfield 16), (19, 3, 22, .invokevirtual 340), (22, 1, 23, .istore_n 2), (23, 1, 24, .iconst 0), (24, 1, 25, .istore_n 3), (25, 1, 26, .iload_n 3), (26, 1, 27, .aload_n 0), (27, 3, 30, .getfield 16), (30, 3, 33, .getfield 122), (33, 3, 36, .getfield 287), (36, 3, 39, .if_icmp .ge 90), (39, 1, 40, .aload_n 0), (40, 3, 43, .getfield 16), (43, 3, 46, .getfield 122), (46, 3, 49, .getfield 132), (49, 1, 50, .iload_n 3), (50, 1, 51, .iaload), (51, 1, 52, .iconst (-1)), (52, 3, 55, .if_icmp .eq 6), (55, 3, 58, .goto 65), (58, 1, 59, .iconst 0), (59, 2, 61, .istore 4), (61, 2, 63, .iload 4), (63, 1, 64, .aload_n 0), (64, 3, 67, .getfield 16), (67, 3, 70, .getfield 141), (70, 3, 73, .getfield 312), (73, 1, 74, .iconst 4), (74, 1, 75, .imul), (75, 3, 78, .if_icmp .ge 45), (78, 1, 79, .aload_n 0), (79, 1, 80, .iload_n 3), (80, 2, 82, .iload 4), (82, 3, 85, .invokevirtual 343), (85, 2, 87, .istore 5), (87, 2, 89, .iload 5), (89, 1, 90, .iload_n 2), (90, 3, 93, .if_icmp .le 24), (93, 2, 95, .iload 5), (95, 1, 96, .istore_n 2), (96, 2, 98, .bipush 100), (98, 1, 99, .iload_n 3), (99, 1, 100, .imul), (100, 2, 102, .bipush 10), (102, 2, 104, .iload 4), (104, 1, 105, .iconst 4), (105, 1, 106, .idiv), (106, 1, 107, .imul), (107, 1, 108, .iadd), (108, 2, 110, .iload 4), (110, 1, 111, .iconst 4), (111, 1, 112, .irem), (112, 1, 113, .iadd), (113, 1, 114, .istore_n 1), (114, 3, 117, .iinc 4 1), (117, 3, 120, .goto (-56)), (120, 3, 123, .iinc 3 1), (123, 3, 126, .goto (-98)), (126, 1, 127, .iload_n 1), (127, 1, 128, .ireturn)]
set_option maxRecDepth 100000 in
theorem tk_X11_helps (k : Nat) {pc n pc2 : Nat} {i : Instr} (hk : tb_X11_helps[k]? = some (pc, n, pc2, i)) : on_dq cX11_helps pc n pc2 i := on_ta (by decide +kernel) k hk
theorem ms_X11_helps : on_Mv yX11_helps cX11_helps 6 (some .int) 0 := ⟨kw_5_122, kw_5_120, kw_5_121, kw_1_1, by decide, by decide, by decide +kernel⟩
def pf_X11_helps_61 (k25 : Int → Int → Int → on_S → Option on_O) : Nat → Int → Int → Int → Int → on_S → Option on_O
  | 0, _, _, _, _, _ => none
  | nf + 1, l1, l2, l3, l4, σ =>
    on_Gt σ (2 + 14) 0 fun v7 =>
    on_Lt l4 (v7 * 4) (
      on_Cl (pf_X11_carriedWith l3 l4 σ) fun v8 σ9 =>
      on_Le v8 l2 (
        pf_X11_helps_61 k25 nf l1 l2 l3 (l4 + 1) σ9) (
        on_Dv l4 4 fun v10 =>
        on_Rm l4 4 fun v11 =>
        pf_X11_helps_61 k25 nf (((100 * l3) + (10 * v10)) + v11) v8 l3 (l4 + 1) σ9)) (
      k25 l1 l2 (l3 + 1) σ)
def pf_X11_helps_25 : Nat → Int → Int → Int → on_S → Option on_O
  | 0, _, _, _, _ => none
  | nf + 1, l1, l2, l3, σ =>
    on_Gt σ (2 + 8) 0 fun v5 =>
    on_Lt l3 v5 (
      on_Rd σ (2 + 11) 9 l3 fun v6 =>
      on_Eq v6 (-1) (
        pf_X11_helps_61 (pf_X11_helps_25 nf) on_N l1 l2 l3 0 σ) (
        pf_X11_helps_25 nf l1 l2 (l3 + 1) σ)) (
      some (l1, σ))
def pf_X11_helps (σ : on_S) : Option on_O :=
  on_Cl (pf_X9_isThere 2 σ) fun v1 σ2 =>
  on_Eq v1 0 (
    some ((-2), σ2)) (
    on_Cl (pf_X9_allCarry 2 σ2) fun v3 σ4 =>
    pf_X11_helps_25 on_N (-1) v3 0 σ4)
set_option maxRecDepth 100000 in
set_option maxHeartbeats 4000000 in
theorem gl_X11_helps_61 {E : on_E} {z n : Nat} (X : on_X) (k25 : Int → Int → Int → on_S → Option on_O) (hN : 100 ≤ n) (hk25 : ∀ (l1 : Int) (l2 : Int) (l3 : Int) (σ : on_S), on_G X E cX11_helps RX11 (some .int) 6 144 6 z n σ (k25 l1 l2 l3 σ) 25 [some (.ref (z + 0)), some (.int (on_i l1)), some (.int (on_i l2)), some (.int (on_i l3)), none, none] []) : ∀ (nf : Nat) (l1 : Int) (l2 : Int) (l3 : Int) (l4 : Int) (σ : on_S), on_G X E cX11_helps RX11 (some .int) 6 144 6 z n σ (pf_X11_helps_61 k25 nf l1 l2 l3 l4 σ) 61 [some (.ref (z + 0)), some (.int (on_i l1)), some (.int (on_i l2)), some (.int (on_i l3)), some (.int (on_i l4)), none] [] := by
  intro nf
  induction nf with
  | zero => intro l1 l2 l3 l4 σ; exact on_none
  | succ nf ih =>
    intro l1 l2 l3 l4 σ
    rw [pf_X11_helps_61]
    refine on_il4 (tk_X11_helps 31 rfl) ?_
    refine on_al0 (tk_X11_helps 32 rfl) ?_
    refine fg_11_2 hN kw_2_181 (tk_X11_helps 33 rfl) ?_
    refine fg_9_13 (on_Sb2 hN) kw_1_195 (tk_X11_helps 34 rfl) ?_
    refine fg_4_0 (on_Sb2 hN) kw_1_90 (tk_X11_helps 35 rfl) fun v7 => ?_
    refine on_iconst (tk_X11_helps 36 rfl) ?_
    refine on_imul (tk_X11_helps 37 rfl) ?_
    refine on_icmp_ge (tk_X11_helps 38 rfl) (tgt := 120) (by decide) ?_ ?_
    · refine on_al0 (tk_X11_helps 39 rfl) ?_
      refine on_il3 (tk_X11_helps 40 rfl) ?_
      refine on_il4 (tk_X11_helps 41 rfl) ?_
      refine on_cV2i 11 ms_X11_carriedWith kw_5_123 rfl rfl (ltc_0 hN) sh_0 (ct_X11_carriedWith hN) rfl (tk_X11_helps 42 rfl) fun v8 σ9 => ?_
      refine on_is5 rfl (tk_X11_helps 43 rfl) ?_
      refine on_il5 (tk_X11_helps 44 rfl) ?_
      refine on_il2 (tk_X11_helps 45 rfl) ?_
      refine on_icmp_le (tk_X11_helps 46 rfl) (tgt := 114) (by decide) ?_ ?_
      · refine on_il5 (tk_X11_helps 47 rfl) ?_
        refine on_is2 rfl (tk_X11_helps 48 rfl) ?_
        refine on_bipush (tk_X11_helps 49 rfl) bp_100 ?_
        refine on_il3 (tk_X11_helps 50 rfl) ?_
        refine on_imul (tk_X11_helps 51 rfl) ?_
        refine on_bipush (tk_X11_helps 52 rfl) bp_10 ?_
        refine on_il4 (tk_X11_helps 53 rfl) ?_
        refine on_iconst (tk_X11_helps 54 rfl) ?_
        refine on_idiv (tk_X11_helps 55 rfl) fun v10 => ?_
        refine on_imul (tk_X11_helps 56 rfl) ?_
        refine on_iadd (tk_X11_helps 57 rfl) ?_
        refine on_il4 (tk_X11_helps 58 rfl) ?_
        refine on_iconst (tk_X11_helps 59 rfl) ?_
        refine on_irem (tk_X11_helps 60 rfl) fun v11 => ?_
        refine on_iadd (tk_X11_helps 61 rfl) ?_
        refine on_is1 rfl (tk_X11_helps 62 rfl) ?_
        refine on_inc4 rfl (tk_X11_helps 63 rfl) ?_
        refine on_goto (tk_X11_helps 64 rfl) (tgt := 61) (by decide) ?_
        refine on_dr5 ?_
        exact ih _ _ _ _ _
      · refine on_inc4 rfl (tk_X11_helps 63 rfl) ?_
        refine on_goto (tk_X11_helps 64 rfl) (tgt := 61) (by decide) ?_
        refine on_dr5 ?_
        exact ih _ _ _ _ _
    · refine on_inc3 rfl (tk_X11_helps 65 rfl) ?_
      refine on_goto (tk_X11_helps 66 rfl) (tgt := 25) (by decide) ?_
      refine on_dr4 ?_
      exact hk25 _ _ _ _
set_option maxRecDepth 100000 in
set_option maxHeartbeats 4000000 in
theorem gl_X11_helps_25 {E : on_E} {z n : Nat} (X : on_X) (hN : 100 ≤ n) : ∀ (nf : Nat) (l1 : Int) (l2 : Int) (l3 : Int) (σ : on_S), on_G X E cX11_helps RX11 (some .int) 6 144 6 z n σ (pf_X11_helps_25 nf l1 l2 l3 σ) 25 [some (.ref (z + 0)), some (.int (on_i l1)), some (.int (on_i l2)), some (.int (on_i l3)), none, none] [] := by
  intro nf
  induction nf with
  | zero => intro l1 l2 l3 σ; exact on_none
  | succ nf ih =>
    intro l1 l2 l3 σ
    rw [pf_X11_helps_25]
    refine on_il3 (tk_X11_helps 14 rfl) ?_
    refine on_al0 (tk_X11_helps 15 rfl) ?_
    refine fg_11_2 hN kw_2_181 (tk_X11_helps 16 rfl) ?_
    refine fg_9_12 (on_Sb2 hN) kw_1_188 (tk_X11_helps 17 rfl) ?_
    refine fg_3_0 (on_Sb2 hN) kw_1_47 (tk_X11_helps 18 rfl) fun v5 => ?_
    refine on_icmp_ge (tk_X11_helps 19 rfl) (tgt := 126) (by decide) ?_ ?_
    · refine on_al0 (tk_X11_helps 20 rfl) ?_
      refine fg_11_2 hN kw_2_181 (tk_X11_helps 21 rfl) ?_
      refine fg_9_12 (on_Sb2 hN) kw_1_188 (tk_X11_helps 22 rfl) ?_
      refine fg_3_3 (on_Sb2 hN) kw_1_57 (tk_X11_helps 23 rfl) ?_
      refine on_il3 (tk_X11_helps 24 rfl) ?_
      refine on_iald (ltS_11 (on_Sb2 hN)) (shS_11 (on_Sb2 hN)) (tk_X11_helps 25 rfl) fun v6 => ?_
      refine on_iconst (tk_X11_helps 26 rfl) ?_
      refine on_icmp_eq (tk_X11_helps 27 rfl) (tgt := 58) (by decide) ?_ ?_
      · refine on_goto (tk_X11_helps 28 rfl) (tgt := 120) (by decide) ?_
        refine on_inc3 rfl (tk_X11_helps 65 rfl) ?_
        refine on_goto (tk_X11_helps 66 rfl) (tgt := 25) (by decide) ?_
        exact ih _ _ _ _
      · refine on_iconst (tk_X11_helps 29 rfl) ?_
        refine on_is4 rfl (tk_X11_helps 30 rfl) ?_
        exact gl_X11_helps_61 X _ hN ih on_N _ _ _ _ _
    · refine on_il1 (tk_X11_helps 67 rfl) ?_
      exact on_iret (tk_X11_helps 68 rfl)
set_option maxRecDepth 100000 in
set_option maxHeartbeats 4000000 in
theorem ct_X11_helps {E : on_E} {z n : Nat} (hN : 100 ≤ n) {σ : on_S} : on_Sp E yX11_helps cX11_helps 6 (some .int) 6 144 z n [.ref (z + 0)] σ (pf_X11_helps  σ) := by
  refine on_met [some (.ref (z + 0)), none, none, none, none, none] (by decide) rfl rfl (fun X => ?_)
  rw [pf_X11_helps]
  refine on_al0 (tk_X11_helps 0 rfl) ?_
  refine fg_11_2 hN kw_2_181 (tk_X11_helps 1 rfl) ?_
  refine on_cV0z 9 ms_X9_isThere kw_4_152 rfl rfl (ltS_0 (on_Sb2 hN)) (shS_0 (on_Sb2 hN)) (ct_X9_isThere hN (on_Sb2 hN)) rfl (tk_X11_helps 2 rfl) fun v1 σ2 => ?_
  refine on_if_ne (tk_X11_helps 3 rfl) (tgt := 13) (by decide) ?_ ?_
  · refine on_bipush (tk_X11_helps 4 rfl) bp_m2 ?_
    exact on_iret (tk_X11_helps 5 rfl)
  · refine on_iconst (tk_X11_helps 6 rfl) ?_
    refine on_is1 rfl (tk_X11_helps 7 rfl) ?_
    refine on_al0 (tk_X11_helps 8 rfl) ?_
    refine fg_11_2 hN kw_2_181 (tk_X11_helps 9 rfl) ?_
    refine on_cV0i 9 ms_X9_allCarry kw_5_111 rfl rfl (ltS_0 (on_Sb2 hN)) (shS_0 (on_Sb2 hN)) (ct_X9_allCarry hN (on_Sb2 hN)) rfl (tk_X11_helps 10 rfl) fun v3 σ4 => ?_
    refine on_is2 rfl (tk_X11_helps 11 rfl) ?_
    refine on_iconst (tk_X11_helps 12 rfl) ?_
    refine on_is3 rfl (tk_X11_helps 13 rfl) ?_
    exact gl_X11_helps_25 X  hN on_N _ _ _ _
def tb_X11_alarm : List (Nat × Nat × Nat × Instr) := [(0, 1, 1, .aload_n 0), (1, 3, 4, .getfield 16), (4, 1, 5, .iload_n 1), (5, 3, 8, .invokevirtual 346), (8, 3, 11, .ifCond .eq 14), (11, 1, 12, .aload_n 0), (12, 3, 15, .getfield 16), (15, 1, 16, .iload_n 2), (16, 3, 19, .invokevirtual 346), (19, 3, 22, .ifCond .ne 6), (22, 2, 24, .bipush (-2)), (24, 1, 25, .ireturn), (25, 1, 26, .aload_n 0), (26, 3, 29, .getfield 63), (29, 3, 32, .invokevirtual 349), (32, 1, 33, .aload_n 0), (33, 3, 36, .getfield 63), (36, 1, 37, .iload_n 1), (37, 1, 38, .iload_n 2), (38, 3, 41, .invokevirtual 352), (41, 1, 42, .ireturn)]
set_option maxRecDepth 100000 in
theorem tk_X11_alarm (k : Nat) {pc n pc2 : Nat} {i : Instr} (hk : tb_X11_alarm[k]? = some (pc, n, pc2, i)) : on_dq cX11_alarm pc n pc2 i := on_ta (by decide +kernel) k hk
theorem ms_X11_alarm : on_Mv yX11_alarm cX11_alarm 3 (some .int) 2 := ⟨kw_5_130, kw_5_128, kw_5_129, kw_1_1, by decide, by decide, by decide +kernel⟩
def pf_X11_alarm (p0 : Int) (p1 : Int) (σ : on_S) : Option on_O :=
  on_Cl (pf_X9_hasHouse 2 p0 σ) fun v1 σ2 =>
  on_Eq v1 0 (
    some ((-2), σ2)) (
    on_Cl (pf_X9_hasHouse 2 p1 σ2) fun v3 σ4 =>
    on_Eq v3 0 (
      some ((-2), σ4)) (
      on_Cl (pf_X0_measure σ4) fun _ σ6 =>
      on_Cl (pf_X0_minutesOf p0 p1 σ6) fun v7 σ8 =>
      some (v7, σ8)))
set_option maxRecDepth 100000 in
set_option maxHeartbeats 4000000 in
theorem ct_X11_alarm {E : on_E} {z n : Nat} {p0 : Int} {p1 : Int} (hN : 100 ≤ n) {σ : on_S} : on_Sp E yX11_alarm cX11_alarm 3 (some .int) 2 45 z n [.ref (z + 0), .int (on_i p0), .int (on_i p1)] σ (pf_X11_alarm p0 p1 σ) := by
  refine on_met [some (.ref (z + 0)), some (.int (on_i p0)), some (.int (on_i p1))] (by decide) rfl rfl (fun X => ?_)
  rw [pf_X11_alarm]
  refine on_al0 (tk_X11_alarm 0 rfl) ?_
  refine fg_11_2 hN kw_2_181 (tk_X11_alarm 1 rfl) ?_
  refine on_il1 (tk_X11_alarm 2 rfl) ?_
  refine on_cV1z 9 ms_X9_hasHouse kw_5_131 rfl rfl (ltS_0 (on_Sb2 hN)) (shS_0 (on_Sb2 hN)) (ct_X9_hasHouse hN (on_Sb2 hN)) rfl (tk_X11_alarm 3 rfl) fun v1 σ2 => ?_
  refine on_if_eq (tk_X11_alarm 4 rfl) (tgt := 22) (by decide) ?_ ?_
  · refine on_al0 (tk_X11_alarm 5 rfl) ?_
    refine fg_11_2 hN kw_2_181 (tk_X11_alarm 6 rfl) ?_
    refine on_il2 (tk_X11_alarm 7 rfl) ?_
    refine on_cV1z 9 ms_X9_hasHouse kw_5_131 rfl rfl (ltS_0 (on_Sb2 hN)) (shS_0 (on_Sb2 hN)) (ct_X9_hasHouse hN (on_Sb2 hN)) rfl (tk_X11_alarm 8 rfl) fun v3 σ4 => ?_
    refine on_if_ne (tk_X11_alarm 9 rfl) (tgt := 25) (by decide) ?_ ?_
    · refine on_bipush (tk_X11_alarm 10 rfl) bp_m2 ?_
      exact on_iret (tk_X11_alarm 11 rfl)
    · refine on_al0 (tk_X11_alarm 12 rfl) ?_
      refine fg_11_9 hN kw_2_188 (tk_X11_alarm 13 rfl) ?_
      refine on_cV0v 0 ms_X0_measure kw_5_132 rfl rfl (ltc_63 hN) sh_63 (ct_X0_measure hN) rfl (tk_X11_alarm 14 rfl) fun v5 σ6 => ?_
      refine on_al0 (tk_X11_alarm 15 rfl) ?_
      refine fg_11_9 hN kw_2_188 (tk_X11_alarm 16 rfl) ?_
      refine on_il1 (tk_X11_alarm 17 rfl) ?_
      refine on_il2 (tk_X11_alarm 18 rfl) ?_
      refine on_cV2i 0 ms_X0_minutesOf kw_5_138 rfl rfl (ltc_63 hN) sh_63 (ct_X0_minutesOf hN) rfl (tk_X11_alarm 19 rfl) fun v7 σ8 => ?_
      exact on_iret (tk_X11_alarm 20 rfl)
  · refine on_bipush (tk_X11_alarm 10 rfl) bp_m2 ?_
    exact on_iret (tk_X11_alarm 11 rfl)
def tb_X11_route : List (Nat × Nat × Nat × Instr) := [(0, 1, 1, .aload_n 0), (1, 3, 4, .getfield 16), (4, 1, 5, .iload_n 1), (5, 3, 8, .invokevirtual 346), (8, 3, 11, .ifCond .eq 14), (11, 1, 12, .aload_n 0), (12, 3, 15, .getfield 16), (15, 1, 16, .iload_n 2), (16, 3, 19, .invokevirtual 346), (19, 3, 22, .ifCond .ne 6), (22, 2, 24, .bipush (-2)), (24, 1, 25, .ireturn), (25, 1, 26, .aload_n 0), (26, 3, 29, .getfield 63), (29, 3, 32, .invokevirtual 349), (32, 1, 33, .aload_n 0), (33, 3, 36, .getfield 63), (36, 1, 37, .iload_n 1), (37, 1, 38, .iload_n 2), (38, 1, 39, .iload_n 3), (39, 3, 42, .invokevirtual 355), (42, 1, 43, .ireturn)]
set_option maxRecDepth 100000 in
theorem tk_X11_route (k : Nat) {pc n pc2 : Nat} {i : Instr} (hk : tb_X11_route[k]? = some (pc, n, pc2, i)) : on_dq cX11_route pc n pc2 i := on_ta (by decide +kernel) k hk
theorem ms_X11_route : on_Mv yX11_route cX11_route 4 (some .int) 3 := ⟨kw_5_145, kw_5_143, kw_5_144, kw_1_1, by decide, by decide, by decide +kernel⟩
def pf_X11_route (p0 : Int) (p1 : Int) (p2 : Int) (σ : on_S) : Option on_O :=
  on_Cl (pf_X9_hasHouse 2 p0 σ) fun v1 σ2 =>
  on_Eq v1 0 (
    some ((-2), σ2)) (
    on_Cl (pf_X9_hasHouse 2 p1 σ2) fun v3 σ4 =>
    on_Eq v3 0 (
      some ((-2), σ4)) (
      on_Cl (pf_X0_measure σ4) fun _ σ6 =>
      on_Cl (pf_X0_houseOnWay p0 p1 p2 σ6) fun v7 σ8 =>
      some (v7, σ8)))
set_option maxRecDepth 100000 in
set_option maxHeartbeats 4000000 in
theorem ct_X11_route {E : on_E} {z n : Nat} {p0 : Int} {p1 : Int} {p2 : Int} (hN : 100 ≤ n) {σ : on_S} : on_Sp E yX11_route cX11_route 4 (some .int) 2 50 z n [.ref (z + 0), .int (on_i p0), .int (on_i p1), .int (on_i p2)] σ (pf_X11_route p0 p1 p2 σ) := by
  refine on_met [some (.ref (z + 0)), some (.int (on_i p0)), some (.int (on_i p1)), some (.int (on_i p2))] (by decide) rfl rfl (fun X => ?_)
  rw [pf_X11_route]
  refine on_al0 (tk_X11_route 0 rfl) ?_
  refine fg_11_2 hN kw_2_181 (tk_X11_route 1 rfl) ?_
  refine on_il1 (tk_X11_route 2 rfl) ?_
  refine on_cV1z 9 ms_X9_hasHouse kw_5_131 rfl rfl (ltS_0 (on_Sb2 hN)) (shS_0 (on_Sb2 hN)) (ct_X9_hasHouse hN (on_Sb2 hN)) rfl (tk_X11_route 3 rfl) fun v1 σ2 => ?_
  refine on_if_eq (tk_X11_route 4 rfl) (tgt := 22) (by decide) ?_ ?_
  · refine on_al0 (tk_X11_route 5 rfl) ?_
    refine fg_11_2 hN kw_2_181 (tk_X11_route 6 rfl) ?_
    refine on_il2 (tk_X11_route 7 rfl) ?_
    refine on_cV1z 9 ms_X9_hasHouse kw_5_131 rfl rfl (ltS_0 (on_Sb2 hN)) (shS_0 (on_Sb2 hN)) (ct_X9_hasHouse hN (on_Sb2 hN)) rfl (tk_X11_route 8 rfl) fun v3 σ4 => ?_
    refine on_if_ne (tk_X11_route 9 rfl) (tgt := 25) (by decide) ?_ ?_
    · refine on_bipush (tk_X11_route 10 rfl) bp_m2 ?_
      exact on_iret (tk_X11_route 11 rfl)
    · refine on_al0 (tk_X11_route 12 rfl) ?_
      refine fg_11_9 hN kw_2_188 (tk_X11_route 13 rfl) ?_
      refine on_cV0v 0 ms_X0_measure kw_5_132 rfl rfl (ltc_63 hN) sh_63 (ct_X0_measure hN) rfl (tk_X11_route 14 rfl) fun v5 σ6 => ?_
      refine on_al0 (tk_X11_route 15 rfl) ?_
      refine fg_11_9 hN kw_2_188 (tk_X11_route 16 rfl) ?_
      refine on_il1 (tk_X11_route 17 rfl) ?_
      refine on_il2 (tk_X11_route 18 rfl) ?_
      refine on_il3 (tk_X11_route 19 rfl) ?_
      refine on_cV3i 0 ms_X0_houseOnWay kw_5_146 rfl rfl (ltc_63 hN) sh_63 (ct_X0_houseOnWay hN) rfl (tk_X11_route 20 rfl) fun v7 σ8 => ?_
      exact on_iret (tk_X11_route 21 rfl)
  · refine on_bipush (tk_X11_route 10 rfl) bp_m2 ?_
    exact on_iret (tk_X11_route 11 rfl)
def tb_X11_last : List (Nat × Nat × Nat × Instr) := [(0, 1, 1, .aload_n 0), (1, 3, 4, .getfield 16), (4, 1, 5, .iload_n 1), (5, 3, 8, .invokevirtual 346), (8, 3, 11, .ifCond .ne 6), (11, 2, 13, .bipush (-2)), (13, 1, 14, .ireturn), (14, 1, 15, .aload_n 0), (15, 3, 18, .getfield 63), (18, 3, 21, .invokevirtual 349), (21, 1, 22, .aload_n 0), (22, 3, 25, .getfield 63), (25, 1, 26, .iload_n 1), (26, 3, 29, .invokevirtual 358), (29, 1, 30, .ireturn)]
set_option maxRecDepth 100000 in
theorem tk_X11_last (k : Nat) {pc n pc2 : Nat} {i : Instr} (hk : tb_X11_last[k]? = some (pc, n, pc2, i)) : on_dq cX11_last pc n pc2 i := on_ta (by decide +kernel) k hk
theorem ms_X11_last : on_Mv yX11_last cX11_last 2 (some .int) 1 := ⟨kw_5_158, kw_5_156, kw_5_157, kw_1_1, by decide, by decide, by decide +kernel⟩
def pf_X11_last (p0 : Int) (σ : on_S) : Option on_O :=
  on_Cl (pf_X9_hasHouse 2 p0 σ) fun v1 σ2 =>
  on_Eq v1 0 (
    some ((-2), σ2)) (
    on_Cl (pf_X0_measure σ2) fun _ σ4 =>
    on_Cl (pf_X0_tillAllHear p0 σ4) fun v5 σ6 =>
    some (v5, σ6))
set_option maxRecDepth 100000 in
set_option maxHeartbeats 4000000 in
theorem ct_X11_last {E : on_E} {z n : Nat} {p0 : Int} (hN : 100 ≤ n) {σ : on_S} : on_Sp E yX11_last cX11_last 2 (some .int) 2 47 z n [.ref (z + 0), .int (on_i p0)] σ (pf_X11_last p0 σ) := by
  refine on_met [some (.ref (z + 0)), some (.int (on_i p0))] (by decide) rfl rfl (fun X => ?_)
  rw [pf_X11_last]
  refine on_al0 (tk_X11_last 0 rfl) ?_
  refine fg_11_2 hN kw_2_181 (tk_X11_last 1 rfl) ?_
  refine on_il1 (tk_X11_last 2 rfl) ?_
  refine on_cV1z 9 ms_X9_hasHouse kw_5_131 rfl rfl (ltS_0 (on_Sb2 hN)) (shS_0 (on_Sb2 hN)) (ct_X9_hasHouse hN (on_Sb2 hN)) rfl (tk_X11_last 3 rfl) fun v1 σ2 => ?_
  refine on_if_ne (tk_X11_last 4 rfl) (tgt := 14) (by decide) ?_ ?_
  · refine on_bipush (tk_X11_last 5 rfl) bp_m2 ?_
    exact on_iret (tk_X11_last 6 rfl)
  · refine on_al0 (tk_X11_last 7 rfl) ?_
    refine fg_11_9 hN kw_2_188 (tk_X11_last 8 rfl) ?_
    refine on_cV0v 0 ms_X0_measure kw_5_132 rfl rfl (ltc_63 hN) sh_63 (ct_X0_measure hN) rfl (tk_X11_last 9 rfl) fun v3 σ4 => ?_
    refine on_al0 (tk_X11_last 10 rfl) ?_
    refine fg_11_9 hN kw_2_188 (tk_X11_last 11 rfl) ?_
    refine on_il1 (tk_X11_last 12 rfl) ?_
    refine on_cV1i 0 ms_X0_tillAllHear kw_5_159 rfl rfl (ltc_63 hN) sh_63 (ct_X0_tillAllHear hN) rfl (tk_X11_last 13 rfl) fun v5 σ6 => ?_
    exact on_iret (tk_X11_last 14 rfl)
def tb_X11_middle : List (Nat × Nat × Nat × Instr) := [(0, 1, 1, .aload_n 0), (1, 3, 4, .getfield 16), (4, 3, 7, .invokevirtual 243), (7, 3, 10, .ifCond .ne 6), (10, 2, 12, .bipush (-2)), (12, 1, 13, .ireturn), (13, 1, 14, .aload_n 0), (14, 3, 17, .getfield 63), (17, 3, 20, .invokevirtual 349), (20, 1, 21, .iconst (-1)), (21, 1, 22, .istore_n 1), (22, 1, 23, .iconst 0), (23, 1, 24, .istore_n 2), (24, 1, 25, .iconst 0), (25, 1, 26, .istore_n 3), (26, 1, 27, .iload_n 3), (27, 1, 28, .aload_n 0), (28, 3, 31, .getfield 16), (31, 3, 34, .getfield 361), (34, 3, 37, .if_icmp .ge 41), (37, 1, 38, .aload_n 0), (38, 3, 41, .getfield 63), (41, 1, 42, .iload_n 3), (42, 3, 45, .invokevirtual 358), (45, 2, 47, .istore 4), (47, 2, 49, .iload 4), (49, 1, 50, .iconst (-1)), (50, 3, 53, .if_icmp .eq 19), (53, 1, 54, .iload_n 1), (54, 1, 55, .iconst (-1)), (55, 3, 58, .if_icmp .eq 9), (58, 2, 60, .iload 4), (60, 1, 61, .iload_n 2), (61, 3, 64, .if_icmp .ge 8), (64, 1, 65, .iload_n 3), (65, 1, 66, .istore_n 1), (66, 2, 68, .iload 4), (68, 1, 69, .istore_n 2), (69, 3, 72, .iinc 3 1), (72, 3, 75, .goto (-46)), (75, 1, 76, .iload_n 1), (76, 1, 77, .ireturn)]
set_option maxRecDepth 100000 in
theorem tk_X11_middle (k : Nat) {pc n pc2 : Nat} {i : Instr} (hk : tb_X11_middle[k]? = some (pc, n, pc2, i)) : on_dq cX11_middle pc n pc2 i := on_ta (by decide +kernel) k hk
theorem ms_X11_middle : on_Mv yX11_middle cX11_middle 5 (some .int) 0 := ⟨kw_5_167, kw_5_165, kw_5_166, kw_1_1, by decide, by decide, by decide +kernel⟩
def pf_X11_middle_64 (k26 : Int → Int → Int → on_S → Option on_O) (l3 : Int) (l4 : Int) (σ : on_S) : Option on_O :=
  k26 l3 l4 (l3 + 1) σ
def pf_X11_middle_26 : Nat → Int → Int → Int → on_S → Option on_O
  | 0, _, _, _, _ => none
  | nf + 1, l1, l2, l3, σ =>
    on_Gt σ 2 0 fun v5 =>
    on_Lt l3 v5 (
      on_Cl (pf_X0_tillAllHear l3 σ) fun v6 σ7 =>
      on_Eq v6 (-1) (
        pf_X11_middle_26 nf l1 l2 (l3 + 1) σ7) (
        on_Eq l1 (-1) (
          pf_X11_middle_64 (pf_X11_middle_26 nf) l3 v6 σ7) (
          on_Lt v6 l2 (
            pf_X11_middle_64 (pf_X11_middle_26 nf) l3 v6 σ7) (
            pf_X11_middle_26 nf l1 l2 (l3 + 1) σ7)))) (
      some (l1, σ))
def pf_X11_middle (σ : on_S) : Option on_O :=
  on_Cl (pf_X9_isThere 2 σ) fun v1 σ2 =>
  on_Eq v1 0 (
    some ((-2), σ2)) (
    on_Cl (pf_X0_measure σ2) fun _ σ4 =>
    pf_X11_middle_26 on_N (-1) 0 0 σ4)
set_option maxRecDepth 100000 in
set_option maxHeartbeats 4000000 in
theorem gb_X11_middle_64 {E : on_E} {z n : Nat} (X : on_X) (k26 : Int → Int → Int → on_S → Option on_O) (hN : 100 ≤ n) (hk26 : ∀ (l1 : Int) (l2 : Int) (l3 : Int) (σ : on_S), on_G X E cX11_middle RX11 (some .int) 2 47 5 z n σ (k26 l1 l2 l3 σ) 26 [some (.ref (z + 0)), some (.int (on_i l1)), some (.int (on_i l2)), some (.int (on_i l3)), none] []) (l3 : Int) (l4 : Int) (σ : on_S) : on_G X E cX11_middle RX11 (some .int) 2 47 5 z n σ (pf_X11_middle_64 k26 l3 l4 σ) 64 [some (.ref (z + 0)), none, none, some (.int (on_i l3)), some (.int (on_i l4))] [] := by
  rw [pf_X11_middle_64]
  refine on_il3 (tk_X11_middle 34 rfl) ?_
  refine on_is1 rfl (tk_X11_middle 35 rfl) ?_
  refine on_il4 (tk_X11_middle 36 rfl) ?_
  refine on_is2 rfl (tk_X11_middle 37 rfl) ?_
  refine on_inc3 rfl (tk_X11_middle 38 rfl) ?_
  refine on_goto (tk_X11_middle 39 rfl) (tgt := 26) (by decide) ?_
  refine on_dr4 ?_
  exact hk26 _ _ _ _
set_option maxRecDepth 100000 in
set_option maxHeartbeats 4000000 in
theorem gl_X11_middle_26 {E : on_E} {z n : Nat} (X : on_X) (hN : 100 ≤ n) : ∀ (nf : Nat) (l1 : Int) (l2 : Int) (l3 : Int) (σ : on_S), on_G X E cX11_middle RX11 (some .int) 2 47 5 z n σ (pf_X11_middle_26 nf l1 l2 l3 σ) 26 [some (.ref (z + 0)), some (.int (on_i l1)), some (.int (on_i l2)), some (.int (on_i l3)), none] [] := by
  intro nf
  induction nf with
  | zero => intro l1 l2 l3 σ; exact on_none
  | succ nf ih =>
    intro l1 l2 l3 σ
    rw [pf_X11_middle_26]
    refine on_il3 (tk_X11_middle 15 rfl) ?_
    refine on_al0 (tk_X11_middle 16 rfl) ?_
    refine fg_11_2 hN kw_2_181 (tk_X11_middle 17 rfl) ?_
    refine fg_9_0 (on_Sb2 hN) kw_1_156 (tk_X11_middle 18 rfl) fun v5 => ?_
    refine on_icmp_ge (tk_X11_middle 19 rfl) (tgt := 75) (by decide) ?_ ?_
    · refine on_al0 (tk_X11_middle 20 rfl) ?_
      refine fg_11_9 hN kw_2_188 (tk_X11_middle 21 rfl) ?_
      refine on_il3 (tk_X11_middle 22 rfl) ?_
      refine on_cV1i 0 ms_X0_tillAllHear kw_5_159 rfl rfl (ltc_63 hN) sh_63 (ct_X0_tillAllHear hN) rfl (tk_X11_middle 23 rfl) fun v6 σ7 => ?_
      refine on_is4 rfl (tk_X11_middle 24 rfl) ?_
      refine on_il4 (tk_X11_middle 25 rfl) ?_
      refine on_iconst (tk_X11_middle 26 rfl) ?_
      refine on_icmp_eq (tk_X11_middle 27 rfl) (tgt := 69) (by decide) ?_ ?_
      · refine on_il1 (tk_X11_middle 28 rfl) ?_
        refine on_iconst (tk_X11_middle 29 rfl) ?_
        refine on_icmp_eq (tk_X11_middle 30 rfl) (tgt := 64) (by decide) ?_ ?_
        · refine on_il4 (tk_X11_middle 31 rfl) ?_
          refine on_il2 (tk_X11_middle 32 rfl) ?_
          refine on_icmp_ge (tk_X11_middle 33 rfl) (tgt := 69) (by decide) ?_ ?_
          · refine on_dr1 ?_
            refine on_dr2 ?_
            exact gb_X11_middle_64 X _ hN ih _ _ _
          · refine on_inc3 rfl (tk_X11_middle 38 rfl) ?_
            refine on_goto (tk_X11_middle 39 rfl) (tgt := 26) (by decide) ?_
            refine on_dr4 ?_
            exact ih _ _ _ _
        · refine on_dr1 ?_
          refine on_dr2 ?_
          exact gb_X11_middle_64 X _ hN ih _ _ _
      · refine on_inc3 rfl (tk_X11_middle 38 rfl) ?_
        refine on_goto (tk_X11_middle 39 rfl) (tgt := 26) (by decide) ?_
        refine on_dr4 ?_
        exact ih _ _ _ _
    · refine on_il1 (tk_X11_middle 40 rfl) ?_
      exact on_iret (tk_X11_middle 41 rfl)
set_option maxRecDepth 100000 in
set_option maxHeartbeats 4000000 in
theorem ct_X11_middle {E : on_E} {z n : Nat} (hN : 100 ≤ n) {σ : on_S} : on_Sp E yX11_middle cX11_middle 5 (some .int) 2 47 z n [.ref (z + 0)] σ (pf_X11_middle  σ) := by
  refine on_met [some (.ref (z + 0)), none, none, none, none] (by decide) rfl rfl (fun X => ?_)
  rw [pf_X11_middle]
  refine on_al0 (tk_X11_middle 0 rfl) ?_
  refine fg_11_2 hN kw_2_181 (tk_X11_middle 1 rfl) ?_
  refine on_cV0z 9 ms_X9_isThere kw_4_152 rfl rfl (ltS_0 (on_Sb2 hN)) (shS_0 (on_Sb2 hN)) (ct_X9_isThere hN (on_Sb2 hN)) rfl (tk_X11_middle 2 rfl) fun v1 σ2 => ?_
  refine on_if_ne (tk_X11_middle 3 rfl) (tgt := 13) (by decide) ?_ ?_
  · refine on_bipush (tk_X11_middle 4 rfl) bp_m2 ?_
    exact on_iret (tk_X11_middle 5 rfl)
  · refine on_al0 (tk_X11_middle 6 rfl) ?_
    refine fg_11_9 hN kw_2_188 (tk_X11_middle 7 rfl) ?_
    refine on_cV0v 0 ms_X0_measure kw_5_132 rfl rfl (ltc_63 hN) sh_63 (ct_X0_measure hN) rfl (tk_X11_middle 8 rfl) fun v3 σ4 => ?_
    refine on_iconst (tk_X11_middle 9 rfl) ?_
    refine on_is1 rfl (tk_X11_middle 10 rfl) ?_
    refine on_iconst (tk_X11_middle 11 rfl) ?_
    refine on_is2 rfl (tk_X11_middle 12 rfl) ?_
    refine on_iconst (tk_X11_middle 13 rfl) ?_
    refine on_is3 rfl (tk_X11_middle 14 rfl) ?_
    exact gl_X11_middle_26 X  hN on_N _ _ _ _
def tb_X11_isBit : List (Nat × Nat × Nat × Instr) := [(0, 1, 1, .iload_n 0), (1, 3, 4, .ifCond .eq 8), (4, 1, 5, .iload_n 0), (5, 1, 6, .iconst 1), (6, 3, 9, .if_icmp .ne 7), (9, 1, 10, .iconst 1), (10, 3, 13, .goto 4), (13, 1, 14, .iconst 0), (14, 1, 15, .ireturn)]
set_option maxRecDepth 100000 in
theorem tk_X11_isBit (k : Nat) {pc n pc2 : Nat} {i : Instr} (hk : tb_X11_isBit[k]? = some (pc, n, pc2, i)) : on_dq cX11_isBit pc n pc2 i := on_ta (by decide +kernel) k hk
theorem ms_X11_isBit : on_Ms yX11_isBit cX11_isBit 1 (some .boolean) 1 := ⟨kw_5_174, kw_5_173, kw_1_1, by decide, by decide, by decide +kernel⟩
def pf_X11_isBit_9 (σ : on_S) : Option on_O :=
  some (1, σ)
def pf_X11_isBit (p0 : Int) (σ : on_S) : Option on_O :=
  on_Eq p0 0 (
    pf_X11_isBit_9 σ) (
    on_Eq p0 1 (
      pf_X11_isBit_9 σ) (
      some (0, σ)))
set_option maxRecDepth 100000 in
set_option maxHeartbeats 4000000 in
theorem gb_X11_isBit_9 {E : on_E} {z n : Nat} (X : on_X) (hN : 100 ≤ n) (σ : on_S) : on_G X E cX11_isBit RX11 (some .boolean) 0 0 1 z n σ (pf_X11_isBit_9  σ) 9 [none] [] := by
  rw [pf_X11_isBit_9]
  refine on_iconst (tk_X11_isBit 5 rfl) ?_
  refine on_goto (tk_X11_isBit 6 rfl) (tgt := 14) (by decide) ?_
  exact on_zret1 (tk_X11_isBit 8 rfl)
set_option maxRecDepth 100000 in
set_option maxHeartbeats 4000000 in
theorem ct_X11_isBit {E : on_E} {z n : Nat} {p0 : Int} (hN : 100 ≤ n) {σ : on_S} : on_Sp E yX11_isBit cX11_isBit 1 (some .boolean) 0 0 z n [.int (on_i p0)] σ (pf_X11_isBit p0 σ) := by
  refine on_met [some (.int (on_i p0))] (by decide) rfl rfl (fun X => ?_)
  rw [pf_X11_isBit]
  refine on_il0 (tk_X11_isBit 0 rfl) ?_
  refine on_if_eq (tk_X11_isBit 1 rfl) (tgt := 9) (by decide) ?_ ?_
  · refine on_il0 (tk_X11_isBit 2 rfl) ?_
    refine on_iconst (tk_X11_isBit 3 rfl) ?_
    refine on_icmp_ne (tk_X11_isBit 4 rfl) (tgt := 13) (by decide) ?_ ?_
    · refine on_dr0 ?_
      exact gb_X11_isBit_9 X  hN _
    · refine on_iconst (tk_X11_isBit 7 rfl) ?_
      exact on_zret0 (tk_X11_isBit 8 rfl)
  · refine on_dr0 ?_
    exact gb_X11_isBit_9 X  hN _
def tb_X11_gainOf : List (Nat × Nat × Nat × Instr) := [(0, 1, 1, .iload_n 2), (1, 1, 2, .iconst 1), (2, 3, 5, .if_icmp .ne 7), (5, 1, 6, .iconst 3), (6, 3, 9, .goto 4), (9, 1, 10, .iconst 0), (10, 2, 12, .istore 4), (12, 1, 13, .iconst 0), (13, 2, 15, .istore 5), (15, 2, 17, .iload 5), (17, 1, 18, .aload_n 0), (18, 3, 21, .getfield 16), (21, 3, 24, .getfield 370), (24, 3, 27, .if_icmp .ge 102), (27, 1, 28, .aload_n 0), (28, 3, 31, .getfield 16), (31, 2, 33, .iload 5), (33, 3, 36, .invokevirtual 207), (36, 2, 38, .istore 6), (38, 2, 40, .iload 6), (40, 1, 41, .iconst (-1)), (41, 3, 44, .if_icmp .eq 79), (44, 1, 45, .aload_n 0), (45, 3, 48, .getfield 16), (48, 3, 51, .getfield 109), (51, 1, 52, .aload_n 0), (52, 3, 55, .getfield 16), (55, 3, 58, .getfield 183), (58, 2, 60, .iload 5), (60, 1, 61, .iaload), (61, 1, 62, .iaload), (62, 1, 63, .iload_n 1), (63, 3, 66, .if_icmp .eq 6), (66, 3, 69, .goto 54), (69, 1, 70, .iload_n 3), (70, 1, 71, .iconst 1), (71, 3, 74, .if_icmp .ne 7), (74, 1, 75, .iconst 1), (75, 3, 78, .goto 16), (78, 1, 79, .aload_n 0), (79, 3, 82, .getfield 16), (82, 3, 85, .getfield 141), (85, 3, 88, .getfield 153), (88, 2, 90, .iload 6), (90, 1, 91, .iaload), (91, 2, 93, .istore 7), (93, 1, 94, .aload_n 0), (94, 3, 97, .getfield 16), (97, 2, 99, .iload 5), (99, 3, 102, .invokevirtual 186), (102, 1, 103, .aload_n 0), (103, 3, 106, .getfield 16), (106, 2, 108, .iload 6), (108, 2, 110, .iload 7), (110, 1, 111, .iconst 0), (111, 3, 114, .invokevirtual 333), (114, 3, 117, .if_icmp .gt 6), (117, 3, 120, .iinc 4 2), (120, 3, 123, .iinc 5 1), (123, 3, 126, .goto (-108)), (126, 2, 128, .iload 4), (128, 1, 129, .ireturn)]
set_option maxRecDepth 100000 in
theorem tk_X11_gainOf (k : Nat) {pc n pc2 : Nat} {i : Instr} (hk : tb_X11_gainOf[k]? = some (pc, n, pc2, i)) : on_dq cX11_gainOf pc n pc2 i := on_ta (by decide +kernel) k hk
theorem ms_X11_gainOf : on_Mv yX11_gainOf cX11_gainOf 8 (some .int) 3 := ⟨kw_5_178, kw_5_177, (on_mp (q := (yX11_gainOf, 12)) (by decide +kernel)), kw_1_1, by decide, by decide, by decide +kernel⟩
def pf_X11_gainOf_91 (k15 : Int → Int → Int → Int → on_S → Option on_O) (l1 : Int) (l3 : Int) (l4 : Int) (l5 : Int) (l6 : Int) (s0 : Int) (σ : on_S) : Option on_O :=
  on_Cl (pf_X9_forceOf 2 l5 σ) fun v6 σ7 =>
  on_Cl (pf_X9_carriedIf 2 l6 s0 0 σ7) fun v8 σ9 =>
  on_Le v6 v8 (
    k15 l1 l3 (l4 + 2) (l5 + 1) σ9) (
    k15 l1 l3 l4 (l5 + 1) σ9)
def pf_X11_gainOf_15 : Nat → Int → Int → Int → Int → on_S → Option on_O
  | 0, _, _, _, _, _ => none
  | nf + 1, l1, l3, l4, l5, σ =>
    on_Gt σ 2 7 fun v1 =>
    on_Lt l5 v1 (
      on_Cl (pf_X9_netBelow 2 l5 σ) fun v2 σ3 =>
      on_Eq v2 (-1) (
        pf_X11_gainOf_15 nf l1 l3 l4 (l5 + 1) σ3) (
        on_Rd σ3 (2 + 5) 9 l5 fun v4 =>
        on_Rd σ3 (2 + 1) 9 v4 fun v5 =>
        on_Eq v5 l1 (
          on_Eq l3 1 (
            pf_X11_gainOf_91 (pf_X11_gainOf_15 nf) l1 l3 l4 l5 v2 1 σ3) (
            on_Rd σ3 (2 + 17) 2 v2 fun v10 =>
            pf_X11_gainOf_91 (pf_X11_gainOf_15 nf) l1 l3 l4 l5 v2 v10 σ3)) (
          pf_X11_gainOf_15 nf l1 l3 l4 (l5 + 1) σ3))) (
      some (l4, σ))
def pf_X11_gainOf_10 (l1 : Int) (l3 : Int) (s0 : Int) (σ : on_S) : Option on_O :=
  pf_X11_gainOf_15 on_N l1 l3 s0 0 σ
def pf_X11_gainOf (p0 : Int) (p1 : Int) (p2 : Int) (σ : on_S) : Option on_O :=
  on_Eq p1 1 (
    pf_X11_gainOf_10 p0 p2 3 σ) (
    pf_X11_gainOf_10 p0 p2 0 σ)
set_option maxRecDepth 100000 in
set_option maxHeartbeats 4000000 in
theorem gb_X11_gainOf_91 {E : on_E} {z n : Nat} (X : on_X) (k15 : Int → Int → Int → Int → on_S → Option on_O) (hN : 100 ≤ n) (hk15 : ∀ (l1 : Int) (l3 : Int) (l4 : Int) (l5 : Int) (σ : on_S), on_G X E cX11_gainOf RX11 (some .int) 4 99 8 z n σ (k15 l1 l3 l4 l5 σ) 15 [some (.ref (z + 0)), some (.int (on_i l1)), none, some (.int (on_i l3)), some (.int (on_i l4)), some (.int (on_i l5)), none, none] []) (l1 : Int) (l3 : Int) (l4 : Int) (l5 : Int) (l6 : Int) (s0 : Int) (σ : on_S) : on_G X E cX11_gainOf RX11 (some .int) 4 99 8 z n σ (pf_X11_gainOf_91 k15 l1 l3 l4 l5 l6 s0 σ) 91 [some (.ref (z + 0)), some (.int (on_i l1)), none, some (.int (on_i l3)), some (.int (on_i l4)), some (.int (on_i l5)), some (.int (on_i l6)), none] [.int (on_i s0)] := by
  rw [pf_X11_gainOf_91]
  refine on_is7 rfl (tk_X11_gainOf 45 rfl) ?_
  refine on_al0 (tk_X11_gainOf 46 rfl) ?_
  refine fg_11_2 hN kw_2_181 (tk_X11_gainOf 47 rfl) ?_
  refine on_il5 (tk_X11_gainOf 48 rfl) ?_
  refine on_cV1i 9 ms_X9_forceOf kw_4_56 rfl rfl (ltS_0 (on_Sb2 hN)) (shS_0 (on_Sb2 hN)) (ct_X9_forceOf hN (on_Sb2 hN)) rfl (tk_X11_gainOf 49 rfl) fun v6 σ7 => ?_
  refine on_al0 (tk_X11_gainOf 50 rfl) ?_
  refine fg_11_2 hN kw_2_181 (tk_X11_gainOf 51 rfl) ?_
  refine on_il6 (tk_X11_gainOf 52 rfl) ?_
  refine on_il7 (tk_X11_gainOf 53 rfl) ?_
  refine on_iconst (tk_X11_gainOf 54 rfl) ?_
  refine on_cV3i 9 ms_X9_carriedIf kw_5_98 rfl rfl (ltS_0 (on_Sb2 hN)) (shS_0 (on_Sb2 hN)) (ct_X9_carriedIf hN (on_Sb2 hN)) rfl (tk_X11_gainOf 55 rfl) fun v8 σ9 => ?_
  refine on_icmp_gt (tk_X11_gainOf 56 rfl) (tgt := 120) (by decide) ?_ ?_
  · refine on_inc4 rfl (tk_X11_gainOf 57 rfl) ?_
    refine on_inc5 rfl (tk_X11_gainOf 58 rfl) ?_
    refine on_goto (tk_X11_gainOf 59 rfl) (tgt := 15) (by decide) ?_
    refine on_dr6 ?_
    refine on_dr7 ?_
    exact hk15 _ _ _ _ _
  · refine on_inc5 rfl (tk_X11_gainOf 58 rfl) ?_
    refine on_goto (tk_X11_gainOf 59 rfl) (tgt := 15) (by decide) ?_
    refine on_dr6 ?_
    refine on_dr7 ?_
    exact hk15 _ _ _ _ _
set_option maxRecDepth 100000 in
set_option maxHeartbeats 4000000 in
theorem gl_X11_gainOf_15 {E : on_E} {z n : Nat} (X : on_X) (hN : 100 ≤ n) : ∀ (nf : Nat) (l1 : Int) (l3 : Int) (l4 : Int) (l5 : Int) (σ : on_S), on_G X E cX11_gainOf RX11 (some .int) 4 99 8 z n σ (pf_X11_gainOf_15 nf l1 l3 l4 l5 σ) 15 [some (.ref (z + 0)), some (.int (on_i l1)), none, some (.int (on_i l3)), some (.int (on_i l4)), some (.int (on_i l5)), none, none] [] := by
  intro nf
  induction nf with
  | zero => intro l1 l3 l4 l5 σ; exact on_none
  | succ nf ih =>
    intro l1 l3 l4 l5 σ
    rw [pf_X11_gainOf_15]
    refine on_il5 (tk_X11_gainOf 9 rfl) ?_
    refine on_al0 (tk_X11_gainOf 10 rfl) ?_
    refine fg_11_2 hN kw_2_181 (tk_X11_gainOf 11 rfl) ?_
    refine fg_9_7 (on_Sb2 hN) kw_1_176 (tk_X11_gainOf 12 rfl) fun v1 => ?_
    refine on_icmp_ge (tk_X11_gainOf 13 rfl) (tgt := 126) (by decide) ?_ ?_
    · refine on_al0 (tk_X11_gainOf 14 rfl) ?_
      refine fg_11_2 hN kw_2_181 (tk_X11_gainOf 15 rfl) ?_
      refine on_il5 (tk_X11_gainOf 16 rfl) ?_
      refine on_cV1i 9 ms_X9_netBelow kw_4_100 rfl rfl (ltS_0 (on_Sb2 hN)) (shS_0 (on_Sb2 hN)) (ct_X9_netBelow hN (on_Sb2 hN)) rfl (tk_X11_gainOf 17 rfl) fun v2 σ3 => ?_
      refine on_is6 rfl (tk_X11_gainOf 18 rfl) ?_
      refine on_il6 (tk_X11_gainOf 19 rfl) ?_
      refine on_iconst (tk_X11_gainOf 20 rfl) ?_
      refine on_icmp_eq (tk_X11_gainOf 21 rfl) (tgt := 120) (by decide) ?_ ?_
      · refine on_al0 (tk_X11_gainOf 22 rfl) ?_
        refine fg_11_2 hN kw_2_181 (tk_X11_gainOf 23 rfl) ?_
        refine fg_9_4 (on_Sb2 hN) kw_1_167 (tk_X11_gainOf 24 rfl) ?_
        refine on_al0 (tk_X11_gainOf 25 rfl) ?_
        refine fg_11_2 hN kw_2_181 (tk_X11_gainOf 26 rfl) ?_
        refine fg_9_9 (on_Sb2 hN) kw_1_180 (tk_X11_gainOf 27 rfl) ?_
        refine on_il5 (tk_X11_gainOf 28 rfl) ?_
        refine on_iald (ltS_5 (on_Sb2 hN)) (shS_5 (on_Sb2 hN)) (tk_X11_gainOf 29 rfl) fun v4 => ?_
        refine on_iald (ltS_1 (on_Sb2 hN)) (shS_1 (on_Sb2 hN)) (tk_X11_gainOf 30 rfl) fun v5 => ?_
        refine on_il1 (tk_X11_gainOf 31 rfl) ?_
        refine on_icmp_eq (tk_X11_gainOf 32 rfl) (tgt := 69) (by decide) ?_ ?_
        · refine on_goto (tk_X11_gainOf 33 rfl) (tgt := 120) (by decide) ?_
          refine on_inc5 rfl (tk_X11_gainOf 58 rfl) ?_
          refine on_goto (tk_X11_gainOf 59 rfl) (tgt := 15) (by decide) ?_
          refine on_dr6 ?_
          exact ih _ _ _ _ _
        · refine on_il3 (tk_X11_gainOf 34 rfl) ?_
          refine on_iconst (tk_X11_gainOf 35 rfl) ?_
          refine on_icmp_ne (tk_X11_gainOf 36 rfl) (tgt := 78) (by decide) ?_ ?_
          · refine on_iconst (tk_X11_gainOf 37 rfl) ?_
            refine on_goto (tk_X11_gainOf 38 rfl) (tgt := 91) (by decide) ?_
            exact gb_X11_gainOf_91 X _ hN ih _ _ _ _ _ _ _
          · refine on_al0 (tk_X11_gainOf 39 rfl) ?_
            refine fg_11_2 hN kw_2_181 (tk_X11_gainOf 40 rfl) ?_
            refine fg_9_13 (on_Sb2 hN) kw_1_195 (tk_X11_gainOf 41 rfl) ?_
            refine fg_4_3 (on_Sb2 hN) kw_1_103 (tk_X11_gainOf 42 rfl) ?_
            refine on_il6 (tk_X11_gainOf 43 rfl) ?_
            refine on_iald (ltS_17 (on_Sb2 hN)) (shS_17 (on_Sb2 hN)) (tk_X11_gainOf 44 rfl) fun v10 => ?_
            exact gb_X11_gainOf_91 X _ hN ih _ _ _ _ _ _ _
      · refine on_inc5 rfl (tk_X11_gainOf 58 rfl) ?_
        refine on_goto (tk_X11_gainOf 59 rfl) (tgt := 15) (by decide) ?_
        refine on_dr6 ?_
        exact ih _ _ _ _ _
    · refine on_il4 (tk_X11_gainOf 60 rfl) ?_
      exact on_iret (tk_X11_gainOf 61 rfl)
set_option maxRecDepth 100000 in
set_option maxHeartbeats 4000000 in
theorem gb_X11_gainOf_10 {E : on_E} {z n : Nat} (X : on_X) (hN : 100 ≤ n) (l1 : Int) (l3 : Int) (s0 : Int) (σ : on_S) : on_G X E cX11_gainOf RX11 (some .int) 4 99 8 z n σ (pf_X11_gainOf_10 l1 l3 s0 σ) 10 [some (.ref (z + 0)), some (.int (on_i l1)), none, some (.int (on_i l3)), none, none, none, none] [.int (on_i s0)] := by
  rw [pf_X11_gainOf_10]
  refine on_is4 rfl (tk_X11_gainOf 6 rfl) ?_
  refine on_iconst (tk_X11_gainOf 7 rfl) ?_
  refine on_is5 rfl (tk_X11_gainOf 8 rfl) ?_
  exact gl_X11_gainOf_15 X  hN on_N _ _ _ _ _
set_option maxRecDepth 100000 in
set_option maxHeartbeats 4000000 in
theorem ct_X11_gainOf {E : on_E} {z n : Nat} {p0 : Int} {p1 : Int} {p2 : Int} (hN : 100 ≤ n) {σ : on_S} : on_Sp E yX11_gainOf cX11_gainOf 8 (some .int) 4 99 z n [.ref (z + 0), .int (on_i p0), .int (on_i p1), .int (on_i p2)] σ (pf_X11_gainOf p0 p1 p2 σ) := by
  refine on_met [some (.ref (z + 0)), some (.int (on_i p0)), some (.int (on_i p1)), some (.int (on_i p2)), none, none, none, none] (by decide) rfl rfl (fun X => ?_)
  rw [pf_X11_gainOf]
  refine on_il2 (tk_X11_gainOf 0 rfl) ?_
  refine on_iconst (tk_X11_gainOf 1 rfl) ?_
  refine on_icmp_ne (tk_X11_gainOf 2 rfl) (tgt := 9) (by decide) ?_ ?_
  · refine on_iconst (tk_X11_gainOf 3 rfl) ?_
    refine on_goto (tk_X11_gainOf 4 rfl) (tgt := 10) (by decide) ?_
    refine on_dr2 ?_
    exact gb_X11_gainOf_10 X  hN _ _ _ _
  · refine on_iconst (tk_X11_gainOf 5 rfl) ?_
    refine on_dr2 ?_
    exact gb_X11_gainOf_10 X  hN _ _ _ _
def tb_X11_game : List (Nat × Nat × Nat × Instr) := [(0, 1, 1, .aload_n 0), (1, 3, 4, .getfield 16), (4, 1, 5, .iload_n 1), (5, 1, 6, .iload_n 2), (6, 3, 9, .invokevirtual 195), (9, 3, 12, .ifCond .eq 26), (12, 1, 13, .iload_n 3), (13, 3, 16, .invokestatic 364), (16, 3, 19, .ifCond .eq 19), (19, 2, 21, .iload 4), (21, 3, 24, .invokestatic 364), (24, 3, 27, .ifCond .eq 11), (27, 2, 29, .iload 5), (29, 3, 32, .invokestatic 364), (32, 3, 35, .ifCond .ne 6), (35, 2, 37, .bipush (-2)), (37, 1, 38, .ireturn), (38, 2, 40, .iload 5), (40, 3, 43, .ifCond .ne 14), (43, 1, 44, .aload_n 0), (44, 1, 45, .iload_n 1), (45, 1, 46, .iload_n 3), (46, 2, 48, .iload 4), (48, 3, 51, .invokevirtual 367), (51, 3, 54, .goto 11), (54, 1, 55, .aload_n 0), (55, 1, 56, .iload_n 2), (56, 2, 58, .iload 4), (58, 1, 59, .iload_n 3), (59, 3, 62, .invokevirtual 367), (62, 1, 63, .ireturn)]
set_option maxRecDepth 100000 in
theorem tk_X11_game (k : Nat) {pc n pc2 : Nat} {i : Instr} (hk : tb_X11_game[k]? = some (pc, n, pc2, i)) : on_dq cX11_game pc n pc2 i := on_ta (by decide +kernel) k hk
theorem ms_X11_game : on_Mv yX11_game cX11_game 6 (some .int) 5 := ⟨kw_5_171, kw_5_169, kw_5_170, kw_1_1, by decide, by decide, by decide +kernel⟩
def pf_X11_game (p0 : Int) (p1 : Int) (p2 : Int) (p3 : Int) (p4 : Int) (σ : on_S) : Option on_O :=
  on_Cl (pf_X9_hasTwoHouses 2 p0 p1 σ) fun v1 σ2 =>
  on_Eq v1 0 (
    some ((-2), σ2)) (
    on_Cl (pf_X11_isBit p2 σ2) fun v3 σ4 =>
    on_Eq v3 0 (
      some ((-2), σ4)) (
      on_Cl (pf_X11_isBit p3 σ4) fun v5 σ6 =>
      on_Eq v5 0 (
        some ((-2), σ6)) (
        on_Cl (pf_X11_isBit p4 σ6) fun v7 σ8 =>
        on_Eq v7 0 (
          some ((-2), σ8)) (
          on_Eq p4 0 (
            on_Cl (pf_X11_gainOf p0 p2 p3 σ8) fun v9 σ10 =>
            some (v9, σ10)) (
            on_Cl (pf_X11_gainOf p1 p3 p2 σ8) fun v11 σ12 =>
            some (v11, σ12))))))
set_option maxRecDepth 100000 in
set_option maxHeartbeats 4000000 in
theorem ct_X11_game {E : on_E} {z n : Nat} {p0 : Int} {p1 : Int} {p2 : Int} {p3 : Int} {p4 : Int} (hN : 100 ≤ n) {σ : on_S} : on_Sp E yX11_game cX11_game 6 (some .int) 5 126 z n [.ref (z + 0), .int (on_i p0), .int (on_i p1), .int (on_i p2), .int (on_i p3), .int (on_i p4)] σ (pf_X11_game p0 p1 p2 p3 p4 σ) := by
  refine on_met [some (.ref (z + 0)), some (.int (on_i p0)), some (.int (on_i p1)), some (.int (on_i p2)), some (.int (on_i p3)), some (.int (on_i p4))] (by decide) rfl rfl (fun X => ?_)
  rw [pf_X11_game]
  refine on_al0 (tk_X11_game 0 rfl) ?_
  refine fg_11_2 hN kw_2_181 (tk_X11_game 1 rfl) ?_
  refine on_il1 (tk_X11_game 2 rfl) ?_
  refine on_il2 (tk_X11_game 3 rfl) ?_
  refine on_cV2z 9 ms_X9_hasTwoHouses kw_4_74 rfl rfl (ltS_0 (on_Sb2 hN)) (shS_0 (on_Sb2 hN)) (ct_X9_hasTwoHouses hN (on_Sb2 hN)) rfl (tk_X11_game 4 rfl) fun v1 σ2 => ?_
  refine on_if_eq (tk_X11_game 5 rfl) (tgt := 35) (by decide) ?_ ?_
  · refine on_il3 (tk_X11_game 6 rfl) ?_
    refine on_cS1z ms_X11_isBit kw_5_172 (ct_X11_isBit hN) rfl (tk_X11_game 7 rfl) fun v3 σ4 => ?_
    refine on_if_eq (tk_X11_game 8 rfl) (tgt := 35) (by decide) ?_ ?_
    · refine on_il4 (tk_X11_game 9 rfl) ?_
      refine on_cS1z ms_X11_isBit kw_5_172 (ct_X11_isBit hN) rfl (tk_X11_game 10 rfl) fun v5 σ6 => ?_
      refine on_if_eq (tk_X11_game 11 rfl) (tgt := 35) (by decide) ?_ ?_
      · refine on_il5 (tk_X11_game 12 rfl) ?_
        refine on_cS1z ms_X11_isBit kw_5_172 (ct_X11_isBit hN) rfl (tk_X11_game 13 rfl) fun v7 σ8 => ?_
        refine on_if_ne (tk_X11_game 14 rfl) (tgt := 38) (by decide) ?_ ?_
        · refine on_bipush (tk_X11_game 15 rfl) bp_m2 ?_
          exact on_iret (tk_X11_game 16 rfl)
        · refine on_il5 (tk_X11_game 17 rfl) ?_
          refine on_if_ne (tk_X11_game 18 rfl) (tgt := 54) (by decide) ?_ ?_
          · refine on_al0 (tk_X11_game 19 rfl) ?_
            refine on_il1 (tk_X11_game 20 rfl) ?_
            refine on_il3 (tk_X11_game 21 rfl) ?_
            refine on_il4 (tk_X11_game 22 rfl) ?_
            refine on_cV3i 11 ms_X11_gainOf kw_5_175 rfl rfl (ltc_0 hN) sh_0 (ct_X11_gainOf hN) rfl (tk_X11_game 23 rfl) fun v9 σ10 => ?_
            refine on_goto (tk_X11_game 24 rfl) (tgt := 62) (by decide) ?_
            exact on_iret (tk_X11_game 30 rfl)
          · refine on_al0 (tk_X11_game 25 rfl) ?_
            refine on_il2 (tk_X11_game 26 rfl) ?_
            refine on_il4 (tk_X11_game 27 rfl) ?_
            refine on_il3 (tk_X11_game 28 rfl) ?_
            refine on_cV3i 11 ms_X11_gainOf kw_5_175 rfl rfl (ltc_0 hN) sh_0 (ct_X11_gainOf hN) rfl (tk_X11_game 29 rfl) fun v11 σ12 => ?_
            exact on_iret (tk_X11_game 30 rfl)
      · refine on_bipush (tk_X11_game 15 rfl) bp_m2 ?_
        exact on_iret (tk_X11_game 16 rfl)
    · refine on_bipush (tk_X11_game 15 rfl) bp_m2 ?_
      exact on_iret (tk_X11_game 16 rfl)
  · refine on_bipush (tk_X11_game 15 rfl) bp_m2 ?_
    exact on_iret (tk_X11_game 16 rfl)
def tb_X11_rests : List (Nat × Nat × Nat × Instr) := [(0, 1, 1, .aload_n 0), (1, 3, 4, .getfield 16), (4, 1, 5, .iload_n 1), (5, 1, 6, .iload_n 2), (6, 3, 9, .invokevirtual 195), (9, 3, 12, .ifCond .ne 6), (12, 2, 14, .bipush (-2)), (14, 1, 15, .ireturn), (15, 1, 16, .iconst 0), (16, 1, 17, .istore_n 3), (17, 1, 18, .iconst 0), (18, 2, 20, .istore 4), (20, 2, 22, .iload 4), (22, 1, 23, .iconst 2), (23, 3, 26, .if_icmp .ge 106), (26, 1, 27, .iconst 0), (27, 2, 29, .istore 5), (29, 2, 31, .iload 5), (31, 1, 32, .iconst 2), (32, 3, 35, .if_icmp .ge 91), (35, 1, 36, .aload_n 0), (36, 1, 37, .iload_n 1), (37, 1, 38, .iconst 1), (38, 2, 40, .iload 4), (40, 1, 41, .isub), (41, 2, 43, .iload 5), (43, 3, 46, .invokevirtual 367), (46, 1, 47, .aload_n 0), (47, 1, 48, .iload_n 1), (48, 2, 50, .iload 4), (50, 2, 52, .iload 5), (52, 3, 55, .invokevirtual 367), (55, 3, 58, .if_icmp .gt 7), (58, 1, 59, .iconst 1), (59, 3, 62, .goto 4), (62, 1, 63, .iconst 0), (63, 2, 65, .istore 6), (65, 1, 66, .aload_n 0), (66, 1, 67, .iload_n 2), (67, 1, 68, .iconst 1), (68, 2, 70, .iload 5), (70, 1, 71, .isub), (71, 2, 73, .iload 4), (73, 3, 76, .invokevirtual 367), (76, 1, 77, .aload_n 0), (77, 1, 78, .iload_n 2), (78, 2, 80, .iload 5), (80, 2, 82, .iload 4), (82, 3, 85, .invokevirtual 367), (85, 3, 88, .if_icmp .gt 7), (88, 1, 89, .iconst 1), (89, 3, 92, .goto 4), (92, 1, 93, .iconst 0), (93, 2, 95, .istore 7), (95, 2, 97, .iload 6), (97, 3, 100, .ifCond .eq 20), (100, 2, 102, .iload 7), (102, 3, 105, .ifCond .eq 15), (105, 1, 106, .iload_n 3), (106, 1, 107, .iconst 1), (107, 1, 108, .iconst 2), (108, 2, 110, .iload 4), (110, 1, 111, .imul), (111, 2, 113, .iload 5), (113, 1, 114, .iadd), (114, 1, 115, .ishl), (115, 1, 116, .ior), (116, 1, 117, .istore_n 3), (117, 3, 120, .iinc 5 1), (120, 3, 123, .goto (-91)), (123, 3, 126, .iinc 4 1), (126, 3, 129, .goto (-106)), (129, 1, 130, .iload_n 3), (130, 1, 131, .ireturn)]
set_option maxRecDepth 100000 in
theorem tk_X11_rests (k : Nat) {pc n pc2 : Nat} {i : Instr} (hk : tb_X11_rests[k]? = some (pc, n, pc2, i)) : on_dq cX11_rests pc n pc2 i := on_ta (by decide +kernel) k hk
theorem ms_X11_rests : on_Mv yX11_rests cX11_rests 8 (some .int) 2 := ⟨kw_5_182, kw_5_180, kw_5_181, kw_1_1, by decide, by decide, by decide +kernel⟩
def pf_X11_rests_93 (k20 : Int → Int → Int → Int → on_S → Option on_O) (k29 : Int → Int → Int → Int → Int → on_S → Option on_O) (l1 : Int) (l2 : Int) (l3 : Int) (l4 : Int) (l5 : Int) (l6 : Int) (s0 : Int) (σ : on_S) : Option on_O :=
  on_Eq l6 0 (
    k29 l1 l2 l3 l4 (l5 + 1) σ) (
    on_Eq s0 0 (
      k29 l1 l2 l3 l4 (l5 + 1) σ) (
      k29 l1 l2 (on_or l3 (on_shl 1 ((2 * l4) + l5))) l4 (l5 + 1) σ))
def pf_X11_rests_63 (k20 : Int → Int → Int → Int → on_S → Option on_O) (k29 : Int → Int → Int → Int → Int → on_S → Option on_O) (l1 : Int) (l2 : Int) (l3 : Int) (l4 : Int) (l5 : Int) (s0 : Int) (σ : on_S) : Option on_O :=
  on_Cl (pf_X11_gainOf l2 (1 - l5) l4 σ) fun v7 σ8 =>
  on_Cl (pf_X11_gainOf l2 l5 l4 σ8) fun v9 σ10 =>
  on_Le v7 v9 (
    pf_X11_rests_93 k20 k29 l1 l2 l3 l4 l5 s0 1 σ10) (
    pf_X11_rests_93 k20 k29 l1 l2 l3 l4 l5 s0 0 σ10)
def pf_X11_rests_29 (k20 : Int → Int → Int → Int → on_S → Option on_O) : Nat → Int → Int → Int → Int → Int → on_S → Option on_O
  | 0, _, _, _, _, _, _ => none
  | nf + 1, l1, l2, l3, l4, l5, σ =>
    on_Lt l5 2 (
      on_Cl (pf_X11_gainOf l1 (1 - l4) l5 σ) fun v3 σ4 =>
      on_Cl (pf_X11_gainOf l1 l4 l5 σ4) fun v5 σ6 =>
      on_Le v3 v5 (
        pf_X11_rests_63 k20 (pf_X11_rests_29 k20 nf) l1 l2 l3 l4 l5 1 σ6) (
        pf_X11_rests_63 k20 (pf_X11_rests_29 k20 nf) l1 l2 l3 l4 l5 0 σ6)) (
      k20 l1 l2 l3 (l4 + 1) σ)
def pf_X11_rests_20 : Nat → Int → Int → Int → Int → on_S → Option on_O
  | 0, _, _, _, _, _ => none
  | nf + 1, l1, l2, l3, l4, σ =>
    on_Lt l4 2 (
      pf_X11_rests_29 (pf_X11_rests_20 nf) on_N l1 l2 l3 l4 0 σ) (
      some (l3, σ))
def pf_X11_rests (p0 : Int) (p1 : Int) (σ : on_S) : Option on_O :=
  on_Cl (pf_X9_hasTwoHouses 2 p0 p1 σ) fun v1 σ2 =>
  on_Eq v1 0 (
    some ((-2), σ2)) (
    pf_X11_rests_20 on_N p0 p1 0 0 σ2)
set_option maxRecDepth 100000 in
set_option maxHeartbeats 4000000 in
theorem gb_X11_rests_93 {E : on_E} {z n : Nat} (X : on_X) (k20 : Int → Int → Int → Int → on_S → Option on_O) (k29 : Int → Int → Int → Int → Int → on_S → Option on_O) (hN : 100 ≤ n) (hk20 : ∀ (l1 : Int) (l2 : Int) (l3 : Int) (l4 : Int) (σ : on_S), on_G X E cX11_rests RX11 (some .int) 5 126 8 z n σ (k20 l1 l2 l3 l4 σ) 20 [some (.ref (z + 0)), some (.int (on_i l1)), some (.int (on_i l2)), some (.int (on_i l3)), some (.int (on_i l4)), none, none, none] []) (hk29 : ∀ (l1 : Int) (l2 : Int) (l3 : Int) (l4 : Int) (l5 : Int) (σ : on_S), on_G X E cX11_rests RX11 (some .int) 5 126 8 z n σ (k29 l1 l2 l3 l4 l5 σ) 29 [some (.ref (z + 0)), some (.int (on_i l1)), some (.int (on_i l2)), some (.int (on_i l3)), some (.int (on_i l4)), some (.int (on_i l5)), none, none] []) (l1 : Int) (l2 : Int) (l3 : Int) (l4 : Int) (l5 : Int) (l6 : Int) (s0 : Int) (σ : on_S) : on_G X E cX11_rests RX11 (some .int) 5 126 8 z n σ (pf_X11_rests_93 k20 k29 l1 l2 l3 l4 l5 l6 s0 σ) 93 [some (.ref (z + 0)), some (.int (on_i l1)), some (.int (on_i l2)), some (.int (on_i l3)), some (.int (on_i l4)), some (.int (on_i l5)), some (.int (on_i l6)), none] [.int (on_i s0)] := by
  rw [pf_X11_rests_93]
  refine on_is7 rfl (tk_X11_rests 53 rfl) ?_
  refine on_il6 (tk_X11_rests 54 rfl) ?_
  refine on_if_eq (tk_X11_rests 55 rfl) (tgt := 117) (by decide) ?_ ?_
  · refine on_il7 (tk_X11_rests 56 rfl) ?_
    refine on_if_eq (tk_X11_rests 57 rfl) (tgt := 117) (by decide) ?_ ?_
    · refine on_il3 (tk_X11_rests 58 rfl) ?_
      refine on_iconst (tk_X11_rests 59 rfl) ?_
      refine on_iconst (tk_X11_rests 60 rfl) ?_
      refine on_il4 (tk_X11_rests 61 rfl) ?_
      refine on_imul (tk_X11_rests 62 rfl) ?_
      refine on_il5 (tk_X11_rests 63 rfl) ?_
      refine on_iadd (tk_X11_rests 64 rfl) ?_
      refine on_ishl (tk_X11_rests 65 rfl) ?_
      refine on_ior (tk_X11_rests 66 rfl) ?_
      refine on_is3 rfl (tk_X11_rests 67 rfl) ?_
      refine on_inc5 rfl (tk_X11_rests 68 rfl) ?_
      refine on_goto (tk_X11_rests 69 rfl) (tgt := 29) (by decide) ?_
      refine on_dr6 ?_
      refine on_dr7 ?_
      exact hk29 _ _ _ _ _ _
    · refine on_inc5 rfl (tk_X11_rests 68 rfl) ?_
      refine on_goto (tk_X11_rests 69 rfl) (tgt := 29) (by decide) ?_
      refine on_dr6 ?_
      refine on_dr7 ?_
      exact hk29 _ _ _ _ _ _
  · refine on_inc5 rfl (tk_X11_rests 68 rfl) ?_
    refine on_goto (tk_X11_rests 69 rfl) (tgt := 29) (by decide) ?_
    refine on_dr6 ?_
    refine on_dr7 ?_
    exact hk29 _ _ _ _ _ _
set_option maxRecDepth 100000 in
set_option maxHeartbeats 4000000 in
theorem gb_X11_rests_63 {E : on_E} {z n : Nat} (X : on_X) (k20 : Int → Int → Int → Int → on_S → Option on_O) (k29 : Int → Int → Int → Int → Int → on_S → Option on_O) (hN : 100 ≤ n) (hk20 : ∀ (l1 : Int) (l2 : Int) (l3 : Int) (l4 : Int) (σ : on_S), on_G X E cX11_rests RX11 (some .int) 5 126 8 z n σ (k20 l1 l2 l3 l4 σ) 20 [some (.ref (z + 0)), some (.int (on_i l1)), some (.int (on_i l2)), some (.int (on_i l3)), some (.int (on_i l4)), none, none, none] []) (hk29 : ∀ (l1 : Int) (l2 : Int) (l3 : Int) (l4 : Int) (l5 : Int) (σ : on_S), on_G X E cX11_rests RX11 (some .int) 5 126 8 z n σ (k29 l1 l2 l3 l4 l5 σ) 29 [some (.ref (z + 0)), some (.int (on_i l1)), some (.int (on_i l2)), some (.int (on_i l3)), some (.int (on_i l4)), some (.int (on_i l5)), none, none] []) (l1 : Int) (l2 : Int) (l3 : Int) (l4 : Int) (l5 : Int) (s0 : Int) (σ : on_S) : on_G X E cX11_rests RX11 (some .int) 5 126 8 z n σ (pf_X11_rests_63 k20 k29 l1 l2 l3 l4 l5 s0 σ) 63 [some (.ref (z + 0)), some (.int (on_i l1)), some (.int (on_i l2)), some (.int (on_i l3)), some (.int (on_i l4)), some (.int (on_i l5)), none, none] [.int (on_i s0)] := by
  rw [pf_X11_rests_63]
  refine on_is6 rfl (tk_X11_rests 36 rfl) ?_
  refine on_al0 (tk_X11_rests 37 rfl) ?_
  refine on_il2 (tk_X11_rests 38 rfl) ?_
  refine on_iconst (tk_X11_rests 39 rfl) ?_
  refine on_il5 (tk_X11_rests 40 rfl) ?_
  refine on_isub (tk_X11_rests 41 rfl) ?_
  refine on_il4 (tk_X11_rests 42 rfl) ?_
  refine on_cV3i 11 ms_X11_gainOf kw_5_175 rfl rfl (ltc_0 hN) sh_0 (ct_X11_gainOf hN) rfl (tk_X11_rests 43 rfl) fun v7 σ8 => ?_
  refine on_al0 (tk_X11_rests 44 rfl) ?_
  refine on_il2 (tk_X11_rests 45 rfl) ?_
  refine on_il5 (tk_X11_rests 46 rfl) ?_
  refine on_il4 (tk_X11_rests 47 rfl) ?_
  refine on_cV3i 11 ms_X11_gainOf kw_5_175 rfl rfl (ltc_0 hN) sh_0 (ct_X11_gainOf hN) rfl (tk_X11_rests 48 rfl) fun v9 σ10 => ?_
  refine on_icmp_gt (tk_X11_rests 49 rfl) (tgt := 92) (by decide) ?_ ?_
  · refine on_iconst (tk_X11_rests 50 rfl) ?_
    refine on_goto (tk_X11_rests 51 rfl) (tgt := 93) (by decide) ?_
    exact gb_X11_rests_93 X _ _ hN hk20 hk29 _ _ _ _ _ _ _ _
  · refine on_iconst (tk_X11_rests 52 rfl) ?_
    exact gb_X11_rests_93 X _ _ hN hk20 hk29 _ _ _ _ _ _ _ _
set_option maxRecDepth 100000 in
set_option maxHeartbeats 4000000 in
theorem gl_X11_rests_29 {E : on_E} {z n : Nat} (X : on_X) (k20 : Int → Int → Int → Int → on_S → Option on_O) (hN : 100 ≤ n) (hk20 : ∀ (l1 : Int) (l2 : Int) (l3 : Int) (l4 : Int) (σ : on_S), on_G X E cX11_rests RX11 (some .int) 5 126 8 z n σ (k20 l1 l2 l3 l4 σ) 20 [some (.ref (z + 0)), some (.int (on_i l1)), some (.int (on_i l2)), some (.int (on_i l3)), some (.int (on_i l4)), none, none, none] []) : ∀ (nf : Nat) (l1 : Int) (l2 : Int) (l3 : Int) (l4 : Int) (l5 : Int) (σ : on_S), on_G X E cX11_rests RX11 (some .int) 5 126 8 z n σ (pf_X11_rests_29 k20 nf l1 l2 l3 l4 l5 σ) 29 [some (.ref (z + 0)), some (.int (on_i l1)), some (.int (on_i l2)), some (.int (on_i l3)), some (.int (on_i l4)), some (.int (on_i l5)), none, none] [] := by
  intro nf
  induction nf with
  | zero => intro l1 l2 l3 l4 l5 σ; exact on_none
  | succ nf ih =>
    intro l1 l2 l3 l4 l5 σ
    rw [pf_X11_rests_29]
    refine on_il5 (tk_X11_rests 17 rfl) ?_
    refine on_iconst (tk_X11_rests 18 rfl) ?_
    refine on_icmp_ge (tk_X11_rests 19 rfl) (tgt := 123) (by decide) ?_ ?_
    · refine on_al0 (tk_X11_rests 20 rfl) ?_
      refine on_il1 (tk_X11_rests 21 rfl) ?_
      refine on_iconst (tk_X11_rests 22 rfl) ?_
      refine on_il4 (tk_X11_rests 23 rfl) ?_
      refine on_isub (tk_X11_rests 24 rfl) ?_
      refine on_il5 (tk_X11_rests 25 rfl) ?_
      refine on_cV3i 11 ms_X11_gainOf kw_5_175 rfl rfl (ltc_0 hN) sh_0 (ct_X11_gainOf hN) rfl (tk_X11_rests 26 rfl) fun v3 σ4 => ?_
      refine on_al0 (tk_X11_rests 27 rfl) ?_
      refine on_il1 (tk_X11_rests 28 rfl) ?_
      refine on_il4 (tk_X11_rests 29 rfl) ?_
      refine on_il5 (tk_X11_rests 30 rfl) ?_
      refine on_cV3i 11 ms_X11_gainOf kw_5_175 rfl rfl (ltc_0 hN) sh_0 (ct_X11_gainOf hN) rfl (tk_X11_rests 31 rfl) fun v5 σ6 => ?_
      refine on_icmp_gt (tk_X11_rests 32 rfl) (tgt := 62) (by decide) ?_ ?_
      · refine on_iconst (tk_X11_rests 33 rfl) ?_
        refine on_goto (tk_X11_rests 34 rfl) (tgt := 63) (by decide) ?_
        exact gb_X11_rests_63 X _ _ hN hk20 ih _ _ _ _ _ _ _
      · refine on_iconst (tk_X11_rests 35 rfl) ?_
        exact gb_X11_rests_63 X _ _ hN hk20 ih _ _ _ _ _ _ _
    · refine on_inc4 rfl (tk_X11_rests 70 rfl) ?_
      refine on_goto (tk_X11_rests 71 rfl) (tgt := 20) (by decide) ?_
      refine on_dr5 ?_
      exact hk20 _ _ _ _ _
set_option maxRecDepth 100000 in
set_option maxHeartbeats 4000000 in
theorem gl_X11_rests_20 {E : on_E} {z n : Nat} (X : on_X) (hN : 100 ≤ n) : ∀ (nf : Nat) (l1 : Int) (l2 : Int) (l3 : Int) (l4 : Int) (σ : on_S), on_G X E cX11_rests RX11 (some .int) 5 126 8 z n σ (pf_X11_rests_20 nf l1 l2 l3 l4 σ) 20 [some (.ref (z + 0)), some (.int (on_i l1)), some (.int (on_i l2)), some (.int (on_i l3)), some (.int (on_i l4)), none, none, none] [] := by
  intro nf
  induction nf with
  | zero => intro l1 l2 l3 l4 σ; exact on_none
  | succ nf ih =>
    intro l1 l2 l3 l4 σ
    rw [pf_X11_rests_20]
    refine on_il4 (tk_X11_rests 12 rfl) ?_
    refine on_iconst (tk_X11_rests 13 rfl) ?_
    refine on_icmp_ge (tk_X11_rests 14 rfl) (tgt := 129) (by decide) ?_ ?_
    · refine on_iconst (tk_X11_rests 15 rfl) ?_
      refine on_is5 rfl (tk_X11_rests 16 rfl) ?_
      exact gl_X11_rests_29 X _ hN ih on_N _ _ _ _ _ _
    · refine on_il3 (tk_X11_rests 72 rfl) ?_
      exact on_iret (tk_X11_rests 73 rfl)
set_option maxRecDepth 100000 in
set_option maxHeartbeats 4000000 in
theorem ct_X11_rests {E : on_E} {z n : Nat} {p0 : Int} {p1 : Int} (hN : 100 ≤ n) {σ : on_S} : on_Sp E yX11_rests cX11_rests 8 (some .int) 5 126 z n [.ref (z + 0), .int (on_i p0), .int (on_i p1)] σ (pf_X11_rests p0 p1 σ) := by
  refine on_met [some (.ref (z + 0)), some (.int (on_i p0)), some (.int (on_i p1)), none, none, none, none, none] (by decide) rfl rfl (fun X => ?_)
  rw [pf_X11_rests]
  refine on_al0 (tk_X11_rests 0 rfl) ?_
  refine fg_11_2 hN kw_2_181 (tk_X11_rests 1 rfl) ?_
  refine on_il1 (tk_X11_rests 2 rfl) ?_
  refine on_il2 (tk_X11_rests 3 rfl) ?_
  refine on_cV2z 9 ms_X9_hasTwoHouses kw_4_74 rfl rfl (ltS_0 (on_Sb2 hN)) (shS_0 (on_Sb2 hN)) (ct_X9_hasTwoHouses hN (on_Sb2 hN)) rfl (tk_X11_rests 4 rfl) fun v1 σ2 => ?_
  refine on_if_ne (tk_X11_rests 5 rfl) (tgt := 15) (by decide) ?_ ?_
  · refine on_bipush (tk_X11_rests 6 rfl) bp_m2 ?_
    exact on_iret (tk_X11_rests 7 rfl)
  · refine on_iconst (tk_X11_rests 8 rfl) ?_
    refine on_is3 rfl (tk_X11_rests 9 rfl) ?_
    refine on_iconst (tk_X11_rests 10 rfl) ?_
    refine on_is4 rfl (tk_X11_rests 11 rfl) ?_
    exact gl_X11_rests_20 X  hN on_N _ _ _ _ _
def tb_X11_storeysFound : List (Nat × Nat × Nat × Instr) := [(0, 1, 1, .lconst 0), (1, 1, 2, .lstore_n 2), (2, 1, 3, .lconst 1), (3, 2, 5, .lstore 4), (5, 1, 6, .iconst 1), (6, 2, 8, .istore 6), (8, 2, 10, .iload 6), (10, 1, 11, .iload_n 1), (11, 3, 14, .if_icmp .gt 36), (14, 2, 16, .iload 6), (16, 1, 17, .iload_n 0), (17, 3, 20, .if_icmp .gt 30), (20, 2, 22, .lload 4), (22, 1, 23, .iload_n 0), (23, 2, 25, .iload 6), (25, 1, 26, .isub), (26, 1, 27, .iconst 1), (27, 1, 28, .iadd), (28, 1, 29, .i2l), (29, 1, 30, .lmul), (30, 2, 32, .iload 6), (32, 1, 33, .i2l), (33, 1, 34, .ldiv), (34, 2, 36, .lstore 4), (36, 1, 37, .lload_n 2), (37, 2, 39, .lload 4), (39, 1, 40, .ladd), (40, 1, 41, .lstore_n 2), (41, 3, 44, .iinc 6 1), (44, 3, 47, .goto (-36)), (47, 1, 48, .lload_n 2), (48, 3, 51, .ldc2_w 379), (51, 3, 54, .invokestatic 381), (54, 1, 55, .l2i), (55, 1, 56, .ireturn)]
set_option maxRecDepth 100000 in
theorem tk_X11_storeysFound (k : Nat) {pc n pc2 : Nat} {i : Instr} (hk : tb_X11_storeysFound[k]? = some (pc, n, pc2, i)) : on_dq cX11_storeysFound pc n pc2 i := on_ta (by decide +kernel) k hk
theorem ms_X11_storeysFound : on_Ms yX11_storeysFound cX11_storeysFound 7 (some .int) 2 := ⟨kw_5_192, kw_5_191, kw_1_1, by decide, by decide, by decide +kernel⟩
def pf_X11_storeysFound_47 (l2 : Int) (σ : on_S) : Option on_O :=
  on_MnL l2 1000000 fun v2 =>
  some (v2, σ)
def pf_X11_storeysFound_8 : Nat → Int → Int → Int → Int → Int → on_S → Option on_O
  | 0, _, _, _, _, _, _ => none
  | nf + 1, l0, l1, l2, l4, l6, σ =>
    on_Le l6 l1 (
      on_Le l6 l0 (
        on_Ck ((l0 - l6) + 1) <|
        on_Ck l6 <|
        on_DvL (l4 * ((l0 - l6) + 1)) l6 fun v1 =>
        pf_X11_storeysFound_8 nf l0 l1 (l2 + v1) v1 (l6 + 1) σ) (
        pf_X11_storeysFound_47 l2 σ)) (
      pf_X11_storeysFound_47 l2 σ)
def pf_X11_storeysFound (p0 : Int) (p1 : Int) (σ : on_S) : Option on_O :=
  pf_X11_storeysFound_8 on_N p0 p1 0 1 1 σ
set_option maxRecDepth 100000 in
set_option maxHeartbeats 4000000 in
theorem gb_X11_storeysFound_47 {E : on_E} {z n : Nat} (X : on_X) (hN : 100 ≤ n) (l2 : Int) (σ : on_S) : on_G X E cX11_storeysFound RX11 (some .int) 1 23 7 z n σ (pf_X11_storeysFound_47 l2 σ) 47 [none, none, some (.long (on_l l2)), none, none, none, none] [] := by
  rw [pf_X11_storeysFound_47]
  refine on_ll2 (tk_X11_storeysFound 30 rfl) ?_
  refine on_ldc2 (a := 1000000) kw_5_193 (by decide +kernel) (tk_X11_storeysFound 31 rfl) ?_
  refine on_minl kw_5_194 rfl (tk_X11_storeysFound 32 rfl) fun v2 => ?_
  refine on_xl2i (tk_X11_storeysFound 33 rfl) ?_
  exact on_iret (tk_X11_storeysFound 34 rfl)
set_option maxRecDepth 100000 in
set_option maxHeartbeats 4000000 in
theorem gl_X11_storeysFound_8 {E : on_E} {z n : Nat} (X : on_X) (hN : 100 ≤ n) : ∀ (nf : Nat) (l0 : Int) (l1 : Int) (l2 : Int) (l4 : Int) (l6 : Int) (σ : on_S), on_G X E cX11_storeysFound RX11 (some .int) 1 23 7 z n σ (pf_X11_storeysFound_8 nf l0 l1 l2 l4 l6 σ) 8 [some (.int (on_i l0)), some (.int (on_i l1)), some (.long (on_l l2)), none, some (.long (on_l l4)), none, some (.int (on_i l6))] [] := by
  intro nf
  induction nf with
  | zero => intro l0 l1 l2 l4 l6 σ; exact on_none
  | succ nf ih =>
    intro l0 l1 l2 l4 l6 σ
    rw [pf_X11_storeysFound_8]
    refine on_il6 (tk_X11_storeysFound 6 rfl) ?_
    refine on_il1 (tk_X11_storeysFound 7 rfl) ?_
    refine on_icmp_gt (tk_X11_storeysFound 8 rfl) (tgt := 47) (by decide) ?_ ?_
    · refine on_il6 (tk_X11_storeysFound 9 rfl) ?_
      refine on_il0 (tk_X11_storeysFound 10 rfl) ?_
      refine on_icmp_gt (tk_X11_storeysFound 11 rfl) (tgt := 47) (by decide) ?_ ?_
      · refine on_ll4 (tk_X11_storeysFound 12 rfl) ?_
        refine on_il0 (tk_X11_storeysFound 13 rfl) ?_
        refine on_il6 (tk_X11_storeysFound 14 rfl) ?_
        refine on_isub (tk_X11_storeysFound 15 rfl) ?_
        refine on_iconst (tk_X11_storeysFound 16 rfl) ?_
        refine on_iadd (tk_X11_storeysFound 17 rfl) ?_
        refine on_xi2l (tk_X11_storeysFound 18 rfl) ?_
        refine on_lmul (tk_X11_storeysFound 19 rfl) ?_
        refine on_il6 (tk_X11_storeysFound 20 rfl) ?_
        refine on_xi2l (tk_X11_storeysFound 21 rfl) ?_
        refine on_ldiv (tk_X11_storeysFound 22 rfl) fun v1 => ?_
        refine on_ls4 rfl (tk_X11_storeysFound 23 rfl) ?_
        refine on_ll2 (tk_X11_storeysFound 24 rfl) ?_
        refine on_ll4 (tk_X11_storeysFound 25 rfl) ?_
        refine on_ladd (tk_X11_storeysFound 26 rfl) ?_
        refine on_ls2 rfl (tk_X11_storeysFound 27 rfl) ?_
        refine on_inc6 rfl (tk_X11_storeysFound 28 rfl) ?_
        refine on_goto (tk_X11_storeysFound 29 rfl) (tgt := 8) (by decide) ?_
        exact ih _ _ _ _ _ _
      · refine on_dr0 ?_
        refine on_dr1 ?_
        refine on_dr4 ?_
        refine on_dr6 ?_
        exact gb_X11_storeysFound_47 X  hN _ _
    · refine on_dr0 ?_
      refine on_dr1 ?_
      refine on_dr4 ?_
      refine on_dr6 ?_
      exact gb_X11_storeysFound_47 X  hN _ _
set_option maxRecDepth 100000 in
set_option maxHeartbeats 4000000 in
theorem ct_X11_storeysFound {E : on_E} {z n : Nat} {p0 : Int} {p1 : Int} (hN : 100 ≤ n) {σ : on_S} : on_Sp E yX11_storeysFound cX11_storeysFound 7 (some .int) 1 23 z n [.int (on_i p0), .int (on_i p1)] σ (pf_X11_storeysFound p0 p1 σ) := by
  refine on_met [some (.int (on_i p0)), some (.int (on_i p1)), none, none, none, none, none] (by decide) rfl rfl (fun X => ?_)
  rw [pf_X11_storeysFound]
  refine on_lconst0 (tk_X11_storeysFound 0 rfl) ?_
  refine on_ls2 rfl (tk_X11_storeysFound 1 rfl) ?_
  refine on_lconst1 (tk_X11_storeysFound 2 rfl) ?_
  refine on_ls4 rfl (tk_X11_storeysFound 3 rfl) ?_
  refine on_iconst (tk_X11_storeysFound 4 rfl) ?_
  refine on_is6 rfl (tk_X11_storeysFound 5 rfl) ?_
  exact gl_X11_storeysFound_8 X  hN on_N _ _ _ _ _ _
def tb_X11_fewestFalls : List (Nat × Nat × Nat × Instr) := [(0, 1, 1, .iconst 0), (1, 1, 2, .istore_n 2), (2, 1, 3, .iload_n 2), (3, 1, 4, .iload_n 0), (4, 3, 7, .if_icmp .ge 18), (7, 1, 8, .iload_n 2), (8, 1, 9, .iload_n 1), (9, 3, 12, .invokestatic 376), (12, 1, 13, .iload_n 0), (13, 3, 16, .if_icmp .ge 9), (16, 3, 19, .iinc 2 1), (19, 3, 22, .goto (-17)), (22, 1, 23, .iload_n 2), (23, 1, 24, .ireturn)]
set_option maxRecDepth 100000 in
theorem tk_X11_fewestFalls (k : Nat) {pc n pc2 : Nat} {i : Instr} (hk : tb_X11_fewestFalls[k]? = some (pc, n, pc2, i)) : on_dq cX11_fewestFalls pc n pc2 i := on_ta (by decide +kernel) k hk
theorem ms_X11_fewestFalls : on_Ms yX11_fewestFalls cX11_fewestFalls 3 (some .int) 2 := ⟨kw_5_189, kw_5_188, kw_1_1, by decide, by decide, by decide +kernel⟩
def pf_X11_fewestFalls_2 : Nat → Int → Int → Int → on_S → Option on_O
  | 0, _, _, _, _ => none
  | nf + 1, l0, l1, l2, σ =>
    on_Lt l2 l0 (
      on_Cl (pf_X11_storeysFound l2 l1 σ) fun v1 σ2 =>
      on_Lt v1 l0 (
        pf_X11_fewestFalls_2 nf l0 l1 (l2 + 1) σ2) (
        some (l2, σ2))) (
      some (l2, σ))
def pf_X11_fewestFalls (p0 : Int) (p1 : Int) (σ : on_S) : Option on_O :=
  pf_X11_fewestFalls_2 on_N p0 p1 0 σ
set_option maxRecDepth 100000 in
set_option maxHeartbeats 4000000 in
theorem gl_X11_fewestFalls_2 {E : on_E} {z n : Nat} (X : on_X) (hN : 100 ≤ n) : ∀ (nf : Nat) (l0 : Int) (l1 : Int) (l2 : Int) (σ : on_S), on_G X E cX11_fewestFalls RX11 (some .int) 2 49 3 z n σ (pf_X11_fewestFalls_2 nf l0 l1 l2 σ) 2 [some (.int (on_i l0)), some (.int (on_i l1)), some (.int (on_i l2))] [] := by
  intro nf
  induction nf with
  | zero => intro l0 l1 l2 σ; exact on_none
  | succ nf ih =>
    intro l0 l1 l2 σ
    rw [pf_X11_fewestFalls_2]
    refine on_il2 (tk_X11_fewestFalls 2 rfl) ?_
    refine on_il0 (tk_X11_fewestFalls 3 rfl) ?_
    refine on_icmp_ge (tk_X11_fewestFalls 4 rfl) (tgt := 22) (by decide) ?_ ?_
    · refine on_il2 (tk_X11_fewestFalls 5 rfl) ?_
      refine on_il1 (tk_X11_fewestFalls 6 rfl) ?_
      refine on_cS2i ms_X11_storeysFound kw_5_190 (ct_X11_storeysFound hN) rfl (tk_X11_fewestFalls 7 rfl) fun v1 σ2 => ?_
      refine on_il0 (tk_X11_fewestFalls 8 rfl) ?_
      refine on_icmp_ge (tk_X11_fewestFalls 9 rfl) (tgt := 22) (by decide) ?_ ?_
      · refine on_inc2 rfl (tk_X11_fewestFalls 10 rfl) ?_
        refine on_goto (tk_X11_fewestFalls 11 rfl) (tgt := 2) (by decide) ?_
        exact ih _ _ _ _
      · refine on_il2 (tk_X11_fewestFalls 12 rfl) ?_
        exact on_iret (tk_X11_fewestFalls 13 rfl)
    · refine on_il2 (tk_X11_fewestFalls 12 rfl) ?_
      exact on_iret (tk_X11_fewestFalls 13 rfl)
set_option maxRecDepth 100000 in
set_option maxHeartbeats 4000000 in
theorem ct_X11_fewestFalls {E : on_E} {z n : Nat} {p0 : Int} {p1 : Int} (hN : 100 ≤ n) {σ : on_S} : on_Sp E yX11_fewestFalls cX11_fewestFalls 3 (some .int) 2 49 z n [.int (on_i p0), .int (on_i p1)] σ (pf_X11_fewestFalls p0 p1 σ) := by
  refine on_met [some (.int (on_i p0)), some (.int (on_i p1)), none] (by decide) rfl rfl (fun X => ?_)
  rw [pf_X11_fewestFalls]
  refine on_iconst (tk_X11_fewestFalls 0 rfl) ?_
  refine on_is2 rfl (tk_X11_fewestFalls 1 rfl) ?_
  exact gl_X11_fewestFalls_2 X  hN on_N _ _ _ _
def tb_X11_tests : List (Nat × Nat × Nat × Instr) := [(0, 1, 1, .iload_n 1), (1, 3, 4, .ifCond .lt 20), (4, 1, 5, .iload_n 1), (5, 2, 7, .bipush 99), (7, 3, 10, .if_icmp .gt 14), (10, 1, 11, .iload_n 2), (11, 1, 12, .iconst 1), (12, 3, 15, .if_icmp .lt 9), (15, 1, 16, .iload_n 2), (16, 2, 18, .bipush 9), (18, 3, 21, .if_icmp .le 6), (21, 2, 23, .bipush (-2)), (23, 1, 24, .ireturn), (24, 1, 25, .iload_n 1), (25, 1, 26, .iload_n 2), (26, 3, 29, .invokestatic 373), (29, 1, 30, .ireturn)]
set_option maxRecDepth 100000 in
theorem tk_X11_tests (k : Nat) {pc n pc2 : Nat} {i : Instr} (hk : tb_X11_tests[k]? = some (pc, n, pc2, i)) : on_dq cX11_tests pc n pc2 i := on_ta (by decide +kernel) k hk
theorem ms_X11_tests : on_Mv yX11_tests cX11_tests 3 (some .int) 2 := ⟨kw_5_186, kw_5_184, kw_5_185, kw_1_1, by decide, by decide, by decide +kernel⟩
def pf_X11_tests (p0 : Int) (p1 : Int) (σ : on_S) : Option on_O :=
  on_Lt p0 0 (
    some ((-2), σ)) (
    on_Le p0 99 (
      on_Lt p1 1 (
        some ((-2), σ)) (
        on_Le p1 9 (
          on_Cl (pf_X11_fewestFalls p0 p1 σ) fun v1 σ2 =>
          some (v1, σ2)) (
          some ((-2), σ)))) (
      some ((-2), σ)))
set_option maxRecDepth 100000 in
set_option maxHeartbeats 4000000 in
theorem ct_X11_tests {E : on_E} {z n : Nat} {p0 : Int} {p1 : Int} (hN : 100 ≤ n) {σ : on_S} : on_Sp E yX11_tests cX11_tests 3 (some .int) 3 71 z n [.ref (z + 0), .int (on_i p0), .int (on_i p1)] σ (pf_X11_tests p0 p1 σ) := by
  refine on_met [some (.ref (z + 0)), some (.int (on_i p0)), some (.int (on_i p1))] (by decide) rfl rfl (fun X => ?_)
  rw [pf_X11_tests]
  refine on_il1 (tk_X11_tests 0 rfl) ?_
  refine on_if_lt (tk_X11_tests 1 rfl) (tgt := 21) (by decide) ?_ ?_
  · refine on_il1 (tk_X11_tests 2 rfl) ?_
    refine on_bipush (tk_X11_tests 3 rfl) bp_99 ?_
    refine on_icmp_gt (tk_X11_tests 4 rfl) (tgt := 21) (by decide) ?_ ?_
    · refine on_il2 (tk_X11_tests 5 rfl) ?_
      refine on_iconst (tk_X11_tests 6 rfl) ?_
      refine on_icmp_lt (tk_X11_tests 7 rfl) (tgt := 21) (by decide) ?_ ?_
      · refine on_il2 (tk_X11_tests 8 rfl) ?_
        refine on_bipush (tk_X11_tests 9 rfl) bp_9 ?_
        refine on_icmp_le (tk_X11_tests 10 rfl) (tgt := 24) (by decide) ?_ ?_
        · refine on_bipush (tk_X11_tests 11 rfl) bp_m2 ?_
          exact on_iret (tk_X11_tests 12 rfl)
        · refine on_il1 (tk_X11_tests 13 rfl) ?_
          refine on_il2 (tk_X11_tests 14 rfl) ?_
          refine on_cS2i ms_X11_fewestFalls kw_5_187 (ct_X11_fewestFalls hN) rfl (tk_X11_tests 15 rfl) fun v1 σ2 => ?_
          exact on_iret (tk_X11_tests 16 rfl)
      · refine on_bipush (tk_X11_tests 11 rfl) bp_m2 ?_
        exact on_iret (tk_X11_tests 12 rfl)
    · refine on_bipush (tk_X11_tests 11 rfl) bp_m2 ?_
      exact on_iret (tk_X11_tests 12 rfl)
  · refine on_bipush (tk_X11_tests 11 rfl) bp_m2 ?_
    exact on_iret (tk_X11_tests 12 rfl)
def tb_X11_sought : List (Nat × Nat × Nat × Instr) := [(0, 1, 1, .iload_n 1), (1, 3, 4, .ifCond .lt 20), (4, 1, 5, .iload_n 1), (5, 2, 7, .bipush 12), (7, 3, 10, .if_icmp .gt 14), (10, 1, 11, .iload_n 2), (11, 1, 12, .iconst 1), (12, 3, 15, .if_icmp .lt 9), (15, 1, 16, .iload_n 2), (16, 2, 18, .bipush 9), (18, 3, 21, .if_icmp .le 6), (21, 2, 23, .bipush (-2)), (23, 1, 24, .ireturn), (24, 1, 25, .iload_n 1), (25, 1, 26, .iload_n 2), (26, 3, 29, .invokestatic 376), (29, 1, 30, .ireturn)]
set_option maxRecDepth 100000 in
theorem tk_X11_sought (k : Nat) {pc n pc2 : Nat} {i : Instr} (hk : tb_X11_sought[k]? = some (pc, n, pc2, i)) : on_dq cX11_sought pc n pc2 i := on_ta (by decide +kernel) k hk
theorem ms_X11_sought : on_Mv yX11_sought cX11_sought 3 (some .int) 2 := ⟨kw_5_200, kw_5_198, kw_5_199, kw_1_1, by decide, by decide, by decide +kernel⟩
def pf_X11_sought (p0 : Int) (p1 : Int) (σ : on_S) : Option on_O :=
  on_Lt p0 0 (
    some ((-2), σ)) (
    on_Le p0 12 (
      on_Lt p1 1 (
        some ((-2), σ)) (
        on_Le p1 9 (
          on_Cl (pf_X11_storeysFound p0 p1 σ) fun v1 σ2 =>
          some (v1, σ2)) (
          some ((-2), σ)))) (
      some ((-2), σ)))
set_option maxRecDepth 100000 in
set_option maxHeartbeats 4000000 in
theorem ct_X11_sought {E : on_E} {z n : Nat} {p0 : Int} {p1 : Int} (hN : 100 ≤ n) {σ : on_S} : on_Sp E yX11_sought cX11_sought 3 (some .int) 2 49 z n [.ref (z + 0), .int (on_i p0), .int (on_i p1)] σ (pf_X11_sought p0 p1 σ) := by
  refine on_met [some (.ref (z + 0)), some (.int (on_i p0)), some (.int (on_i p1))] (by decide) rfl rfl (fun X => ?_)
  rw [pf_X11_sought]
  refine on_il1 (tk_X11_sought 0 rfl) ?_
  refine on_if_lt (tk_X11_sought 1 rfl) (tgt := 21) (by decide) ?_ ?_
  · refine on_il1 (tk_X11_sought 2 rfl) ?_
    refine on_bipush (tk_X11_sought 3 rfl) bp_12 ?_
    refine on_icmp_gt (tk_X11_sought 4 rfl) (tgt := 21) (by decide) ?_ ?_
    · refine on_il2 (tk_X11_sought 5 rfl) ?_
      refine on_iconst (tk_X11_sought 6 rfl) ?_
      refine on_icmp_lt (tk_X11_sought 7 rfl) (tgt := 21) (by decide) ?_ ?_
      · refine on_il2 (tk_X11_sought 8 rfl) ?_
        refine on_bipush (tk_X11_sought 9 rfl) bp_9 ?_
        refine on_icmp_le (tk_X11_sought 10 rfl) (tgt := 24) (by decide) ?_ ?_
        · refine on_bipush (tk_X11_sought 11 rfl) bp_m2 ?_
          exact on_iret (tk_X11_sought 12 rfl)
        · refine on_il1 (tk_X11_sought 13 rfl) ?_
          refine on_il2 (tk_X11_sought 14 rfl) ?_
          refine on_cS2i ms_X11_storeysFound kw_5_190 (ct_X11_storeysFound hN) rfl (tk_X11_sought 15 rfl) fun v1 σ2 => ?_
          exact on_iret (tk_X11_sought 16 rfl)
      · refine on_bipush (tk_X11_sought 11 rfl) bp_m2 ?_
        exact on_iret (tk_X11_sought 12 rfl)
    · refine on_bipush (tk_X11_sought 11 rfl) bp_m2 ?_
      exact on_iret (tk_X11_sought 12 rfl)
  · refine on_bipush (tk_X11_sought 11 rfl) bp_m2 ?_
    exact on_iret (tk_X11_sought 12 rfl)
def tb_X11_firstFall : List (Nat × Nat × Nat × Instr) := [(0, 1, 1, .iload_n 1), (1, 1, 2, .iconst 1), (2, 3, 5, .if_icmp .lt 20), (5, 1, 6, .iload_n 1), (6, 2, 8, .bipush 99), (8, 3, 11, .if_icmp .gt 14), (11, 1, 12, .iload_n 2), (12, 1, 13, .iconst 1), (13, 3, 16, .if_icmp .lt 9), (16, 1, 17, .iload_n 2), (17, 2, 19, .bipush 9), (19, 3, 22, .if_icmp .le 6), (22, 2, 24, .bipush (-2)), (24, 1, 25, .ireturn), (25, 1, 26, .iload_n 1), (26, 1, 27, .iload_n 2), (27, 3, 30, .invokestatic 373), (30, 1, 31, .iconst 1), (31, 1, 32, .isub), (32, 1, 33, .iload_n 2), (33, 3, 36, .invokestatic 376), (36, 1, 37, .istore_n 3), (37, 1, 38, .iconst 1), (38, 1, 39, .iload_n 1), (39, 1, 40, .iload_n 3), (40, 1, 41, .isub), (41, 3, 44, .invokestatic 213), (44, 1, 45, .ireturn)]
set_option maxRecDepth 100000 in
theorem tk_X11_firstFall (k : Nat) {pc n pc2 : Nat} {i : Instr} (hk : tb_X11_firstFall[k]? = some (pc, n, pc2, i)) : on_dq cX11_firstFall pc n pc2 i := on_ta (by decide +kernel) k hk
theorem ms_X11_firstFall : on_Mv yX11_firstFall cX11_firstFall 4 (some .int) 2 := ⟨kw_5_204, kw_5_202, kw_5_203, kw_1_1, by decide, by decide, by decide +kernel⟩
def pf_X11_firstFall (p0 : Int) (p1 : Int) (σ : on_S) : Option on_O :=
  on_Lt p0 1 (
    some ((-2), σ)) (
    on_Le p0 99 (
      on_Lt p1 1 (
        some ((-2), σ)) (
        on_Le p1 9 (
          on_Cl (pf_X11_fewestFalls p0 p1 σ) fun v1 σ2 =>
          on_Cl (pf_X11_storeysFound (v1 - 1) p1 σ2) fun v3 σ4 =>
          on_Mx 1 (p0 - v3) fun v5 =>
          some (v5, σ4)) (
          some ((-2), σ)))) (
      some ((-2), σ)))
set_option maxRecDepth 100000 in
set_option maxHeartbeats 4000000 in
theorem ct_X11_firstFall {E : on_E} {z n : Nat} {p0 : Int} {p1 : Int} (hN : 100 ≤ n) {σ : on_S} : on_Sp E yX11_firstFall cX11_firstFall 4 (some .int) 3 71 z n [.ref (z + 0), .int (on_i p0), .int (on_i p1)] σ (pf_X11_firstFall p0 p1 σ) := by
  refine on_met [some (.ref (z + 0)), some (.int (on_i p0)), some (.int (on_i p1)), none] (by decide) rfl rfl (fun X => ?_)
  rw [pf_X11_firstFall]
  refine on_il1 (tk_X11_firstFall 0 rfl) ?_
  refine on_iconst (tk_X11_firstFall 1 rfl) ?_
  refine on_icmp_lt (tk_X11_firstFall 2 rfl) (tgt := 22) (by decide) ?_ ?_
  · refine on_il1 (tk_X11_firstFall 3 rfl) ?_
    refine on_bipush (tk_X11_firstFall 4 rfl) bp_99 ?_
    refine on_icmp_gt (tk_X11_firstFall 5 rfl) (tgt := 22) (by decide) ?_ ?_
    · refine on_il2 (tk_X11_firstFall 6 rfl) ?_
      refine on_iconst (tk_X11_firstFall 7 rfl) ?_
      refine on_icmp_lt (tk_X11_firstFall 8 rfl) (tgt := 22) (by decide) ?_ ?_
      · refine on_il2 (tk_X11_firstFall 9 rfl) ?_
        refine on_bipush (tk_X11_firstFall 10 rfl) bp_9 ?_
        refine on_icmp_le (tk_X11_firstFall 11 rfl) (tgt := 25) (by decide) ?_ ?_
        · refine on_bipush (tk_X11_firstFall 12 rfl) bp_m2 ?_
          exact on_iret (tk_X11_firstFall 13 rfl)
        · refine on_il1 (tk_X11_firstFall 14 rfl) ?_
          refine on_il2 (tk_X11_firstFall 15 rfl) ?_
          refine on_cS2i ms_X11_fewestFalls kw_5_187 (ct_X11_fewestFalls hN) rfl (tk_X11_firstFall 16 rfl) fun v1 σ2 => ?_
          refine on_iconst (tk_X11_firstFall 17 rfl) ?_
          refine on_isub (tk_X11_firstFall 18 rfl) ?_
          refine on_il2 (tk_X11_firstFall 19 rfl) ?_
          refine on_cS2i ms_X11_storeysFound kw_5_190 (ct_X11_storeysFound hN) rfl (tk_X11_firstFall 20 rfl) fun v3 σ4 => ?_
          refine on_is3 rfl (tk_X11_firstFall 21 rfl) ?_
          refine on_iconst (tk_X11_firstFall 22 rfl) ?_
          refine on_il1 (tk_X11_firstFall 23 rfl) ?_
          refine on_il3 (tk_X11_firstFall 24 rfl) ?_
          refine on_isub (tk_X11_firstFall 25 rfl) ?_
          refine on_max kw_4_112 kwM_max_s kwM_i kwM_max_c rfl (tk_X11_firstFall 26 rfl) fun v5 => ?_
          exact on_iret (tk_X11_firstFall 27 rfl)
      · refine on_bipush (tk_X11_firstFall 12 rfl) bp_m2 ?_
        exact on_iret (tk_X11_firstFall 13 rfl)
    · refine on_bipush (tk_X11_firstFall 12 rfl) bp_m2 ?_
      exact on_iret (tk_X11_firstFall 13 rfl)
  · refine on_bipush (tk_X11_firstFall 12 rfl) bp_m2 ?_
    exact on_iret (tk_X11_firstFall 13 rfl)
def tb_X11_isSlot : List (Nat × Nat × Nat × Instr) := [(0, 1, 1, .iload_n 0), (1, 3, 4, .ifCond .lt 12), (4, 1, 5, .iload_n 0), (5, 1, 6, .iconst 4), (6, 3, 9, .if_icmp .ge 7), (9, 1, 10, .iconst 1), (10, 3, 13, .goto 4), (13, 1, 14, .iconst 0), (14, 1, 15, .ireturn)]
set_option maxRecDepth 100000 in
theorem tk_X11_isSlot (k : Nat) {pc n pc2 : Nat} {i : Instr} (hk : tb_X11_isSlot[k]? = some (pc, n, pc2, i)) : on_dq cX11_isSlot pc n pc2 i := on_ta (by decide +kernel) k hk
theorem ms_X11_isSlot : on_Ms yX11_isSlot cX11_isSlot 1 (some .boolean) 1 := ⟨kw_5_215, kw_5_214, kw_1_1, by decide, by decide, by decide +kernel⟩
def pf_X11_isSlot_13 (σ : on_S) : Option on_O :=
  some (0, σ)
def pf_X11_isSlot (p0 : Int) (σ : on_S) : Option on_O :=
  on_Lt p0 0 (
    pf_X11_isSlot_13 σ) (
    on_Lt p0 4 (
      some (1, σ)) (
      pf_X11_isSlot_13 σ))
set_option maxRecDepth 100000 in
set_option maxHeartbeats 4000000 in
theorem gb_X11_isSlot_13 {E : on_E} {z n : Nat} (X : on_X) (hN : 100 ≤ n) (σ : on_S) : on_G X E cX11_isSlot RX11 (some .boolean) 0 0 1 z n σ (pf_X11_isSlot_13  σ) 13 [none] [] := by
  rw [pf_X11_isSlot_13]
  refine on_iconst (tk_X11_isSlot 7 rfl) ?_
  exact on_zret0 (tk_X11_isSlot 8 rfl)
set_option maxRecDepth 100000 in
set_option maxHeartbeats 4000000 in
theorem ct_X11_isSlot {E : on_E} {z n : Nat} {p0 : Int} (hN : 100 ≤ n) {σ : on_S} : on_Sp E yX11_isSlot cX11_isSlot 1 (some .boolean) 0 0 z n [.int (on_i p0)] σ (pf_X11_isSlot p0 σ) := by
  refine on_met [some (.int (on_i p0))] (by decide) rfl rfl (fun X => ?_)
  rw [pf_X11_isSlot]
  refine on_il0 (tk_X11_isSlot 0 rfl) ?_
  refine on_if_lt (tk_X11_isSlot 1 rfl) (tgt := 13) (by decide) ?_ ?_
  · refine on_il0 (tk_X11_isSlot 2 rfl) ?_
    refine on_iconst (tk_X11_isSlot 3 rfl) ?_
    refine on_icmp_ge (tk_X11_isSlot 4 rfl) (tgt := 13) (by decide) ?_ ?_
    · refine on_iconst (tk_X11_isSlot 5 rfl) ?_
      refine on_goto (tk_X11_isSlot 6 rfl) (tgt := 14) (by decide) ?_
      exact on_zret1 (tk_X11_isSlot 8 rfl)
    · refine on_dr0 ?_
      exact gb_X11_isSlot_13 X  hN _
  · refine on_dr0 ?_
    exact gb_X11_isSlot_13 X  hN _
def tb_X11_seenRefused : List (Nat × Nat × Nat × Instr) := [(0, 1, 1, .iload_n 1), (1, 3, 4, .invokestatic 394), (4, 3, 7, .ifCond .eq 13), (7, 1, 8, .aload_n 0), (8, 3, 11, .getfield 16), (11, 3, 14, .invokevirtual 243), (14, 3, 17, .ifCond .ne 6), (17, 2, 19, .bipush (-2)), (19, 1, 20, .ireturn), (20, 1, 21, .aload_n 0), (21, 3, 24, .getfield 38), (24, 1, 25, .iload_n 1), (25, 1, 26, .aaload), (26, 3, 29, .getfield 397), (29, 1, 30, .iconst (-1)), (30, 3, 33, .if_icmp .ne 6), (33, 2, 35, .bipush (-6)), (35, 1, 36, .ireturn), (36, 1, 37, .aload_n 0), (37, 3, 40, .getfield 77), (40, 1, 41, .aload_n 0), (41, 3, 44, .getfield 38), (44, 1, 45, .iload_n 1), (45, 1, 46, .aaload), (46, 3, 49, .invokevirtual 400), (49, 3, 52, .ifCond .eq 7), (52, 1, 53, .iconst 0), (53, 3, 56, .goto 5), (56, 2, 58, .bipush (-2)), (58, 1, 59, .ireturn)]
set_option maxRecDepth 100000 in
theorem tk_X11_seenRefused (k : Nat) {pc n pc2 : Nat} {i : Instr} (hk : tb_X11_seenRefused[k]? = some (pc, n, pc2, i)) : on_dq cX11_seenRefused pc n pc2 i := on_ta (by decide +kernel) k hk
theorem ms_X11_seenRefused : on_Mv yX11_seenRefused cX11_seenRefused 2 (some .int) 1 := ⟨kw_5_212, kw_5_211, (on_mp (q := (yX11_seenRefused, 12)) (by decide +kernel)), kw_1_1, by decide, by decide, by decide +kernel⟩
def pf_X11_seenRefused (p0 : Int) (σ : on_S) : Option on_O :=
  on_Cl (pf_X11_isSlot p0 σ) fun v1 σ2 =>
  on_Eq v1 0 (
    some ((-2), σ2)) (
    on_Cl (pf_X9_isThere 2 σ2) fun v3 σ4 =>
    on_Eq v3 0 (
      some ((-2), σ4)) (
      on_Ix 4 p0 fun j5 =>
      on_Gt σ4 (69 + 2 * j5) 0 fun v6 =>
      on_Eq v6 (-1) (
        some ((-6), σ4)) (
        on_Ix 4 p0 fun j7 =>
        on_Cl (pf_X10_understands (69 + 2 * j7) σ4) fun v8 σ9 =>
        on_Eq v8 0 (
          some ((-2), σ9)) (
          some (0, σ9)))))
set_option maxRecDepth 100000 in
set_option maxHeartbeats 4000000 in
theorem ct_X11_seenRefused {E : on_E} {z n : Nat} {p0 : Int} (hN : 100 ≤ n) {σ : on_S} : on_Sp E yX11_seenRefused cX11_seenRefused 2 (some .int) 1 26 z n [.ref (z + 0), .int (on_i p0)] σ (pf_X11_seenRefused p0 σ) := by
  refine on_met [some (.ref (z + 0)), some (.int (on_i p0))] (by decide) rfl rfl (fun X => ?_)
  rw [pf_X11_seenRefused]
  refine on_il1 (tk_X11_seenRefused 0 rfl) ?_
  refine on_cS1z ms_X11_isSlot kw_5_213 (ct_X11_isSlot hN) rfl (tk_X11_seenRefused 1 rfl) fun v1 σ2 => ?_
  refine on_if_eq (tk_X11_seenRefused 2 rfl) (tgt := 17) (by decide) ?_ ?_
  · refine on_al0 (tk_X11_seenRefused 3 rfl) ?_
    refine fg_11_2 hN kw_2_181 (tk_X11_seenRefused 4 rfl) ?_
    refine on_cV0z 9 ms_X9_isThere kw_4_152 rfl rfl (ltS_0 (on_Sb2 hN)) (shS_0 (on_Sb2 hN)) (ct_X9_isThere hN (on_Sb2 hN)) rfl (tk_X11_seenRefused 5 rfl) fun v3 σ4 => ?_
    refine on_if_ne (tk_X11_seenRefused 6 rfl) (tgt := 20) (by decide) ?_ ?_
    · refine on_bipush (tk_X11_seenRefused 7 rfl) bp_m2 ?_
      exact on_iret (tk_X11_seenRefused 8 rfl)
    · refine on_al0 (tk_X11_seenRefused 9 rfl) ?_
      refine fg_11_6 hN kw_2_185 (tk_X11_seenRefused 10 rfl) ?_
      refine on_il1 (tk_X11_seenRefused 11 rfl) ?_
      refine on_aaL (ltc_54 hN) sh_54 (tk_X11_seenRefused 12 rfl) fun j5 hj5 => ?_
      refine fg_8_0 hN (on_Lb_of hj5) kw_2_164 (tk_X11_seenRefused 13 rfl) fun v6 => ?_
      refine on_iconst (tk_X11_seenRefused 14 rfl) ?_
      refine on_icmp_ne (tk_X11_seenRefused 15 rfl) (tgt := 36) (by decide) ?_ ?_
      · refine on_bipush (tk_X11_seenRefused 16 rfl) bp_m6 ?_
        exact on_iret (tk_X11_seenRefused 17 rfl)
      · refine on_al0 (tk_X11_seenRefused 18 rfl) ?_
        refine fg_11_11 hN kw_2_190 (tk_X11_seenRefused 19 rfl) ?_
        refine on_al0 (tk_X11_seenRefused 20 rfl) ?_
        refine fg_11_6 hN kw_2_185 (tk_X11_seenRefused 21 rfl) ?_
        refine on_il1 (tk_X11_seenRefused 22 rfl) ?_
        refine on_aaL (ltc_54 hN) sh_54 (tk_X11_seenRefused 23 rfl) fun j7 hj7 => ?_
        refine on_cV1z 10 ms_X10_understands kw_5_216 rfl rfl (ltc_67 hN) sh_67 (ct_X10_understands hN (on_Lb_of hj7)) rfl (tk_X11_seenRefused 24 rfl) fun v8 σ9 => ?_
        refine on_if_eq (tk_X11_seenRefused 25 rfl) (tgt := 56) (by decide) ?_ ?_
        · refine on_iconst (tk_X11_seenRefused 26 rfl) ?_
          refine on_goto (tk_X11_seenRefused 27 rfl) (tgt := 58) (by decide) ?_
          exact on_iret (tk_X11_seenRefused 29 rfl)
        · refine on_bipush (tk_X11_seenRefused 28 rfl) bp_m2 ?_
          exact on_iret (tk_X11_seenRefused 29 rfl)
  · refine on_bipush (tk_X11_seenRefused 7 rfl) bp_m2 ?_
    exact on_iret (tk_X11_seenRefused 8 rfl)
def tb_X11_seen : List (Nat × Nat × Nat × Instr) := [(0, 1, 1, .aload_n 0), (1, 1, 2, .iload_n 1), (2, 3, 5, .invokevirtual 384), (5, 1, 6, .istore_n 2), (6, 1, 7, .iload_n 2), (7, 3, 10, .ifCond .eq 5), (10, 1, 11, .iload_n 2), (11, 1, 12, .ireturn), (12, 1, 13, .aload_n 0), (13, 3, 16, .getfield 77), (16, 1, 17, .aload_n 0), (17, 3, 20, .getfield 38), (20, 1, 21, .iload_n 1), (21, 1, 22, .aaload), (22, 3, 25, .invokevirtual 387), (25, 1, 26, .aload_n 0), (26, 3, 29, .getfield 77), (29, 3, 32, .getfield 391), (32, 1, 33, .ireturn)]
set_option maxRecDepth 100000 in
theorem tk_X11_seen (k : Nat) {pc n pc2 : Nat} {i : Instr} (hk : tb_X11_seen[k]? = some (pc, n, pc2, i)) : on_dq cX11_seen pc n pc2 i := on_ta (by decide +kernel) k hk
theorem ms_X11_seen : on_Mv yX11_seen cX11_seen 3 (some .int) 1 := ⟨kw_5_208, kw_5_206, kw_5_207, kw_1_1, by decide, by decide, by decide +kernel⟩
def pf_X11_seen (p0 : Int) (σ : on_S) : Option on_O :=
  on_Cl (pf_X11_seenRefused p0 σ) fun v1 σ2 =>
  on_Eq v1 0 (
    on_Ix 4 p0 fun j3 =>
    on_Cl (pf_X10_weigh (69 + 2 * j3) σ2) fun _ σ5 =>
    on_Gt σ5 67 2 fun v6 =>
    some (v6, σ5)) (
    some (v1, σ2))
set_option maxRecDepth 100000 in
set_option maxHeartbeats 4000000 in
theorem ct_X11_seen {E : on_E} {z n : Nat} {p0 : Int} (hN : 100 ≤ n) {σ : on_S} : on_Sp E yX11_seen cX11_seen 3 (some .int) 6 143 z n [.ref (z + 0), .int (on_i p0)] σ (pf_X11_seen p0 σ) := by
  refine on_met [some (.ref (z + 0)), some (.int (on_i p0)), none] (by decide) rfl rfl (fun X => ?_)
  rw [pf_X11_seen]
  refine on_al0 (tk_X11_seen 0 rfl) ?_
  refine on_il1 (tk_X11_seen 1 rfl) ?_
  refine on_cV1i 11 ms_X11_seenRefused kw_5_209 rfl rfl (ltc_0 hN) sh_0 (ct_X11_seenRefused hN) rfl (tk_X11_seen 2 rfl) fun v1 σ2 => ?_
  refine on_is2 rfl (tk_X11_seen 3 rfl) ?_
  refine on_il2 (tk_X11_seen 4 rfl) ?_
  refine on_if_eq (tk_X11_seen 5 rfl) (tgt := 12) (by decide) ?_ ?_
  · refine on_il2 (tk_X11_seen 6 rfl) ?_
    exact on_iret (tk_X11_seen 7 rfl)
  · refine on_al0 (tk_X11_seen 8 rfl) ?_
    refine fg_11_11 hN kw_2_190 (tk_X11_seen 9 rfl) ?_
    refine on_al0 (tk_X11_seen 10 rfl) ?_
    refine fg_11_6 hN kw_2_185 (tk_X11_seen 11 rfl) ?_
    refine on_il1 (tk_X11_seen 12 rfl) ?_
    refine on_aaL (ltc_54 hN) sh_54 (tk_X11_seen 13 rfl) fun j3 hj3 => ?_
    refine on_cV1v 10 ms_X10_weigh kw_5_220 rfl rfl (ltc_67 hN) sh_67 (ct_X10_weigh hN (on_Lb_of hj3)) rfl (tk_X11_seen 14 rfl) fun v4 σ5 => ?_
    refine on_al0 (tk_X11_seen 15 rfl) ?_
    refine fg_11_11 hN kw_2_190 (tk_X11_seen 16 rfl) ?_
    refine fg_10_2 hN kw_2_142 (tk_X11_seen 17 rfl) fun v6 => ?_
    exact on_iret (tk_X11_seen 18 rfl)
def tb_X11_sure : List (Nat × Nat × Nat × Instr) := [(0, 1, 1, .iload_n 2), (1, 3, 4, .invokestatic 364), (4, 3, 7, .ifCond .ne 6), (7, 2, 9, .bipush (-2)), (9, 1, 10, .ireturn), (10, 1, 11, .aload_n 0), (11, 1, 12, .iload_n 1), (12, 3, 15, .invokevirtual 384), (15, 1, 16, .istore_n 3), (16, 1, 17, .iload_n 3), (17, 3, 20, .ifCond .eq 5), (20, 1, 21, .iload_n 3), (21, 1, 22, .ireturn), (22, 1, 23, .aload_n 0), (23, 3, 26, .getfield 77), (26, 1, 27, .aload_n 0), (27, 3, 30, .getfield 38), (30, 1, 31, .iload_n 1), (31, 1, 32, .aaload), (32, 3, 35, .invokevirtual 387), (35, 1, 36, .aload_n 0), (36, 3, 39, .getfield 77), (39, 3, 42, .getfield 391), (42, 3, 45, .ifCond .ne 5), (45, 1, 46, .iconst (-1)), (46, 1, 47, .ireturn), (47, 1, 48, .iload_n 2), (48, 3, 51, .ifCond .ne 13), (51, 1, 52, .aload_n 0), (52, 3, 55, .getfield 77), (55, 3, 58, .getfield 404), (58, 3, 61, .goto 10), (61, 1, 62, .aload_n 0), (62, 3, 65, .getfield 77), (65, 3, 68, .getfield 407), (68, 1, 69, .ireturn)]
set_option maxRecDepth 100000 in
theorem tk_X11_sure (k : Nat) {pc n pc2 : Nat} {i : Instr} (hk : tb_X11_sure[k]? = some (pc, n, pc2, i)) : on_dq cX11_sure pc n pc2 i := on_ta (by decide +kernel) k hk
theorem ms_X11_sure : on_Mv yX11_sure cX11_sure 4 (some .int) 2 := ⟨kw_5_236, kw_5_234, kw_5_235, kw_1_1, by decide, by decide, by decide +kernel⟩
def pf_X11_sure (p0 : Int) (p1 : Int) (σ : on_S) : Option on_O :=
  on_Cl (pf_X11_isBit p1 σ) fun v1 σ2 =>
  on_Eq v1 0 (
    some ((-2), σ2)) (
    on_Cl (pf_X11_seenRefused p0 σ2) fun v3 σ4 =>
    on_Eq v3 0 (
      on_Ix 4 p0 fun j5 =>
      on_Cl (pf_X10_weigh (69 + 2 * j5) σ4) fun _ σ7 =>
      on_Gt σ7 67 2 fun v8 =>
      on_Eq v8 0 (
        some ((-1), σ7)) (
        on_Eq p1 0 (
          on_Gt σ7 67 3 fun v9 =>
          some (v9, σ7)) (
          on_Gt σ7 67 4 fun v10 =>
          some (v10, σ7)))) (
      some (v3, σ4)))
set_option maxRecDepth 100000 in
set_option maxHeartbeats 4000000 in
theorem ct_X11_sure {E : on_E} {z n : Nat} {p0 : Int} {p1 : Int} (hN : 100 ≤ n) {σ : on_S} : on_Sp E yX11_sure cX11_sure 4 (some .int) 6 143 z n [.ref (z + 0), .int (on_i p0), .int (on_i p1)] σ (pf_X11_sure p0 p1 σ) := by
  refine on_met [some (.ref (z + 0)), some (.int (on_i p0)), some (.int (on_i p1)), none] (by decide) rfl rfl (fun X => ?_)
  rw [pf_X11_sure]
  refine on_il2 (tk_X11_sure 0 rfl) ?_
  refine on_cS1z ms_X11_isBit kw_5_172 (ct_X11_isBit hN) rfl (tk_X11_sure 1 rfl) fun v1 σ2 => ?_
  refine on_if_ne (tk_X11_sure 2 rfl) (tgt := 10) (by decide) ?_ ?_
  · refine on_bipush (tk_X11_sure 3 rfl) bp_m2 ?_
    exact on_iret (tk_X11_sure 4 rfl)
  · refine on_al0 (tk_X11_sure 5 rfl) ?_
    refine on_il1 (tk_X11_sure 6 rfl) ?_
    refine on_cV1i 11 ms_X11_seenRefused kw_5_209 rfl rfl (ltc_0 hN) sh_0 (ct_X11_seenRefused hN) rfl (tk_X11_sure 7 rfl) fun v3 σ4 => ?_
    refine on_is3 rfl (tk_X11_sure 8 rfl) ?_
    refine on_il3 (tk_X11_sure 9 rfl) ?_
    refine on_if_eq (tk_X11_sure 10 rfl) (tgt := 22) (by decide) ?_ ?_
    · refine on_il3 (tk_X11_sure 11 rfl) ?_
      exact on_iret (tk_X11_sure 12 rfl)
    · refine on_al0 (tk_X11_sure 13 rfl) ?_
      refine fg_11_11 hN kw_2_190 (tk_X11_sure 14 rfl) ?_
      refine on_al0 (tk_X11_sure 15 rfl) ?_
      refine fg_11_6 hN kw_2_185 (tk_X11_sure 16 rfl) ?_
      refine on_il1 (tk_X11_sure 17 rfl) ?_
      refine on_aaL (ltc_54 hN) sh_54 (tk_X11_sure 18 rfl) fun j5 hj5 => ?_
      refine on_cV1v 10 ms_X10_weigh kw_5_220 rfl rfl (ltc_67 hN) sh_67 (ct_X10_weigh hN (on_Lb_of hj5)) rfl (tk_X11_sure 19 rfl) fun v6 σ7 => ?_
      refine on_al0 (tk_X11_sure 20 rfl) ?_
      refine fg_11_11 hN kw_2_190 (tk_X11_sure 21 rfl) ?_
      refine fg_10_2 hN kw_2_142 (tk_X11_sure 22 rfl) fun v8 => ?_
      refine on_if_ne (tk_X11_sure 23 rfl) (tgt := 47) (by decide) ?_ ?_
      · refine on_iconst (tk_X11_sure 24 rfl) ?_
        exact on_iret (tk_X11_sure 25 rfl)
      · refine on_il2 (tk_X11_sure 26 rfl) ?_
        refine on_if_ne (tk_X11_sure 27 rfl) (tgt := 61) (by decide) ?_ ?_
        · refine on_al0 (tk_X11_sure 28 rfl) ?_
          refine fg_11_11 hN kw_2_190 (tk_X11_sure 29 rfl) ?_
          refine fg_10_3 hN kw_2_144 (tk_X11_sure 30 rfl) fun v9 => ?_
          refine on_goto (tk_X11_sure 31 rfl) (tgt := 68) (by decide) ?_
          exact on_iret (tk_X11_sure 35 rfl)
        · refine on_al0 (tk_X11_sure 32 rfl) ?_
          refine fg_11_11 hN kw_2_190 (tk_X11_sure 33 rfl) ?_
          refine fg_10_4 hN kw_2_146 (tk_X11_sure 34 rfl) fun v10 => ?_
          exact on_iret (tk_X11_sure 35 rfl)
def tb_X11_odd : List (Nat × Nat × Nat × Instr) := [(0, 1, 1, .aload_n 0), (1, 1, 2, .iload_n 1), (2, 3, 5, .invokevirtual 384), (5, 1, 6, .istore_n 2), (6, 1, 7, .iload_n 2), (7, 3, 10, .ifCond .eq 5), (10, 1, 11, .iload_n 2), (11, 1, 12, .ireturn), (12, 1, 13, .aload_n 0), (13, 3, 16, .getfield 77), (16, 1, 17, .aload_n 0), (17, 3, 20, .getfield 38), (20, 1, 21, .iload_n 1), (21, 1, 22, .aaload), (22, 3, 25, .invokevirtual 410), (25, 1, 26, .ireturn)]
set_option maxRecDepth 100000 in
theorem tk_X11_odd (k : Nat) {pc n pc2 : Nat} {i : Instr} (hk : tb_X11_odd[k]? = some (pc, n, pc2, i)) : on_dq cX11_odd pc n pc2 i := on_ta (by decide +kernel) k hk
theorem ms_X11_odd : on_Mv yX11_odd cX11_odd 3 (some .int) 1 := ⟨kw_6_0, kw_5_238, kw_5_239, kw_1_1, by decide, by decide, by decide +kernel⟩
def pf_X11_odd (p0 : Int) (σ : on_S) : Option on_O :=
  on_Cl (pf_X11_seenRefused p0 σ) fun v1 σ2 =>
  on_Eq v1 0 (
    on_Ix 4 p0 fun j3 =>
    on_Cl (pf_X10_firstOdd (69 + 2 * j3) σ2) fun v4 σ5 =>
    some (v4, σ5)) (
    some (v1, σ2))
set_option maxRecDepth 100000 in
set_option maxHeartbeats 4000000 in
theorem ct_X11_odd {E : on_E} {z n : Nat} {p0 : Int} (hN : 100 ≤ n) {σ : on_S} : on_Sp E yX11_odd cX11_odd 3 (some .int) 6 143 z n [.ref (z + 0), .int (on_i p0)] σ (pf_X11_odd p0 σ) := by
  refine on_met [some (.ref (z + 0)), some (.int (on_i p0)), none] (by decide) rfl rfl (fun X => ?_)
  rw [pf_X11_odd]
  refine on_al0 (tk_X11_odd 0 rfl) ?_
  refine on_il1 (tk_X11_odd 1 rfl) ?_
  refine on_cV1i 11 ms_X11_seenRefused kw_5_209 rfl rfl (ltc_0 hN) sh_0 (ct_X11_seenRefused hN) rfl (tk_X11_odd 2 rfl) fun v1 σ2 => ?_
  refine on_is2 rfl (tk_X11_odd 3 rfl) ?_
  refine on_il2 (tk_X11_odd 4 rfl) ?_
  refine on_if_eq (tk_X11_odd 5 rfl) (tgt := 12) (by decide) ?_ ?_
  · refine on_il2 (tk_X11_odd 6 rfl) ?_
    exact on_iret (tk_X11_odd 7 rfl)
  · refine on_al0 (tk_X11_odd 8 rfl) ?_
    refine fg_11_11 hN kw_2_190 (tk_X11_odd 9 rfl) ?_
    refine on_al0 (tk_X11_odd 10 rfl) ?_
    refine fg_11_6 hN kw_2_185 (tk_X11_odd 11 rfl) ?_
    refine on_il1 (tk_X11_odd 12 rfl) ?_
    refine on_aaL (ltc_54 hN) sh_54 (tk_X11_odd 13 rfl) fun j3 hj3 => ?_
    refine on_cV1i 10 ms_X10_firstOdd kw_6_1 rfl rfl (ltc_67 hN) sh_67 (ct_X10_firstOdd hN (on_Lb_of hj3)) rfl (tk_X11_odd 14 rfl) fun v4 σ5 => ?_
    exact on_iret (tk_X11_odd 15 rfl)
def tb_X11_corners : List (Nat × Nat × Nat × Instr) := [(0, 1, 1, .aload_n 0), (1, 3, 4, .getfield 16), (4, 1, 5, .iload_n 1), (5, 3, 8, .invokevirtual 346), (8, 3, 11, .ifCond .ne 6), (11, 2, 13, .bipush (-2)), (13, 1, 14, .ireturn), (14, 1, 15, .aload_n 0), (15, 3, 18, .getfield 16), (18, 1, 19, .iload_n 1), (19, 3, 22, .invokevirtual 414), (22, 1, 23, .ireturn)]
set_option maxRecDepth 100000 in
theorem tk_X11_corners (k : Nat) {pc n pc2 : Nat} {i : Instr} (hk : tb_X11_corners[k]? = some (pc, n, pc2, i)) : on_dq cX11_corners pc n pc2 i := on_ta (by decide +kernel) k hk
theorem ms_X11_corners : on_Mv yX11_corners cX11_corners 2 (some .int) 1 := ⟨kw_6_8, kw_6_6, kw_6_7, kw_1_1, by decide, by decide, by decide +kernel⟩
def pf_X11_corners (p0 : Int) (σ : on_S) : Option on_O :=
  on_Cl (pf_X9_hasHouse 2 p0 σ) fun v1 σ2 =>
  on_Eq v1 0 (
    some ((-2), σ2)) (
    on_Cl (pf_X9_cornersOf 2 p0 σ2) fun v3 σ4 =>
    some (v3, σ4))
set_option maxRecDepth 100000 in
set_option maxHeartbeats 4000000 in
theorem ct_X11_corners {E : on_E} {z n : Nat} {p0 : Int} (hN : 100 ≤ n) {σ : on_S} : on_Sp E yX11_corners cX11_corners 2 (some .int) 1 23 z n [.ref (z + 0), .int (on_i p0)] σ (pf_X11_corners p0 σ) := by
  refine on_met [some (.ref (z + 0)), some (.int (on_i p0))] (by decide) rfl rfl (fun X => ?_)
  rw [pf_X11_corners]
  refine on_al0 (tk_X11_corners 0 rfl) ?_
  refine fg_11_2 hN kw_2_181 (tk_X11_corners 1 rfl) ?_
  refine on_il1 (tk_X11_corners 2 rfl) ?_
  refine on_cV1z 9 ms_X9_hasHouse kw_5_131 rfl rfl (ltS_0 (on_Sb2 hN)) (shS_0 (on_Sb2 hN)) (ct_X9_hasHouse hN (on_Sb2 hN)) rfl (tk_X11_corners 3 rfl) fun v1 σ2 => ?_
  refine on_if_ne (tk_X11_corners 4 rfl) (tgt := 14) (by decide) ?_ ?_
  · refine on_bipush (tk_X11_corners 5 rfl) bp_m2 ?_
    exact on_iret (tk_X11_corners 6 rfl)
  · refine on_al0 (tk_X11_corners 7 rfl) ?_
    refine fg_11_2 hN kw_2_181 (tk_X11_corners 8 rfl) ?_
    refine on_il1 (tk_X11_corners 9 rfl) ?_
    refine on_cV1i 9 ms_X9_cornersOf kw_6_9 rfl rfl (ltS_0 (on_Sb2 hN)) (shS_0 (on_Sb2 hN)) (ct_X9_cornersOf hN (on_Sb2 hN)) rfl (tk_X11_corners 10 rfl) fun v3 σ4 => ?_
    exact on_iret (tk_X11_corners 11 rfl)
