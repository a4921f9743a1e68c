def tb_X9_hasNet : List (Nat × Nat × Nat × Instr) := [(0, 1, 1, .iload_n 1), (1, 3, 4, .ifCond .lt 18), (4, 1, 5, .iload_n 1), (5, 1, 6, .aload_n 0), (6, 3, 9, .getfield 43), (9, 3, 12, .getfield 110), (12, 3, 15, .if_icmp .ge 7), (15, 1, 16, .iconst 1), (16, 3, 19, .goto 4), (19, 1, 20, .iconst 0), (20, 1, 21, .ireturn)]
set_option maxRecDepth 100000 in
theorem tk_X9_hasNet (k : Nat) {pc n pc2 : Nat} {i : Instr} (hk : tb_X9_hasNet[k]? = some (pc, n, pc2, i)) : on_dq cX9_hasNet pc n pc2 i := on_ta (by decide +kernel) k hk
theorem ms_X9_hasNet : on_Mv yX9_hasNet cX9_hasNet 2 (some .boolean) 1 := ⟨kw_3_234, kw_3_232, kw_3_233, kw_1_2, by decide, by decide, by decide +kernel⟩
def pf_X9_hasNet_19 (σ : on_S) : Option on_O :=
  some (0, σ)
def pf_X9_hasNet (b : Nat) (p0 : Int) (σ : on_S) : Option on_O :=
  on_Lt p0 0 (
    pf_X9_hasNet_19 σ) (
    on_Gt σ (b + 14) 0 fun v1 =>
    on_Lt p0 v1 (
      some (1, σ)) (
      pf_X9_hasNet_19 σ))
set_option maxRecDepth 100000 in
set_option maxHeartbeats 4000000 in
theorem gb_X9_hasNet_19 {E : on_E} {z n : Nat} (X : on_X) (hN : 100 ≤ n) (σ : on_S) : on_G X E cX9_hasNet RX9 (some .boolean) 0 0 2 z n σ (pf_X9_hasNet_19  σ) 19 [none, none] [] := by
  rw [pf_X9_hasNet_19]
  refine on_iconst (tk_X9_hasNet 9 rfl) ?_
  exact on_zret0 (tk_X9_hasNet 10 rfl)
set_option maxRecDepth 100000 in
set_option maxHeartbeats 4000000 in
theorem ct_X9_hasNet {E : on_E} {z n : Nat} {b : Nat} {p0 : Int} (hN : 100 ≤ n) (hb : on_Sb n b) {σ : on_S} : on_Sp E yX9_hasNet cX9_hasNet 2 (some .boolean) 0 0 z n [.ref (z + b), .int (on_i p0)] σ (pf_X9_hasNet b p0 σ) := by
  refine on_met [some (.ref (z + b)), some (.int (on_i p0))] (by decide) rfl rfl (fun X => ?_)
  rw [pf_X9_hasNet]
  refine on_il1 (tk_X9_hasNet 0 rfl) ?_
  refine on_if_lt (tk_X9_hasNet 1 rfl) (tgt := 19) (by decide) ?_ ?_
  · refine on_il1 (tk_X9_hasNet 2 rfl) ?_
    refine on_al0 (tk_X9_hasNet 3 rfl) ?_
    refine fg_9_13 hb kw_1_190 (tk_X9_hasNet 4 rfl) ?_
    refine fg_4_0 hb kw_1_88 (tk_X9_hasNet 5 rfl) fun v1 => ?_
    refine on_icmp_ge (tk_X9_hasNet 6 rfl) (tgt := 19) (by decide) ?_ ?_
    · refine on_iconst (tk_X9_hasNet 7 rfl) ?_
      refine on_goto (tk_X9_hasNet 8 rfl) (tgt := 20) (by decide) ?_
      exact on_zret1 (tk_X9_hasNet 10 rfl)
    · refine on_dr0 ?_
      refine on_dr1 ?_
      exact gb_X9_hasNet_19 X  hN _
  · refine on_dr0 ?_
    refine on_dr1 ?_
    exact gb_X9_hasNet_19 X  hN _
def tb_X9_forceOf : List (Nat × Nat × Nat × Instr) := [(0, 1, 1, .aload_n 0), (1, 3, 4, .getfield 21), (4, 1, 5, .iload_n 1), (5, 1, 6, .iaload), (6, 1, 7, .aload_n 0), (7, 3, 10, .getfield 15), (10, 1, 11, .aload_n 0), (11, 3, 14, .getfield 24), (14, 1, 15, .iload_n 1), (15, 1, 16, .iaload), (16, 1, 17, .iaload), (17, 1, 18, .imul), (18, 1, 19, .ireturn)]
set_option maxRecDepth 100000 in
theorem tk_X9_forceOf (k : Nat) {pc n pc2 : Nat} {i : Instr} (hk : tb_X9_forceOf[k]? = some (pc, n, pc2, i)) : on_dq cX9_forceOf pc n pc2 i := on_ta (by decide +kernel) k hk
theorem ms_X9_forceOf : on_Mv yX9_forceOf cX9_forceOf 2 (some .int) 1 := ⟨kw_4_2, kw_4_0, kw_4_1, kw_1_2, by decide, by decide, by decide +kernel⟩
def pf_X9_forceOf (b : Nat) (p0 : Int) (σ : on_S) : Option on_O :=
  on_Rd σ (b + 4) 9 p0 fun v1 =>
  on_Rd σ (b + 5) 9 p0 fun v2 =>
  on_Rd σ (b + 2) 9 v2 fun v3 =>
  some ((v1 * v3), σ)
set_option maxRecDepth 100000 in
set_option maxHeartbeats 4000000 in
theorem ct_X9_forceOf {E : on_E} {z n : Nat} {b : Nat} {p0 : Int} (hN : 100 ≤ n) (hb : on_Sb n b) {σ : on_S} : on_Sp E yX9_forceOf cX9_forceOf 2 (some .int) 0 0 z n [.ref (z + b), .int (on_i p0)] σ (pf_X9_forceOf b p0 σ) := by
  refine on_met [some (.ref (z + b)), some (.int (on_i p0))] (by decide) rfl rfl (fun X => ?_)
  rw [pf_X9_forceOf]
  refine on_al0 (tk_X9_forceOf 0 rfl) ?_
  refine fg_9_8 hb kw_1_177 (tk_X9_forceOf 1 rfl) ?_
  refine on_il1 (tk_X9_forceOf 2 rfl) ?_
  refine on_iald (ltS_4 hb) (shS_4 hb) (tk_X9_forceOf 3 rfl) fun v1 => ?_
  refine on_al0 (tk_X9_forceOf 4 rfl) ?_
  refine fg_9_5 hb kw_1_168 (tk_X9_forceOf 5 rfl) ?_
  refine on_al0 (tk_X9_forceOf 6 rfl) ?_
  refine fg_9_9 hb kw_1_179 (tk_X9_forceOf 7 rfl) ?_
  refine on_il1 (tk_X9_forceOf 8 rfl) ?_
  refine on_iald (ltS_5 hb) (shS_5 hb) (tk_X9_forceOf 9 rfl) fun v2 => ?_
  refine on_iald (ltS_2 hb) (shS_2 hb) (tk_X9_forceOf 10 rfl) fun v3 => ?_
  refine on_imul (tk_X9_forceOf 11 rfl) ?_
  exact on_iret (tk_X9_forceOf 12 rfl)
def tb_X9_needOf : List (Nat × Nat × Nat × Instr) := [(0, 1, 1, .iconst 0), (1, 1, 2, .istore_n 2), (2, 1, 3, .iconst 0), (3, 1, 4, .istore_n 3), (4, 1, 5, .iload_n 3), (5, 1, 6, .aload_n 0), (6, 3, 9, .getfield 70), (9, 3, 12, .if_icmp .ge 37), (12, 1, 13, .aload_n 0), (13, 3, 16, .getfield 24), (16, 1, 17, .iload_n 3), (17, 1, 18, .iaload), (18, 1, 19, .aload_n 0), (19, 3, 22, .getfield 43), (22, 3, 25, .getfield 114), (25, 1, 26, .iload_n 1), (26, 1, 27, .iaload), (27, 3, 30, .if_icmp .ne 13), (30, 1, 31, .iload_n 2), (31, 1, 32, .aload_n 0), (32, 1, 33, .iload_n 3), (33, 3, 36, .invokevirtual 117), (36, 3, 39, .invokestatic 121), (39, 1, 40, .istore_n 2), (40, 3, 43, .iinc 3 1), (43, 3, 46, .goto (-39)), (46, 1, 47, .iload_n 2), (47, 1, 48, .ireturn)]
set_option maxRecDepth 100000 in
theorem tk_X9_needOf (k : Nat) {pc n pc2 : Nat} {i : Instr} (hk : tb_X9_needOf[k]? = some (pc, n, pc2, i)) : on_dq cX9_needOf pc n pc2 i := on_ta (by decide +kernel) k hk
theorem ms_X9_needOf : on_Mv yX9_needOf cX9_needOf 4 (some .int) 1 := ⟨kw_3_238, kw_3_236, kw_3_237, kw_1_2, by decide, by decide, by decide +kernel⟩
def pf_X9_needOf_4 (b : Nat) : Nat → Int → Int → Int → on_S → Option on_O
  | 0, _, _, _, _ => none
  | nf + 1, l1, l2, l3, σ =>
    on_Gt σ b 7 fun v1 =>
    on_Lt l3 v1 (
      on_Rd σ (b + 5) 9 l3 fun v2 =>
      on_Rd σ (b + 15) 2 l1 fun v3 =>
      on_Eq v2 v3 (
        on_Cl (pf_X9_forceOf b l3 σ) fun v4 σ5 =>
        on_Mx l2 v4 fun v6 =>
        pf_X9_needOf_4 b nf l1 v6 (l3 + 1) σ5) (
        pf_X9_needOf_4 b nf l1 l2 (l3 + 1) σ)) (
      some (l2, σ))
def pf_X9_needOf (b : Nat) (p0 : Int) (σ : on_S) : Option on_O :=
  pf_X9_needOf_4 b on_N p0 0 0 σ
set_option maxRecDepth 100000 in
set_option maxHeartbeats 4000000 in
theorem gl_X9_needOf_4 {E : on_E} {z n : Nat} (X : on_X) (b : Nat) (hN : 100 ≤ n) (hb : on_Sb n b) : ∀ (nf : Nat) (l1 : Int) (l2 : Int) (l3 : Int) (σ : on_S), on_G X E cX9_needOf RX9 (some .int) 1 21 4 z n σ (pf_X9_needOf_4 b nf l1 l2 l3 σ) 4 [some (.ref (z + b)), some (.int (on_i l1)), some (.int (on_i l2)), some (.int (on_i l3))] [] := by
  intro nf
  induction nf with
  | zero => intro l1 l2 l3 σ; exact on_none
  | succ nf ih =>
    intro l1 l2 l3 σ
    rw [pf_X9_needOf_4]
    refine on_il3 (tk_X9_needOf 4 rfl) ?_
    refine on_al0 (tk_X9_needOf 5 rfl) ?_
    refine fg_9_7 hb kw_1_173 (tk_X9_needOf 6 rfl) fun v1 => ?_
    refine on_icmp_ge (tk_X9_needOf 7 rfl) (tgt := 46) (by decide) ?_ ?_
    · refine on_al0 (tk_X9_needOf 8 rfl) ?_
      refine fg_9_9 hb kw_1_179 (tk_X9_needOf 9 rfl) ?_
      refine on_il3 (tk_X9_needOf 10 rfl) ?_
      refine on_iald (ltS_5 hb) (shS_5 hb) (tk_X9_needOf 11 rfl) fun v2 => ?_
      refine on_al0 (tk_X9_needOf 12 rfl) ?_
      refine fg_9_13 hb kw_1_190 (tk_X9_needOf 13 rfl) ?_
      refine fg_4_1 hb kw_1_94 (tk_X9_needOf 14 rfl) ?_
      refine on_il1 (tk_X9_needOf 15 rfl) ?_
      refine on_iald (ltS_15 hb) (shS_15 hb) (tk_X9_needOf 16 rfl) fun v3 => ?_
      refine on_icmp_ne (tk_X9_needOf 17 rfl) (tgt := 40) (by decide) ?_ ?_
      · refine on_il2 (tk_X9_needOf 18 rfl) ?_
        refine on_al0 (tk_X9_needOf 19 rfl) ?_
        refine on_il3 (tk_X9_needOf 20 rfl) ?_
        refine on_cV1i 9 ms_X9_forceOf kw_3_239 rfl rfl (ltS_0 hb) (shS_0 hb) (ct_X9_forceOf hN hb) rfl (tk_X9_needOf 21 rfl) fun v4 σ5 => ?_
        refine on_max kw_4_3 kwM_max_s kwM_i kwM_max_c rfl (tk_X9_needOf 22 rfl) fun v6 => ?_
        refine on_is2 rfl (tk_X9_needOf 23 rfl) ?_
        refine on_inc3 rfl (tk_X9_needOf 24 rfl) ?_
        refine on_goto (tk_X9_needOf 25 rfl) (tgt := 4) (by decide) ?_
        exact ih _ _ _ _
      · refine on_inc3 rfl (tk_X9_needOf 24 rfl) ?_
        refine on_goto (tk_X9_needOf 25 rfl) (tgt := 4) (by decide) ?_
        exact ih _ _ _ _
    · refine on_il2 (tk_X9_needOf 26 rfl) ?_
      exact on_iret (tk_X9_needOf 27 rfl)
set_option maxRecDepth 100000 in
set_option maxHeartbeats 4000000 in
theorem ct_X9_needOf {E : on_E} {z n : Nat} {b : Nat} {p0 : Int} (hN : 100 ≤ n) (hb : on_Sb n b) {σ : on_S} : on_Sp E yX9_needOf cX9_needOf 4 (some .int) 1 21 z n [.ref (z + b), .int (on_i p0)] σ (pf_X9_needOf b p0 σ) := by
  refine on_met [some (.ref (z + b)), some (.int (on_i p0)), none, none] (by decide) rfl rfl (fun X => ?_)
  rw [pf_X9_needOf]
  refine on_iconst (tk_X9_needOf 0 rfl) ?_
  refine on_is2 rfl (tk_X9_needOf 1 rfl) ?_
  refine on_iconst (tk_X9_needOf 2 rfl) ?_
  refine on_is3 rfl (tk_X9_needOf 3 rfl) ?_
  exact gl_X9_needOf_4 X _ hN hb on_N _ _ _ _
def tb_X9_willHold : List (Nat × Nat × Nat × Instr) := [(0, 1, 1, .aload_n 0), (1, 3, 4, .getfield 36), (4, 3, 7, .getfield 127), (7, 1, 8, .iload_n 1), (8, 1, 9, .iaload), (9, 1, 10, .istore_n 3), (10, 1, 11, .iload_n 3), (11, 1, 12, .aload_n 0), (12, 3, 15, .getfield 9), (15, 1, 16, .iload_n 2), (16, 1, 17, .iaload), (17, 3, 20, .if_icmp .eq 25), (20, 1, 21, .aload_n 0), (21, 3, 24, .getfield 27), (24, 1, 25, .iload_n 3), (25, 1, 26, .iconst 4), (26, 1, 27, .imul), (27, 1, 28, .aload_n 0), (28, 3, 31, .getfield 9), (31, 1, 32, .iload_n 2), (32, 1, 33, .iaload), (33, 1, 34, .iadd), (34, 1, 35, .iaload), (35, 3, 38, .ifCond .ne 7), (38, 1, 39, .iconst 1), (39, 3, 42, .goto 4), (42, 1, 43, .iconst 0), (43, 1, 44, .ireturn)]
set_option maxRecDepth 100000 in
theorem tk_X9_willHold (k : Nat) {pc n pc2 : Nat} {i : Instr} (hk : tb_X9_willHold[k]? = some (pc, n, pc2, i)) : on_dq cX9_willHold pc n pc2 i := on_ta (by decide +kernel) k hk
theorem ms_X9_willHold : on_Mv yX9_willHold cX9_willHold 4 (some .boolean) 2 := ⟨kw_4_25, kw_4_23, kw_4_24, kw_1_2, by decide, by decide, by decide +kernel⟩
def pf_X9_willHold_42 (σ : on_S) : Option on_O :=
  some (0, σ)
def pf_X9_willHold (b : Nat) (p0 : Int) (p1 : Int) (σ : on_S) : Option on_O :=
  on_Rd σ (b + 9) 9 p0 fun v1 =>
  on_Rd σ (b + 1) 9 p1 fun v2 =>
  on_Eq v1 v2 (
    pf_X9_willHold_42 σ) (
    on_Rd σ (b + 1) 9 p1 fun v3 =>
    on_Rd σ (b + 6) 16 ((v1 * 4) + v3) fun v4 =>
    on_Eq v4 0 (
      some (1, σ)) (
      pf_X9_willHold_42 σ))
set_option maxRecDepth 100000 in
set_option maxHeartbeats 4000000 in
theorem gb_X9_willHold_42 {E : on_E} {z n : Nat} (X : on_X) (hN : 100 ≤ n) (σ : on_S) : on_G X E cX9_willHold RX9 (some .boolean) 0 0 4 z n σ (pf_X9_willHold_42  σ) 42 [none, none, none, none] [] := by
  rw [pf_X9_willHold_42]
  refine on_iconst (tk_X9_willHold 26 rfl) ?_
  exact on_zret0 (tk_X9_willHold 27 rfl)
set_option maxRecDepth 100000 in
set_option maxHeartbeats 4000000 in
theorem ct_X9_willHold {E : on_E} {z n : Nat} {b : Nat} {p0 : Int} {p1 : Int} (hN : 100 ≤ n) (hb : on_Sb n b) {σ : on_S} : on_Sp E yX9_willHold cX9_willHold 4 (some .boolean) 0 0 z n [.ref (z + b), .int (on_i p0), .int (on_i p1)] σ (pf_X9_willHold b p0 p1 σ) := by
  refine on_met [some (.ref (z + b)), some (.int (on_i p0)), some (.int (on_i p1)), none] (by decide) rfl rfl (fun X => ?_)
  rw [pf_X9_willHold]
  refine on_al0 (tk_X9_willHold 0 rfl) ?_
  refine fg_9_12 hb kw_1_185 (tk_X9_willHold 1 rfl) ?_
  refine fg_3_1 hb kw_1_51 (tk_X9_willHold 2 rfl) ?_
  refine on_il1 (tk_X9_willHold 3 rfl) ?_
  refine on_iald (ltS_9 hb) (shS_9 hb) (tk_X9_willHold 4 rfl) fun v1 => ?_
  refine on_is3 rfl (tk_X9_willHold 5 rfl) ?_
  refine on_il3 (tk_X9_willHold 6 rfl) ?_
  refine on_al0 (tk_X9_willHold 7 rfl) ?_
  refine fg_9_4 hb kw_1_166 (tk_X9_willHold 8 rfl) ?_
  refine on_il2 (tk_X9_willHold 9 rfl) ?_
  refine on_iald (ltS_1 hb) (shS_1 hb) (tk_X9_willHold 10 rfl) fun v2 => ?_
  refine on_icmp_eq (tk_X9_willHold 11 rfl) (tgt := 42) (by decide) ?_ ?_
  · refine on_al0 (tk_X9_willHold 12 rfl) ?_
    refine fg_9_10 hb kw_1_181 (tk_X9_willHold 13 rfl) ?_
    refine on_il3 (tk_X9_willHold 14 rfl) ?_
    refine on_iconst (tk_X9_willHold 15 rfl) ?_
    refine on_imul (tk_X9_willHold 16 rfl) ?_
    refine on_al0 (tk_X9_willHold 17 rfl) ?_
    refine fg_9_4 hb kw_1_166 (tk_X9_willHold 18 rfl) ?_
    refine on_il2 (tk_X9_willHold 19 rfl) ?_
    refine on_iald (ltS_1 hb) (shS_1 hb) (tk_X9_willHold 20 rfl) fun v3 => ?_
    refine on_iadd (tk_X9_willHold 21 rfl) ?_
    refine on_iald (ltS_6 hb) (shS_6 hb) (tk_X9_willHold 22 rfl) fun v4 => ?_
    refine on_if_ne (tk_X9_willHold 23 rfl) (tgt := 42) (by decide) ?_ ?_
    · refine on_iconst (tk_X9_willHold 24 rfl) ?_
      refine on_goto (tk_X9_willHold 25 rfl) (tgt := 43) (by decide) ?_
      exact on_zret1 (tk_X9_willHold 27 rfl)
    · refine on_dr0 ?_
      refine on_dr1 ?_
      refine on_dr2 ?_
      refine on_dr3 ?_
      exact gb_X9_willHold_42 X  hN _
  · refine on_dr0 ?_
    refine on_dr1 ?_
    refine on_dr2 ?_
    refine on_dr3 ?_
    exact gb_X9_willHold_42 X  hN _
def tb_X9_quarrelBehind : List (Nat × Nat × Nat × Instr) := [(0, 1, 1, .aload_n 0), (1, 3, 4, .getfield 43), (4, 3, 7, .getfield 128), (7, 1, 8, .iload_n 1), (8, 1, 9, .iconst 4), (9, 1, 10, .imul), (10, 1, 11, .iload_n 2), (11, 1, 12, .iadd), (12, 1, 13, .iaload), (13, 1, 14, .istore_n 3), (14, 1, 15, .aload_n 0), (15, 3, 18, .getfield 43), (18, 3, 21, .getfield 128), (21, 1, 22, .iload_n 1), (22, 1, 23, .iconst 4), (23, 1, 24, .imul), (24, 1, 25, .iload_n 2), (25, 1, 26, .iconst 1), (26, 1, 27, .iadd), (27, 1, 28, .iconst 4), (28, 1, 29, .irem), (29, 1, 30, .iadd), (30, 1, 31, .iaload), (31, 2, 33, .istore 4), (33, 1, 34, .iload_n 3), (34, 1, 35, .iconst (-1)), (35, 3, 38, .if_icmp .eq 9), (38, 2, 40, .iload 4), (40, 1, 41, .iconst (-1)), (41, 3, 44, .if_icmp .ne 7), (44, 1, 45, .iconst 0), (45, 3, 48, .goto 18), (48, 1, 49, .aload_n 0), (49, 3, 52, .getfield 36), (52, 3, 55, .getfield 131), (55, 1, 56, .iload_n 3), (56, 2, 58, .bipush 9), (58, 1, 59, .imul), (59, 2, 61, .iload 4), (61, 1, 62, .iadd), (62, 1, 63, .iaload), (63, 1, 64, .ireturn)]
set_option maxRecDepth 100000 in
theorem tk_X9_quarrelBehind (k : Nat) {pc n pc2 : Nat} {i : Instr} (hk : tb_X9_quarrelBehind[k]? = some (pc, n, pc2, i)) : on_dq cX9_quarrelBehind pc n pc2 i := on_ta (by decide +kernel) k hk
theorem ms_X9_quarrelBehind : on_Mv yX9_quarrelBehind cX9_quarrelBehind 5 (some .int) 2 := ⟨kw_4_29, kw_4_27, kw_4_28, kw_1_2, by decide, by decide, by decide +kernel⟩
def pf_X9_quarrelBehind_44 (σ : on_S) : Option on_O :=
  some (0, σ)
def pf_X9_quarrelBehind (b : Nat) (p0 : Int) (p1 : Int) (σ : on_S) : Option on_O :=
  on_Rd σ (b + 19) 8 ((p0 * 4) + p1) fun v1 =>
  on_Rm (p1 + 1) 4 fun v2 =>
  on_Rd σ (b + 19) 8 ((p0 * 4) + v2) fun v3 =>
  on_Eq v1 (-1) (
    pf_X9_quarrelBehind_44 σ) (
    on_Eq v3 (-1) (
      pf_X9_quarrelBehind_44 σ) (
      on_Rd σ (b + 13) 81 ((v1 * 9) + v3) fun v4 =>
      some (v4, σ)))
set_option maxRecDepth 100000 in
set_option maxHeartbeats 4000000 in
theorem gb_X9_quarrelBehind_44 {E : on_E} {z n : Nat} (X : on_X) (hN : 100 ≤ n) (σ : on_S) : on_G X E cX9_quarrelBehind RX9 (some .int) 0 0 5 z n σ (pf_X9_quarrelBehind_44  σ) 44 [none, none, none, none, none] [] := by
  rw [pf_X9_quarrelBehind_44]
  refine on_iconst (tk_X9_quarrelBehind 30 rfl) ?_
  refine on_goto (tk_X9_quarrelBehind 31 rfl) (tgt := 63) (by decide) ?_
  exact on_iret (tk_X9_quarrelBehind 41 rfl)
set_option maxRecDepth 100000 in
set_option maxHeartbeats 4000000 in
theorem ct_X9_quarrelBehind {E : on_E} {z n : Nat} {b : Nat} {p0 : Int} {p1 : Int} (hN : 100 ≤ n) (hb : on_Sb n b) {σ : on_S} : on_Sp E yX9_quarrelBehind cX9_quarrelBehind 5 (some .int) 0 0 z n [.ref (z + b), .int (on_i p0), .int (on_i p1)] σ (pf_X9_quarrelBehind b p0 p1 σ) := by
  refine on_met [some (.ref (z + b)), some (.int (on_i p0)), some (.int (on_i p1)), none, none] (by decide) rfl rfl (fun X => ?_)
  rw [pf_X9_quarrelBehind]
  refine on_al0 (tk_X9_quarrelBehind 0 rfl) ?_
  refine fg_9_13 hb kw_1_190 (tk_X9_quarrelBehind 1 rfl) ?_
  refine fg_4_5 hb kw_1_114 (tk_X9_quarrelBehind 2 rfl) ?_
  refine on_il1 (tk_X9_quarrelBehind 3 rfl) ?_
  refine on_iconst (tk_X9_quarrelBehind 4 rfl) ?_
  refine on_imul (tk_X9_quarrelBehind 5 rfl) ?_
  refine on_il2 (tk_X9_quarrelBehind 6 rfl) ?_
  refine on_iadd (tk_X9_quarrelBehind 7 rfl) ?_
  refine on_iald (ltS_19 hb) (shS_19 hb) (tk_X9_quarrelBehind 8 rfl) fun v1 => ?_
  refine on_is3 rfl (tk_X9_quarrelBehind 9 rfl) ?_
  refine on_al0 (tk_X9_quarrelBehind 10 rfl) ?_
  refine fg_9_13 hb kw_1_190 (tk_X9_quarrelBehind 11 rfl) ?_
  refine fg_4_5 hb kw_1_114 (tk_X9_quarrelBehind 12 rfl) ?_
  refine on_il1 (tk_X9_quarrelBehind 13 rfl) ?_
  refine on_iconst (tk_X9_quarrelBehind 14 rfl) ?_
  refine on_imul (tk_X9_quarrelBehind 15 rfl) ?_
  refine on_il2 (tk_X9_quarrelBehind 16 rfl) ?_
  refine on_iconst (tk_X9_quarrelBehind 17 rfl) ?_
  refine on_iadd (tk_X9_quarrelBehind 18 rfl) ?_
  refine on_iconst (tk_X9_quarrelBehind 19 rfl) ?_
  refine on_irem (tk_X9_quarrelBehind 20 rfl) fun v2 => ?_
  refine on_iadd (tk_X9_quarrelBehind 21 rfl) ?_
  refine on_iald (ltS_19 hb) (shS_19 hb) (tk_X9_quarrelBehind 22 rfl) fun v3 => ?_
  refine on_is4 rfl (tk_X9_quarrelBehind 23 rfl) ?_
  refine on_il3 (tk_X9_quarrelBehind 24 rfl) ?_
  refine on_iconst (tk_X9_quarrelBehind 25 rfl) ?_
  refine on_icmp_eq (tk_X9_quarrelBehind 26 rfl) (tgt := 44) (by decide) ?_ ?_
  · refine on_il4 (tk_X9_quarrelBehind 27 rfl) ?_
    refine on_iconst (tk_X9_quarrelBehind 28 rfl) ?_
    refine on_icmp_ne (tk_X9_quarrelBehind 29 rfl) (tgt := 48) (by decide) ?_ ?_
    · refine on_dr0 ?_
      refine on_dr1 ?_
      refine on_dr2 ?_
      refine on_dr3 ?_
      refine on_dr4 ?_
      exact gb_X9_quarrelBehind_44 X  hN _
    · refine on_al0 (tk_X9_quarrelBehind 32 rfl) ?_
      refine fg_9_12 hb kw_1_185 (tk_X9_quarrelBehind 33 rfl) ?_
      refine fg_3_5 hb kw_1_64 (tk_X9_quarrelBehind 34 rfl) ?_
      refine on_il3 (tk_X9_quarrelBehind 35 rfl) ?_
      refine on_bipush (tk_X9_quarrelBehind 36 rfl) bp_9 ?_
      refine on_imul (tk_X9_quarrelBehind 37 rfl) ?_
      refine on_il4 (tk_X9_quarrelBehind 38 rfl) ?_
      refine on_iadd (tk_X9_quarrelBehind 39 rfl) ?_
      refine on_iald (ltS_13 hb) (shS_13 hb) (tk_X9_quarrelBehind 40 rfl) fun v4 => ?_
      exact on_iret (tk_X9_quarrelBehind 41 rfl)
  · refine on_dr0 ?_
    refine on_dr1 ?_
    refine on_dr2 ?_
    refine on_dr3 ?_
    refine on_dr4 ?_
    exact gb_X9_quarrelBehind_44 X  hN _
def tb_X9_leftAt : List (Nat × Nat × Nat × Instr) := [(0, 1, 1, .aload_n 0), (1, 3, 4, .getfield 43), (4, 3, 7, .getfield 128), (7, 1, 8, .iload_n 1), (8, 1, 9, .iconst 4), (9, 1, 10, .imul), (10, 1, 11, .iload_n 2), (11, 1, 12, .iadd), (12, 1, 13, .iaload), (13, 2, 15, .istore 4), (15, 2, 17, .iload 4), (17, 1, 18, .iconst (-1)), (18, 3, 21, .if_icmp .eq 21), (21, 1, 22, .aload_n 0), (22, 2, 24, .iload 4), (24, 1, 25, .aload_n 0), (25, 3, 28, .getfield 43), (28, 3, 31, .getfield 114), (31, 1, 32, .iload_n 1), (32, 1, 33, .iaload), (33, 3, 36, .invokevirtual 134), (36, 3, 39, .ifCond .ne 5), (39, 1, 40, .iconst 0), (40, 1, 41, .ireturn), (41, 1, 42, .iload_n 2), (42, 1, 43, .iconst 4), (43, 1, 44, .iadd), (44, 1, 45, .iconst 1), (45, 1, 46, .isub), (46, 1, 47, .iconst 4), (47, 1, 48, .irem), (48, 2, 50, .istore 5), (50, 1, 51, .iconst 0), (51, 2, 53, .istore 6), (53, 1, 54, .iload_n 3), (54, 1, 55, .iload_n 2), (55, 1, 56, .ishr), (56, 1, 57, .iconst 1), (57, 1, 58, .iand), (58, 3, 61, .ifCond .ne 14), (61, 2, 63, .iload 6), (63, 1, 64, .aload_n 0), (64, 1, 65, .iload_n 1), (65, 1, 66, .iload_n 2), (66, 3, 69, .invokevirtual 138), (69, 1, 70, .iadd), (70, 2, 72, .istore 6), (72, 1, 73, .iload_n 3), (73, 2, 75, .iload 5), (75, 1, 76, .ishr), (76, 1, 77, .iconst 1), (77, 1, 78, .iand), (78, 3, 81, .ifCond .ne 15), (81, 2, 83, .iload 6), (83, 1, 84, .aload_n 0), (84, 1, 85, .iload_n 1), (85, 2, 87, .iload 5), (87, 3, 90, .invokevirtual 138), (90, 1, 91, .iadd), (91, 2, 93, .istore 6), (93, 1, 94, .iconst 0), (94, 1, 95, .aload_n 0), (95, 3, 98, .getfield 36), (98, 3, 101, .getfield 141), (101, 2, 103, .iload 4), (103, 1, 104, .iaload), (104, 1, 105, .iconst 3), (105, 2, 107, .iload 6), (107, 1, 108, .imul), (108, 1, 109, .isub), (109, 3, 112, .invokestatic 121), (112, 1, 113, .ireturn)]
set_option maxRecDepth 100000 in
theorem tk_X9_leftAt (k : Nat) {pc n pc2 : Nat} {i : Instr} (hk : tb_X9_leftAt[k]? = some (pc, n, pc2, i)) : on_dq cX9_leftAt pc n pc2 i := on_ta (by decide +kernel) k hk
theorem ms_X9_leftAt : on_Mv yX9_leftAt cX9_leftAt 7 (some .int) 3 := ⟨kw_4_21, kw_4_19, kw_4_20, kw_1_2, by decide, by decide, by decide +kernel⟩
def pf_X9_leftAt_93 (b : Nat) (l4 : Int) (l6 : Int) (σ : on_S) : Option on_O :=
  on_Rd σ (b + 10) 9 l4 fun v10 =>
  on_Mx 0 (v10 - (3 * l6)) fun v11 =>
  some (v11, σ)
def pf_X9_leftAt_72 (b : Nat) (l1 : Int) (l3 : Int) (l4 : Int) (l5 : Int) (l6 : Int) (σ : on_S) : Option on_O :=
  on_Eq (on_and (on_shr l3 l5) 1) 0 (
    on_Cl (pf_X9_quarrelBehind b l1 l5 σ) fun v8 σ9 =>
    pf_X9_leftAt_93 b l4 (l6 + v8) σ9) (
    pf_X9_leftAt_93 b l4 l6 σ)
def pf_X9_leftAt (b : Nat) (p0 : Int) (p1 : Int) (p2 : Int) (σ : on_S) : Option on_O :=
  on_Rd σ (b + 19) 8 ((p0 * 4) + p1) fun v1 =>
  on_Eq v1 (-1) (
    some (0, σ)) (
    on_Rd σ (b + 15) 2 p0 fun v2 =>
    on_Cl (pf_X9_willHold b v1 v2 σ) fun v3 σ4 =>
    on_Eq v3 0 (
      some (0, σ4)) (
      on_Rm ((p1 + 4) - 1) 4 fun v5 =>
      on_Eq (on_and (on_shr p2 p1) 1) 0 (
        on_Cl (pf_X9_quarrelBehind b p0 p1 σ4) fun v6 σ7 =>
        pf_X9_leftAt_72 b p0 p2 v1 v5 (0 + v6) σ7) (
        pf_X9_leftAt_72 b p0 p2 v1 v5 0 σ4)))
set_option maxRecDepth 100000 in
set_option maxHeartbeats 4000000 in
theorem gb_X9_leftAt_93 {E : on_E} {z n : Nat} (X : on_X) (b : Nat) (hN : 100 ≤ n) (hb : on_Sb n b) (l4 : Int) (l6 : Int) (σ : on_S) : on_G X E cX9_leftAt RX9 (some .int) 1 24 7 z n σ (pf_X9_leftAt_93 b l4 l6 σ) 93 [some (.ref (z + b)), none, none, none, some (.int (on_i l4)), none, some (.int (on_i l6))] [] := by
  rw [pf_X9_leftAt_93]
  refine on_iconst (tk_X9_leftAt 60 rfl) ?_
  refine on_al0 (tk_X9_leftAt 61 rfl) ?_
  refine fg_9_12 hb kw_1_185 (tk_X9_leftAt 62 rfl) ?_
  refine fg_3_2 hb kw_1_55 (tk_X9_leftAt 63 rfl) ?_
  refine on_il4 (tk_X9_leftAt 64 rfl) ?_
  refine on_iald (ltS_10 hb) (shS_10 hb) (tk_X9_leftAt 65 rfl) fun v10 => ?_
  refine on_iconst (tk_X9_leftAt 66 rfl) ?_
  refine on_il6 (tk_X9_leftAt 67 rfl) ?_
  refine on_imul (tk_X9_leftAt 68 rfl) ?_
  refine on_isub (tk_X9_leftAt 69 rfl) ?_
  refine on_max kw_4_3 kwM_max_s kwM_i kwM_max_c rfl (tk_X9_leftAt 70 rfl) fun v11 => ?_
  exact on_iret (tk_X9_leftAt 71 rfl)
set_option maxRecDepth 100000 in
set_option maxHeartbeats 4000000 in
theorem gb_X9_leftAt_72 {E : on_E} {z n : Nat} (X : on_X) (b : Nat) (hN : 100 ≤ n) (hb : on_Sb n b) (l1 : Int) (l3 : Int) (l4 : Int) (l5 : Int) (l6 : Int) (σ : on_S) : on_G X E cX9_leftAt RX9 (some .int) 1 24 7 z n σ (pf_X9_leftAt_72 b l1 l3 l4 l5 l6 σ) 72 [some (.ref (z + b)), some (.int (on_i l1)), none, some (.int (on_i l3)), some (.int (on_i l4)), some (.int (on_i l5)), some (.int (on_i l6))] [] := by
  rw [pf_X9_leftAt_72]
  refine on_il3 (tk_X9_leftAt 47 rfl) ?_
  refine on_il5 (tk_X9_leftAt 48 rfl) ?_
  refine on_ishr (tk_X9_leftAt 49 rfl) ?_
  refine on_iconst (tk_X9_leftAt 50 rfl) ?_
  refine on_iand (tk_X9_leftAt 51 rfl) ?_
  refine on_if_ne (tk_X9_leftAt 52 rfl) (tgt := 93) (by decide) ?_ ?_
  · refine on_il6 (tk_X9_leftAt 53 rfl) ?_
    refine on_al0 (tk_X9_leftAt 54 rfl) ?_
    refine on_il1 (tk_X9_leftAt 55 rfl) ?_
    refine on_il5 (tk_X9_leftAt 56 rfl) ?_
    refine on_cV2i 9 ms_X9_quarrelBehind kw_4_26 rfl rfl (ltS_0 hb) (shS_0 hb) (ct_X9_quarrelBehind hN hb) rfl (tk_X9_leftAt 57 rfl) fun v8 σ9 => ?_
    refine on_iadd (tk_X9_leftAt 58 rfl) ?_
    refine on_is6 rfl (tk_X9_leftAt 59 rfl) ?_
    refine on_dr1 ?_
    refine on_dr3 ?_
    refine on_dr5 ?_
    exact gb_X9_leftAt_93 X _ hN hb _ _ _
  · refine on_dr1 ?_
    refine on_dr3 ?_
    refine on_dr5 ?_
    exact gb_X9_leftAt_93 X _ hN hb _ _ _
set_option maxRecDepth 100000 in
set_option maxHeartbeats 4000000 in
theorem ct_X9_leftAt {E : on_E} {z n : Nat} {b : Nat} {p0 : Int} {p1 : Int} {p2 : Int} (hN : 100 ≤ n) (hb : on_Sb n b) {σ : on_S} : on_Sp E yX9_leftAt cX9_leftAt 7 (some .int) 1 24 z n [.ref (z + b), .int (on_i p0), .int (on_i p1), .int (on_i p2)] σ (pf_X9_leftAt b p0 p1 p2 σ) := by
  refine on_met [some (.ref (z + b)), some (.int (on_i p0)), some (.int (on_i p1)), some (.int (on_i p2)), none, none, none] (by decide) rfl rfl (fun X => ?_)
  rw [pf_X9_leftAt]
  refine on_al0 (tk_X9_leftAt 0 rfl) ?_
  refine fg_9_13 hb kw_1_190 (tk_X9_leftAt 1 rfl) ?_
  refine fg_4_5 hb kw_1_114 (tk_X9_leftAt 2 rfl) ?_
  refine on_il1 (tk_X9_leftAt 3 rfl) ?_
  refine on_iconst (tk_X9_leftAt 4 rfl) ?_
  refine on_imul (tk_X9_leftAt 5 rfl) ?_
  refine on_il2 (tk_X9_leftAt 6 rfl) ?_
  refine on_iadd (tk_X9_leftAt 7 rfl) ?_
  refine on_iald (ltS_19 hb) (shS_19 hb) (tk_X9_leftAt 8 rfl) fun v1 => ?_
  refine on_is4 rfl (tk_X9_leftAt 9 rfl) ?_
  refine on_il4 (tk_X9_leftAt 10 rfl) ?_
  refine on_iconst (tk_X9_leftAt 11 rfl) ?_
  refine on_icmp_eq (tk_X9_leftAt 12 rfl) (tgt := 39) (by decide) ?_ ?_
  · refine on_al0 (tk_X9_leftAt 13 rfl) ?_
    refine on_il4 (tk_X9_leftAt 14 rfl) ?_
    refine on_al0 (tk_X9_leftAt 15 rfl) ?_
    refine fg_9_13 hb kw_1_190 (tk_X9_leftAt 16 rfl) ?_
    refine fg_4_1 hb kw_1_94 (tk_X9_leftAt 17 rfl) ?_
    refine on_il1 (tk_X9_leftAt 18 rfl) ?_
    refine on_iald (ltS_15 hb) (shS_15 hb) (tk_X9_leftAt 19 rfl) fun v2 => ?_
    refine on_cV2z 9 ms_X9_willHold kw_4_22 rfl rfl (ltS_0 hb) (shS_0 hb) (ct_X9_willHold hN hb) rfl (tk_X9_leftAt 20 rfl) fun v3 σ4 => ?_
    refine on_if_ne (tk_X9_leftAt 21 rfl) (tgt := 41) (by decide) ?_ ?_
    · refine on_iconst (tk_X9_leftAt 22 rfl) ?_
      exact on_iret (tk_X9_leftAt 23 rfl)
    · refine on_il2 (tk_X9_leftAt 24 rfl) ?_
      refine on_iconst (tk_X9_leftAt 25 rfl) ?_
      refine on_iadd (tk_X9_leftAt 26 rfl) ?_
      refine on_iconst (tk_X9_leftAt 27 rfl) ?_
      refine on_isub (tk_X9_leftAt 28 rfl) ?_
      refine on_iconst (tk_X9_leftAt 29 rfl) ?_
      refine on_irem (tk_X9_leftAt 30 rfl) fun v5 => ?_
      refine on_is5 rfl (tk_X9_leftAt 31 rfl) ?_
      refine on_iconst (tk_X9_leftAt 32 rfl) ?_
      refine on_is6 rfl (tk_X9_leftAt 33 rfl) ?_
      refine on_il3 (tk_X9_leftAt 34 rfl) ?_
      refine on_il2 (tk_X9_leftAt 35 rfl) ?_
      refine on_ishr (tk_X9_leftAt 36 rfl) ?_
      refine on_iconst (tk_X9_leftAt 37 rfl) ?_
      refine on_iand (tk_X9_leftAt 38 rfl) ?_
      refine on_if_ne (tk_X9_leftAt 39 rfl) (tgt := 72) (by decide) ?_ ?_
      · refine on_il6 (tk_X9_leftAt 40 rfl) ?_
        refine on_al0 (tk_X9_leftAt 41 rfl) ?_
        refine on_il1 (tk_X9_leftAt 42 rfl) ?_
        refine on_il2 (tk_X9_leftAt 43 rfl) ?_
        refine on_cV2i 9 ms_X9_quarrelBehind kw_4_26 rfl rfl (ltS_0 hb) (shS_0 hb) (ct_X9_quarrelBehind hN hb) rfl (tk_X9_leftAt 44 rfl) fun v6 σ7 => ?_
        refine on_iadd (tk_X9_leftAt 45 rfl) ?_
        refine on_is6 rfl (tk_X9_leftAt 46 rfl) ?_
        refine on_dr2 ?_
        exact gb_X9_leftAt_72 X _ hN hb _ _ _ _ _ _
      · refine on_dr2 ?_
        exact gb_X9_leftAt_72 X _ hN hb _ _ _ _ _ _
  · refine on_iconst (tk_X9_leftAt 22 rfl) ?_
    exact on_iret (tk_X9_leftAt 23 rfl)
def tb_X9_measureLeft : List (Nat × Nat × Nat × Instr) := [(0, 1, 1, .iconst 0), (1, 1, 2, .istore_n 1), (2, 1, 3, .iload_n 1), (3, 1, 4, .aload_n 0), (4, 3, 7, .getfield 43), (7, 3, 10, .getfield 110), (10, 1, 11, .iconst 4), (11, 1, 12, .imul), (12, 3, 15, .if_icmp .ge 26), (15, 1, 16, .aload_n 0), (16, 3, 19, .getfield 54), (19, 1, 20, .iload_n 1), (20, 1, 21, .aload_n 0), (21, 1, 22, .iload_n 1), (22, 1, 23, .iconst 4), (23, 1, 24, .idiv), (24, 1, 25, .iload_n 1), (25, 1, 26, .iconst 4), (26, 1, 27, .irem), (27, 1, 28, .iconst 0), (28, 3, 31, .invokevirtual 144), (31, 1, 32, .iastore), (32, 3, 35, .iinc 1 1), (35, 3, 38, .goto (-33)), (38, 1, 39, .return_)]
set_option maxRecDepth 100000 in
theorem tk_X9_measureLeft (k : Nat) {pc n pc2 : Nat} {i : Instr} (hk : tb_X9_measureLeft[k]? = some (pc, n, pc2, i)) : on_dq cX9_measureLeft pc n pc2 i := on_ta (by decide +kernel) k hk
theorem ms_X9_measureLeft : on_Mv yX9_measureLeft cX9_measureLeft 2 none 0 := ⟨kw_4_129, kw_4_127, kw_4_128, kw_1_2, by decide, by decide, by decide +kernel⟩
def pf_X9_measureLeft_2 (b : Nat) : Nat → Int → on_S → Option on_O
  | 0, _, _ => none
  | nf + 1, l1, σ =>
    on_Gt σ (b + 14) 0 fun v1 =>
    on_Lt l1 (v1 * 4) (
      on_Dv l1 4 fun v2 =>
      on_Rm l1 4 fun v3 =>
      on_Cl (pf_X9_leftAt b v2 v3 0 σ) fun v4 σ5 =>
      on_Wr σ5 (b + 24) 8 l1 v4 fun σ6 =>
      pf_X9_measureLeft_2 b nf (l1 + 1) σ6) (
      some (0, σ))
def pf_X9_measureLeft (b : Nat) (σ : on_S) : Option on_O :=
  pf_X9_measureLeft_2 b on_N 0 σ
set_option maxRecDepth 100000 in
set_option maxHeartbeats 4000000 in
theorem gl_X9_measureLeft_2 {E : on_E} {z n : Nat} (X : on_X) (b : Nat) (hN : 100 ≤ n) (hb : on_Sb n b) : ∀ (nf : Nat) (l1 : Int) (σ : on_S), on_G X E cX9_measureLeft RX9 none 2 50 2 z n σ (pf_X9_measureLeft_2 b nf l1 σ) 2 [some (.ref (z + b)), some (.int (on_i l1))] [] := by
  intro nf
  induction nf with
  | zero => intro l1 σ; exact on_none
  | succ nf ih =>
    intro l1 σ
    rw [pf_X9_measureLeft_2]
    refine on_il1 (tk_X9_measureLeft 2 rfl) ?_
    refine on_al0 (tk_X9_measureLeft 3 rfl) ?_
    refine fg_9_13 hb kw_1_190 (tk_X9_measureLeft 4 rfl) ?_
    refine fg_4_0 hb kw_1_88 (tk_X9_measureLeft 5 rfl) fun v1 => ?_
    refine on_iconst (tk_X9_measureLeft 6 rfl) ?_
    refine on_imul (tk_X9_measureLeft 7 rfl) ?_
    refine on_icmp_ge (tk_X9_measureLeft 8 rfl) (tgt := 38) (by decide) ?_ ?_
    · refine on_al0 (tk_X9_measureLeft 9 rfl) ?_
      refine fg_9_15 hb kw_1_199 (tk_X9_measureLeft 10 rfl) ?_
      refine on_il1 (tk_X9_measureLeft 11 rfl) ?_
      refine on_al0 (tk_X9_measureLeft 12 rfl) ?_
      refine on_il1 (tk_X9_measureLeft 13 rfl) ?_
      refine on_iconst (tk_X9_measureLeft 14 rfl) ?_
      refine on_idiv (tk_X9_measureLeft 15 rfl) fun v2 => ?_
      refine on_il1 (tk_X9_measureLeft 16 rfl) ?_
      refine on_iconst (tk_X9_measureLeft 17 rfl) ?_
      refine on_irem (tk_X9_measureLeft 18 rfl) fun v3 => ?_
      refine on_iconst (tk_X9_measureLeft 19 rfl) ?_
      refine on_cV3i 9 ms_X9_leftAt kw_4_18 rfl rfl (ltS_0 hb) (shS_0 hb) (ct_X9_leftAt hN hb) rfl (tk_X9_measureLeft 20 rfl) fun v4 σ5 => ?_
      refine on_iast (ltS_24 hb) (shS_24 hb) (tk_X9_measureLeft 21 rfl) fun σ6 => ?_
      refine on_inc1 rfl (tk_X9_measureLeft 22 rfl) ?_
      refine on_goto (tk_X9_measureLeft 23 rfl) (tgt := 2) (by decide) ?_
      exact ih _ _
    · exact on_vret (tk_X9_measureLeft 24 rfl)
set_option maxRecDepth 100000 in
set_option maxHeartbeats 4000000 in
theorem ct_X9_measureLeft {E : on_E} {z n : Nat} {b : Nat} (hN : 100 ≤ n) (hb : on_Sb n b) {σ : on_S} : on_Sp E yX9_measureLeft cX9_measureLeft 2 none 2 50 z n [.ref (z + b)] σ (pf_X9_measureLeft b σ) := by
  refine on_met [some (.ref (z + b)), none] (by decide) rfl rfl (fun X => ?_)
  rw [pf_X9_measureLeft]
  refine on_iconst (tk_X9_measureLeft 0 rfl) ?_
  refine on_is1 rfl (tk_X9_measureLeft 1 rfl) ?_
  exact gl_X9_measureLeft_2 X _ hN hb on_N _ _
def tb_X9_netBelow : List (Nat × Nat × Nat × Instr) := [(0, 1, 1, .aload_n 0), (1, 3, 4, .getfield 18), (4, 1, 5, .aload_n 0), (5, 3, 8, .getfield 24), (8, 1, 9, .iload_n 1), (9, 1, 10, .iaload), (10, 1, 11, .iaload), (11, 1, 12, .ireturn)]
set_option maxRecDepth 100000 in
theorem tk_X9_netBelow (k : Nat) {pc n pc2 : Nat} {i : Instr} (hk : tb_X9_netBelow[k]? = some (pc, n, pc2, i)) : on_dq cX9_netBelow pc n pc2 i := on_ta (by decide +kernel) k hk
theorem ms_X9_netBelow : on_Mv yX9_netBelow cX9_netBelow 2 (some .int) 1 := ⟨kw_4_103, kw_4_101, kw_4_102, kw_1_2, by decide, by decide, by decide +kernel⟩
def pf_X9_netBelow (b : Nat) (p0 : Int) (σ : on_S) : Option on_O :=
  on_Rd σ (b + 5) 9 p0 fun v1 =>
  on_Rd σ (b + 3) 9 v1 fun v2 =>
  some (v2, σ)
set_option maxRecDepth 100000 in
set_option maxHeartbeats 4000000 in
theorem ct_X9_netBelow {E : on_E} {z n : Nat} {b : Nat} {p0 : Int} (hN : 100 ≤ n) (hb : on_Sb n b) {σ : on_S} : on_Sp E yX9_netBelow cX9_netBelow 2 (some .int) 0 0 z n [.ref (z + b), .int (on_i p0)] σ (pf_X9_netBelow b p0 σ) := by
  refine on_met [some (.ref (z + b)), some (.int (on_i p0))] (by decide) rfl rfl (fun X => ?_)
  rw [pf_X9_netBelow]
  refine on_al0 (tk_X9_netBelow 0 rfl) ?_
  refine fg_9_6 hb kw_1_170 (tk_X9_netBelow 1 rfl) ?_
  refine on_al0 (tk_X9_netBelow 2 rfl) ?_
  refine fg_9_9 hb kw_1_179 (tk_X9_netBelow 3 rfl) ?_
  refine on_il1 (tk_X9_netBelow 4 rfl) ?_
  refine on_iald (ltS_5 hb) (shS_5 hb) (tk_X9_netBelow 5 rfl) fun v1 => ?_
  refine on_iald (ltS_3 hb) (shS_3 hb) (tk_X9_netBelow 6 rfl) fun v2 => ?_
  exact on_iret (tk_X9_netBelow 7 rfl)
def tb_X9_holdAsMeasured : List (Nat × Nat × Nat × Instr) := [(0, 1, 1, .aload_n 0), (1, 3, 4, .getfield 54), (4, 1, 5, .iload_n 1), (5, 1, 6, .iconst 4), (6, 1, 7, .imul), (7, 1, 8, .iload_n 2), (8, 1, 9, .iadd), (9, 1, 10, .iaload), (10, 1, 11, .aload_n 0), (11, 3, 14, .getfield 43), (14, 1, 15, .iload_n 1), (15, 1, 16, .iload_n 2), (16, 1, 17, .aload_n 0), (17, 3, 20, .getfield 43), (20, 3, 23, .getfield 154), (23, 1, 24, .iload_n 1), (24, 1, 25, .iaload), (25, 3, 28, .invokevirtual 148), (28, 3, 31, .invokestatic 151), (31, 1, 32, .ireturn)]
set_option maxRecDepth 100000 in
theorem tk_X9_holdAsMeasured (k : Nat) {pc n pc2 : Nat} {i : Instr} (hk : tb_X9_holdAsMeasured[k]? = some (pc, n, pc2, i)) : on_dq cX9_holdAsMeasured pc n pc2 i := on_ta (by decide +kernel) k hk
theorem ms_X9_holdAsMeasured : on_Mv yX9_holdAsMeasured cX9_holdAsMeasured 3 (some .int) 2 := ⟨kw_4_137, kw_4_135, kw_4_136, kw_1_2, by decide, by decide, by decide +kernel⟩
def pf_X9_holdAsMeasured (b : Nat) (p0 : Int) (p1 : Int) (σ : on_S) : Option on_O :=
  on_Rd σ (b + 24) 8 ((p0 * 4) + p1) fun v1 =>
  on_Rd σ (b + 17) 2 p0 fun v2 =>
  on_Cl (pf_X4_knotIf b p0 p1 v2 σ) fun v3 σ4 =>
  on_Mn v1 v3 fun v5 =>
  some (v5, σ4)
set_option maxRecDepth 100000 in
set_option maxHeartbeats 4000000 in
theorem ct_X9_holdAsMeasured {E : on_E} {z n : Nat} {b : Nat} {p0 : Int} {p1 : Int} (hN : 100 ≤ n) (hb : on_Sb n b) {σ : on_S} : on_Sp E yX9_holdAsMeasured cX9_holdAsMeasured 3 (some .int) 1 24 z n [.ref (z + b), .int (on_i p0), .int (on_i p1)] σ (pf_X9_holdAsMeasured b p0 p1 σ) := by
  refine on_met [some (.ref (z + b)), some (.int (on_i p0)), some (.int (on_i p1))] (by decide) rfl rfl (fun X => ?_)
  rw [pf_X9_holdAsMeasured]
  refine on_al0 (tk_X9_holdAsMeasured 0 rfl) ?_
  refine fg_9_15 hb kw_1_199 (tk_X9_holdAsMeasured 1 rfl) ?_
  refine on_il1 (tk_X9_holdAsMeasured 2 rfl) ?_
  refine on_iconst (tk_X9_holdAsMeasured 3 rfl) ?_
  refine on_imul (tk_X9_holdAsMeasured 4 rfl) ?_
  refine on_il2 (tk_X9_holdAsMeasured 5 rfl) ?_
  refine on_iadd (tk_X9_holdAsMeasured 6 rfl) ?_
  refine on_iald (ltS_24 hb) (shS_24 hb) (tk_X9_holdAsMeasured 7 rfl) fun v1 => ?_
  refine on_al0 (tk_X9_holdAsMeasured 8 rfl) ?_
  refine fg_9_13 hb kw_1_190 (tk_X9_holdAsMeasured 9 rfl) ?_
  refine on_il1 (tk_X9_holdAsMeasured 10 rfl) ?_
  refine on_il2 (tk_X9_holdAsMeasured 11 rfl) ?_
  refine on_al0 (tk_X9_holdAsMeasured 12 rfl) ?_
  refine fg_9_13 hb kw_1_190 (tk_X9_holdAsMeasured 13 rfl) ?_
  refine fg_4_3 hb kw_1_105 (tk_X9_holdAsMeasured 14 rfl) ?_
  refine on_il1 (tk_X9_holdAsMeasured 15 rfl) ?_
  refine on_iald (ltS_17 hb) (shS_17 hb) (tk_X9_holdAsMeasured 16 rfl) fun v2 => ?_
  refine on_cV3i 4 ms_X4_knotIf kw_4_30 rfl rfl (ltS_14 hb) (shS_14 hb) (ct_X4_knotIf hN hb) rfl (tk_X9_holdAsMeasured 17 rfl) fun v3 σ4 => ?_
  refine on_min kw_4_34 kwM_min_s kwM_i kwM_min_c rfl (tk_X9_holdAsMeasured 18 rfl) fun v5 => ?_
  exact on_iret (tk_X9_holdAsMeasured 19 rfl)
def tb_X9_storeyOf : List (Nat × Nat × Nat × Instr) := [(0, 1, 1, .aload_n 0), (1, 3, 4, .getfield 15), (4, 1, 5, .aload_n 0), (5, 3, 8, .getfield 43), (8, 3, 11, .getfield 114), (11, 1, 12, .iload_n 1), (12, 1, 13, .iaload), (13, 1, 14, .iaload), (14, 1, 15, .ireturn)]
set_option maxRecDepth 100000 in
theorem tk_X9_storeyOf (k : Nat) {pc n pc2 : Nat} {i : Instr} (hk : tb_X9_storeyOf[k]? = some (pc, n, pc2, i)) : on_dq cX9_storeyOf pc n pc2 i := on_ta (by decide +kernel) k hk
theorem ms_X9_storeyOf : on_Mv yX9_storeyOf cX9_storeyOf 2 (some .int) 1 := ⟨kw_4_111, kw_4_109, kw_4_110, kw_1_2, by decide, by decide, by decide +kernel⟩
def pf_X9_storeyOf (b : Nat) (p0 : Int) (σ : on_S) : Option on_O :=
  on_Rd σ (b + 15) 2 p0 fun v1 =>
  on_Rd σ (b + 2) 9 v1 fun v2 =>
  some (v2, σ)
set_option maxRecDepth 100000 in
set_option maxHeartbeats 4000000 in
theorem ct_X9_storeyOf {E : on_E} {z n : Nat} {b : Nat} {p0 : Int} (hN : 100 ≤ n) (hb : on_Sb n b) {σ : on_S} : on_Sp E yX9_storeyOf cX9_storeyOf 2 (some .int) 0 0 z n [.ref (z + b), .int (on_i p0)] σ (pf_X9_storeyOf b p0 σ) := by
  refine on_met [some (.ref (z + b)), some (.int (on_i p0))] (by decide) rfl rfl (fun X => ?_)
  rw [pf_X9_storeyOf]
  refine on_al0 (tk_X9_storeyOf 0 rfl) ?_
  refine fg_9_5 hb kw_1_168 (tk_X9_storeyOf 1 rfl) ?_
  refine on_al0 (tk_X9_storeyOf 2 rfl) ?_
  refine fg_9_13 hb kw_1_190 (tk_X9_storeyOf 3 rfl) ?_
  refine fg_4_1 hb kw_1_94 (tk_X9_storeyOf 4 rfl) ?_
  refine on_il1 (tk_X9_storeyOf 5 rfl) ?_
  refine on_iald (ltS_15 hb) (shS_15 hb) (tk_X9_storeyOf 6 rfl) fun v1 => ?_
  refine on_iald (ltS_2 hb) (shS_2 hb) (tk_X9_storeyOf 7 rfl) fun v2 => ?_
  exact on_iret (tk_X9_storeyOf 8 rfl)
def tb_X9_fallInto : List (Nat × Nat × Nat × Instr) := [(0, 1, 1, .iconst 0), (1, 1, 2, .istore_n 3), (2, 1, 3, .aload_n 0), (3, 1, 4, .iload_n 1), (4, 1, 5, .iconst 0), (5, 3, 8, .invokevirtual 167), (8, 2, 10, .istore 4), (10, 1, 11, .iconst 1), (11, 2, 13, .istore 5), (13, 2, 15, .iload 5), (15, 1, 16, .iconst 4), (16, 3, 19, .if_icmp .ge 32), (19, 1, 20, .aload_n 0), (20, 1, 21, .iload_n 1), (21, 2, 23, .iload 5), (23, 3, 26, .invokevirtual 167), (26, 2, 28, .istore 6), (28, 2, 30, .iload 6), (30, 2, 32, .iload 4), (32, 3, 35, .if_icmp .ge 10), (35, 2, 37, .iload 6), (37, 2, 39, .istore 4), (39, 2, 41, .iload 5), (41, 1, 42, .istore_n 3), (42, 3, 45, .iinc 5 1), (45, 3, 48, .goto (-32)), (48, 1, 49, .iload_n 2), (49, 1, 50, .iconst 4), (50, 2, 52, .iload 4), (52, 1, 53, .imul), (53, 3, 56, .if_icmp .le 19), (56, 1, 57, .aload_n 0), (57, 3, 60, .getfield 43), (60, 3, 63, .getfield 170), (63, 1, 64, .iload_n 1), (64, 1, 65, .iconst 4), (65, 1, 66, .imul), (66, 1, 67, .iload_n 3), (67, 1, 68, .iadd), (68, 1, 69, .iconst 0), (69, 1, 70, .iastore), (70, 1, 71, .iload_n 3), (71, 1, 72, .ireturn), (72, 1, 73, .aload_n 0), (73, 3, 76, .getfield 43), (76, 1, 77, .iload_n 1), (77, 1, 78, .aload_n 0), (78, 1, 79, .iload_n 1), (79, 3, 82, .invokevirtual 173), (82, 3, 85, .invokevirtual 176), (85, 1, 86, .iconst (-1)), (86, 1, 87, .ireturn)]
set_option maxRecDepth 100000 in
theorem tk_X9_fallInto (k : Nat) {pc n pc2 : Nat} {i : Instr} (hk : tb_X9_fallInto[k]? = some (pc, n, pc2, i)) : on_dq cX9_fallInto pc n pc2 i := on_ta (by decide +kernel) k hk
theorem ms_X9_fallInto : on_Mv yX9_fallInto cX9_fallInto 7 (some .int) 2 := ⟨kw_4_133, kw_4_131, kw_4_132, kw_1_2, by decide, by decide, by decide +kernel⟩
def pf_X9_fallInto_13 (b : Nat) : Nat → Int → Int → Int → Int → Int → on_S → Option on_O
  | 0, _, _, _, _, _, _ => none
  | nf + 1, l1, l2, l3, l4, l5, σ =>
    on_Lt l5 4 (
      on_Cl (pf_X9_holdAsMeasured b l1 l5 σ) fun v3 σ4 =>
      on_Lt v3 l4 (
        pf_X9_fallInto_13 b nf l1 l2 l5 v3 (l5 + 1) σ4) (
        pf_X9_fallInto_13 b nf l1 l2 l3 l4 (l5 + 1) σ4)) (
      on_Le l2 (4 * l4) (
        on_Cl (pf_X9_storeyOf b l1 σ) fun v6 σ7 =>
        on_Cl (pf_X4_wearDown b l1 v6 σ7) fun _ σ9 =>
        some ((-1), σ9)) (
        on_Wr σ (b + 18) 8 ((l1 * 4) + l3) 0 fun σ5 =>
        some (l3, σ5)))
def pf_X9_fallInto (b : Nat) (p0 : Int) (p1 : Int) (σ : on_S) : Option on_O :=
  on_Cl (pf_X9_holdAsMeasured b p0 0 σ) fun v1 σ2 =>
  pf_X9_fallInto_13 b on_N p0 p1 0 v1 1 σ2
set_option maxRecDepth 100000 in
set_option maxHeartbeats 4000000 in
theorem gl_X9_fallInto_13 {E : on_E} {z n : Nat} (X : on_X) (b : Nat) (hN : 100 ≤ n) (hb : on_Sb n b) : ∀ (nf : Nat) (l1 : Int) (l2 : Int) (l3 : Int) (l4 : Int) (l5 : Int) (σ : on_S), on_G X E cX9_fallInto RX9 (some .int) 2 46 7 z n σ (pf_X9_fallInto_13 b nf l1 l2 l3 l4 l5 σ) 13 [some (.ref (z + b)), some (.int (on_i l1)), some (.int (on_i l2)), some (.int (on_i l3)), some (.int (on_i l4)), some (.int (on_i l5)), none] [] := by
  intro nf
  induction nf with
  | zero => intro l1 l2 l3 l4 l5 σ; exact on_none
  | succ nf ih =>
    intro l1 l2 l3 l4 l5 σ
    rw [pf_X9_fallInto_13]
    refine on_il5 (tk_X9_fallInto 9 rfl) ?_
    refine on_iconst (tk_X9_fallInto 10 rfl) ?_
    refine on_icmp_ge (tk_X9_fallInto 11 rfl) (tgt := 48) (by decide) ?_ ?_
    · refine on_al0 (tk_X9_fallInto 12 rfl) ?_
      refine on_il1 (tk_X9_fallInto 13 rfl) ?_
      refine on_il5 (tk_X9_fallInto 14 rfl) ?_
      refine on_cV2i 9 ms_X9_holdAsMeasured kw_4_134 rfl rfl (ltS_0 hb) (shS_0 hb) (ct_X9_holdAsMeasured hN hb) rfl (tk_X9_fallInto 15 rfl) fun v3 σ4 => ?_
      refine on_is6 rfl (tk_X9_fallInto 16 rfl) ?_
      refine on_il6 (tk_X9_fallInto 17 rfl) ?_
      refine on_il4 (tk_X9_fallInto 18 rfl) ?_
      refine on_icmp_ge (tk_X9_fallInto 19 rfl) (tgt := 42) (by decide) ?_ ?_
      · refine on_il6 (tk_X9_fallInto 20 rfl) ?_
        refine on_is4 rfl (tk_X9_fallInto 21 rfl) ?_
        refine on_il5 (tk_X9_fallInto 22 rfl) ?_
        refine on_is3 rfl (tk_X9_fallInto 23 rfl) ?_
        refine on_inc5 rfl (tk_X9_fallInto 24 rfl) ?_
        refine on_goto (tk_X9_fallInto 25 rfl) (tgt := 13) (by decide) ?_
        refine on_dr6 ?_
        exact ih _ _ _ _ _ _
      · refine on_inc5 rfl (tk_X9_fallInto 24 rfl) ?_
        refine on_goto (tk_X9_fallInto 25 rfl) (tgt := 13) (by decide) ?_
        refine on_dr6 ?_
        exact ih _ _ _ _ _ _
    · refine on_il2 (tk_X9_fallInto 26 rfl) ?_
      refine on_iconst (tk_X9_fallInto 27 rfl) ?_
      refine on_il4 (tk_X9_fallInto 28 rfl) ?_
      refine on_imul (tk_X9_fallInto 29 rfl) ?_
      refine on_icmp_le (tk_X9_fallInto 30 rfl) (tgt := 72) (by decide) ?_ ?_
      · refine on_al0 (tk_X9_fallInto 31 rfl) ?_
        refine fg_9_13 hb kw_1_190 (tk_X9_fallInto 32 rfl) ?_
        refine fg_4_4 hb kw_1_110 (tk_X9_fallInto 33 rfl) ?_
        refine on_il1 (tk_X9_fallInto 34 rfl) ?_
        refine on_iconst (tk_X9_fallInto 35 rfl) ?_
        refine on_imul (tk_X9_fallInto 36 rfl) ?_
        refine on_il3 (tk_X9_fallInto 37 rfl) ?_
        refine on_iadd (tk_X9_fallInto 38 rfl) ?_
        refine on_iconst (tk_X9_fallInto 39 rfl) ?_
        refine on_iast (ltS_18 hb) (shS_18 hb) (tk_X9_fallInto 40 rfl) fun σ5 => ?_
        refine on_il3 (tk_X9_fallInto 41 rfl) ?_
        exact on_iret (tk_X9_fallInto 42 rfl)
      · refine on_al0 (tk_X9_fallInto 43 rfl) ?_
        refine fg_9_13 hb kw_1_190 (tk_X9_fallInto 44 rfl) ?_
        refine on_il1 (tk_X9_fallInto 45 rfl) ?_
        refine on_al0 (tk_X9_fallInto 46 rfl) ?_
        refine on_il1 (tk_X9_fallInto 47 rfl) ?_
        refine on_cV1i 9 ms_X9_storeyOf kw_4_138 rfl rfl (ltS_0 hb) (shS_0 hb) (ct_X9_storeyOf hN hb) rfl (tk_X9_fallInto 48 rfl) fun v6 σ7 => ?_
        refine on_cV2v 4 ms_X4_wearDown kw_4_139 rfl rfl (ltS_14 hb) (shS_14 hb) (ct_X4_wearDown hN hb) rfl (tk_X9_fallInto 49 rfl) fun v8 σ9 => ?_
        refine on_iconst (tk_X9_fallInto 50 rfl) ?_
        exact on_iret (tk_X9_fallInto 51 rfl)
set_option maxRecDepth 100000 in
set_option maxHeartbeats 4000000 in
theorem ct_X9_fallInto {E : on_E} {z n : Nat} {b : Nat} {p0 : Int} {p1 : Int} (hN : 100 ≤ n) (hb : on_Sb n b) {σ : on_S} : on_Sp E yX9_fallInto cX9_fallInto 7 (some .int) 2 46 z n [.ref (z + b), .int (on_i p0), .int (on_i p1)] σ (pf_X9_fallInto b p0 p1 σ) := by
  refine on_met [some (.ref (z + b)), some (.int (on_i p0)), some (.int (on_i p1)), none, none, none, none] (by decide) rfl rfl (fun X => ?_)
  rw [pf_X9_fallInto]
  refine on_iconst (tk_X9_fallInto 0 rfl) ?_
  refine on_is3 rfl (tk_X9_fallInto 1 rfl) ?_
  refine on_al0 (tk_X9_fallInto 2 rfl) ?_
  refine on_il1 (tk_X9_fallInto 3 rfl) ?_
  refine on_iconst (tk_X9_fallInto 4 rfl) ?_
  refine on_cV2i 9 ms_X9_holdAsMeasured kw_4_134 rfl rfl (ltS_0 hb) (shS_0 hb) (ct_X9_holdAsMeasured hN hb) rfl (tk_X9_fallInto 5 rfl) fun v1 σ2 => ?_
  refine on_is4 rfl (tk_X9_fallInto 6 rfl) ?_
  refine on_iconst (tk_X9_fallInto 7 rfl) ?_
  refine on_is5 rfl (tk_X9_fallInto 8 rfl) ?_
  exact gl_X9_fallInto_13 X _ hN hb on_N _ _ _ _ _ _
def tb_X9_holdIf : List (Nat × Nat × Nat × Instr) := [(0, 1, 1, .aload_n 0), (1, 1, 2, .iload_n 1), (2, 1, 3, .iload_n 2), (3, 2, 5, .iload 4), (5, 3, 8, .invokevirtual 144), (8, 1, 9, .aload_n 0), (9, 3, 12, .getfield 43), (12, 1, 13, .iload_n 1), (13, 1, 14, .iload_n 2), (14, 1, 15, .iload_n 3), (15, 3, 18, .invokevirtual 148), (18, 3, 21, .invokestatic 151), (21, 1, 22, .ireturn)]
set_option maxRecDepth 100000 in
theorem tk_X9_holdIf (k : Nat) {pc n pc2 : Nat} {i : Instr} (hk : tb_X9_holdIf[k]? = some (pc, n, pc2, i)) : on_dq cX9_holdIf pc n pc2 i := on_ta (by decide +kernel) k hk
theorem ms_X9_holdIf : on_Mv yX9_holdIf cX9_holdIf 5 (some .int) 4 := ⟨kw_4_17, kw_4_15, kw_4_16, kw_1_2, by decide, by decide, by decide +kernel⟩
def pf_X9_holdIf (b : Nat) (p0 : Int) (p1 : Int) (p2 : Int) (p3 : Int) (σ : on_S) : Option on_O :=
  on_Cl (pf_X9_leftAt b p0 p1 p3 σ) fun v1 σ2 =>
  on_Cl (pf_X4_knotIf b p0 p1 p2 σ2) fun v3 σ4 =>
  on_Mn v1 v3 fun v5 =>
  some (v5, σ4)
set_option maxRecDepth 100000 in
set_option maxHeartbeats 4000000 in
theorem ct_X9_holdIf {E : on_E} {z n : Nat} {b : Nat} {p0 : Int} {p1 : Int} {p2 : Int} {p3 : Int} (hN : 100 ≤ n) (hb : on_Sb n b) {σ : on_S} : on_Sp E yX9_holdIf cX9_holdIf 5 (some .int) 2 50 z n [.ref (z + b), .int (on_i p0), .int (on_i p1), .int (on_i p2), .int (on_i p3)] σ (pf_X9_holdIf b p0 p1 p2 p3 σ) := by
  refine on_met [some (.ref (z + b)), some (.int (on_i p0)), some (.int (on_i p1)), some (.int (on_i p2)), some (.int (on_i p3))] (by decide) rfl rfl (fun X => ?_)
  rw [pf_X9_holdIf]
  refine on_al0 (tk_X9_holdIf 0 rfl) ?_
  refine on_il1 (tk_X9_holdIf 1 rfl) ?_
  refine on_il2 (tk_X9_holdIf 2 rfl) ?_
  refine on_il4 (tk_X9_holdIf 3 rfl) ?_
  refine on_cV3i 9 ms_X9_leftAt kw_4_18 rfl rfl (ltS_0 hb) (shS_0 hb) (ct_X9_leftAt hN hb) rfl (tk_X9_holdIf 4 rfl) fun v1 σ2 => ?_
  refine on_al0 (tk_X9_holdIf 5 rfl) ?_
  refine fg_9_13 hb kw_1_190 (tk_X9_holdIf 6 rfl) ?_
  refine on_il1 (tk_X9_holdIf 7 rfl) ?_
  refine on_il2 (tk_X9_holdIf 8 rfl) ?_
  refine on_il3 (tk_X9_holdIf 9 rfl) ?_
  refine on_cV3i 4 ms_X4_knotIf kw_4_30 rfl rfl (ltS_14 hb) (shS_14 hb) (ct_X4_knotIf hN hb) rfl (tk_X9_holdIf 10 rfl) fun v3 σ4 => ?_
  refine on_min kw_4_34 kwM_min_s kwM_i kwM_min_c rfl (tk_X9_holdIf 11 rfl) fun v5 => ?_
  exact on_iret (tk_X9_holdIf 12 rfl)
def tb_X9_carriedIf : List (Nat × Nat × Nat × Instr) := [(0, 1, 1, .aload_n 0), (1, 1, 2, .iload_n 1), (2, 1, 3, .iconst 0), (3, 1, 4, .iload_n 2), (4, 1, 5, .iload_n 3), (5, 3, 8, .invokevirtual 157), (8, 2, 10, .istore 4), (10, 1, 11, .iconst 1), (11, 2, 13, .istore 5), (13, 2, 15, .iload 5), (15, 1, 16, .iconst 4), (16, 3, 19, .if_icmp .ge 30), (19, 2, 21, .iload 4), (21, 3, 24, .ifCond .le 25), (24, 2, 26, .iload 4), (26, 1, 27, .aload_n 0), (27, 1, 28, .iload_n 1), (28, 2, 30, .iload 5), (30, 1, 31, .iload_n 2), (31, 1, 32, .iload_n 3), (32, 3, 35, .invokevirtual 157), (35, 3, 38, .invokestatic 151), (38, 2, 40, .istore 4), (40, 3, 43, .iinc 5 1), (43, 3, 46, .goto (-30)), (46, 1, 47, .iconst 4), (47, 2, 49, .iload 4), (49, 1, 50, .imul), (50, 1, 51, .ireturn)]
set_option maxRecDepth 100000 in
theorem tk_X9_carriedIf (k : Nat) {pc n pc2 : Nat} {i : Instr} (hk : tb_X9_carriedIf[k]? = some (pc, n, pc2, i)) : on_dq cX9_carriedIf pc n pc2 i := on_ta (by decide +kernel) k hk
theorem ms_X9_carriedIf : on_Mv yX9_carriedIf cX9_carriedIf 6 (some .int) 3 := ⟨kw_4_13, kw_4_11, kw_4_12, kw_1_2, by decide, by decide, by decide +kernel⟩
def pf_X9_carriedIf_13 (b : Nat) : Nat → Int → Int → Int → Int → Int → on_S → Option on_O
  | 0, _, _, _, _, _, _ => none
  | nf + 1, l1, l2, l3, l4, l5, σ =>
    on_Lt l5 4 (
      on_Le l4 0 (
        some ((4 * l4), σ)) (
        on_Cl (pf_X9_holdIf b l1 l5 l2 l3 σ) fun v3 σ4 =>
        on_Mn l4 v3 fun v5 =>
        pf_X9_carriedIf_13 b nf l1 l2 l3 v5 (l5 + 1) σ4)) (
      some ((4 * l4), σ))
def pf_X9_carriedIf (b : Nat) (p0 : Int) (p1 : Int) (p2 : Int) (σ : on_S) : Option on_O :=
  on_Cl (pf_X9_holdIf b p0 0 p1 p2 σ) fun v1 σ2 =>
  pf_X9_carriedIf_13 b on_N p0 p1 p2 v1 1 σ2
set_option maxRecDepth 100000 in
set_option maxHeartbeats 4000000 in
theorem gl_X9_carriedIf_13 {E : on_E} {z n : Nat} (X : on_X) (b : Nat) (hN : 100 ≤ n) (hb : on_Sb n b) : ∀ (nf : Nat) (l1 : Int) (l2 : Int) (l3 : Int) (l4 : Int) (l5 : Int) (σ : on_S), on_G X E cX9_carriedIf RX9 (some .int) 3 74 6 z n σ (pf_X9_carriedIf_13 b nf l1 l2 l3 l4 l5 σ) 13 [some (.ref (z + b)), some (.int (on_i l1)), some (.int (on_i l2)), some (.int (on_i l3)), some (.int (on_i l4)), some (.int (on_i l5))] [] := by
  intro nf
  induction nf with
  | zero => intro l1 l2 l3 l4 l5 σ; exact on_none
  | succ nf ih =>
    intro l1 l2 l3 l4 l5 σ
    rw [pf_X9_carriedIf_13]
    refine on_il5 (tk_X9_carriedIf 9 rfl) ?_
    refine on_iconst (tk_X9_carriedIf 10 rfl) ?_
    refine on_icmp_ge (tk_X9_carriedIf 11 rfl) (tgt := 46) (by decide) ?_ ?_
    · refine on_il4 (tk_X9_carriedIf 12 rfl) ?_
      refine on_if_le (tk_X9_carriedIf 13 rfl) (tgt := 46) (by decide) ?_ ?_
      · refine on_il4 (tk_X9_carriedIf 14 rfl) ?_
        refine on_al0 (tk_X9_carriedIf 15 rfl) ?_
        refine on_il1 (tk_X9_carriedIf 16 rfl) ?_
        refine on_il5 (tk_X9_carriedIf 17 rfl) ?_
        refine on_il2 (tk_X9_carriedIf 18 rfl) ?_
        refine on_il3 (tk_X9_carriedIf 19 rfl) ?_
        refine on_cV4i 9 ms_X9_holdIf kw_4_14 rfl rfl (ltS_0 hb) (shS_0 hb) (ct_X9_holdIf hN hb) rfl (tk_X9_carriedIf 20 rfl) fun v3 σ4 => ?_
        refine on_min kw_4_34 kwM_min_s kwM_i kwM_min_c rfl (tk_X9_carriedIf 21 rfl) fun v5 => ?_
        refine on_is4 rfl (tk_X9_carriedIf 22 rfl) ?_
        refine on_inc5 rfl (tk_X9_carriedIf 23 rfl) ?_
        refine on_goto (tk_X9_carriedIf 24 rfl) (tgt := 13) (by decide) ?_
        exact ih _ _ _ _ _ _
      · refine on_iconst (tk_X9_carriedIf 25 rfl) ?_
        refine on_il4 (tk_X9_carriedIf 26 rfl) ?_
        refine on_imul (tk_X9_carriedIf 27 rfl) ?_
        exact on_iret (tk_X9_carriedIf 28 rfl)
    · refine on_iconst (tk_X9_carriedIf 25 rfl) ?_
      refine on_il4 (tk_X9_carriedIf 26 rfl) ?_
      refine on_imul (tk_X9_carriedIf 27 rfl) ?_
      exact on_iret (tk_X9_carriedIf 28 rfl)
set_option maxRecDepth 100000 in
set_option maxHeartbeats 4000000 in
theorem ct_X9_carriedIf {E : on_E} {z n : Nat} {b : Nat} {p0 : Int} {p1 : Int} {p2 : Int} (hN : 100 ≤ n) (hb : on_Sb n b) {σ : on_S} : on_Sp E yX9_carriedIf cX9_carriedIf 6 (some .int) 3 74 z n [.ref (z + b), .int (on_i p0), .int (on_i p1), .int (on_i p2)] σ (pf_X9_carriedIf b p0 p1 p2 σ) := by
  refine on_met [some (.ref (z + b)), some (.int (on_i p0)), some (.int (on_i p1)), some (.int (on_i p2)), none, none] (by decide) rfl rfl (fun X => ?_)
  rw [pf_X9_carriedIf]
  refine on_al0 (tk_X9_carriedIf 0 rfl) ?_
  refine on_il1 (tk_X9_carriedIf 1 rfl) ?_
  refine on_iconst (tk_X9_carriedIf 2 rfl) ?_
  refine on_il2 (tk_X9_carriedIf 3 rfl) ?_
  refine on_il3 (tk_X9_carriedIf 4 rfl) ?_
  refine on_cV4i 9 ms_X9_holdIf kw_4_14 rfl rfl (ltS_0 hb) (shS_0 hb) (ct_X9_holdIf hN hb) rfl (tk_X9_carriedIf 5 rfl) fun v1 σ2 => ?_
  refine on_is4 rfl (tk_X9_carriedIf 6 rfl) ?_
  refine on_iconst (tk_X9_carriedIf 7 rfl) ?_
  refine on_is5 rfl (tk_X9_carriedIf 8 rfl) ?_
  exact gl_X9_carriedIf_13 X _ hN hb on_N _ _ _ _ _ _
def tb_X9_carriedNow : List (Nat × Nat × Nat × Instr) := [(0, 1, 1, .aload_n 0), (1, 1, 2, .iload_n 1), (2, 1, 3, .aload_n 0), (3, 3, 6, .getfield 43), (6, 3, 9, .getfield 154), (9, 1, 10, .iload_n 1), (10, 1, 11, .iaload), (11, 1, 12, .iconst 0), (12, 3, 15, .invokevirtual 161), (15, 1, 16, .ireturn)]
set_option maxRecDepth 100000 in
theorem tk_X9_carriedNow (k : Nat) {pc n pc2 : Nat} {i : Instr} (hk : tb_X9_carriedNow[k]? = some (pc, n, pc2, i)) : on_dq cX9_carriedNow pc n pc2 i := on_ta (by decide +kernel) k hk
theorem ms_X9_carriedNow : on_Mv yX9_carriedNow cX9_carriedNow 2 (some .int) 1 := ⟨kw_4_9, kw_4_7, kw_4_8, kw_1_2, by decide, by decide, by decide +kernel⟩
def pf_X9_carriedNow (b : Nat) (p0 : Int) (σ : on_S) : Option on_O :=
  on_Rd σ (b + 17) 2 p0 fun v1 =>
  on_Cl (pf_X9_carriedIf b p0 v1 0 σ) fun v2 σ3 =>
  some (v2, σ3)
set_option maxRecDepth 100000 in
set_option maxHeartbeats 4000000 in
theorem ct_X9_carriedNow {E : on_E} {z n : Nat} {b : Nat} {p0 : Int} (hN : 100 ≤ n) (hb : on_Sb n b) {σ : on_S} : on_Sp E yX9_carriedNow cX9_carriedNow 2 (some .int) 4 99 z n [.ref (z + b), .int (on_i p0)] σ (pf_X9_carriedNow b p0 σ) := by
  refine on_met [some (.ref (z + b)), some (.int (on_i p0))] (by decide) rfl rfl (fun X => ?_)
  rw [pf_X9_carriedNow]
  refine on_al0 (tk_X9_carriedNow 0 rfl) ?_
  refine on_il1 (tk_X9_carriedNow 1 rfl) ?_
  refine on_al0 (tk_X9_carriedNow 2 rfl) ?_
  refine fg_9_13 hb kw_1_190 (tk_X9_carriedNow 3 rfl) ?_
  refine fg_4_3 hb kw_1_105 (tk_X9_carriedNow 4 rfl) ?_
  refine on_il1 (tk_X9_carriedNow 5 rfl) ?_
  refine on_iald (ltS_17 hb) (shS_17 hb) (tk_X9_carriedNow 6 rfl) fun v1 => ?_
  refine on_iconst (tk_X9_carriedNow 7 rfl) ?_
  refine on_cV3i 9 ms_X9_carriedIf kw_4_10 rfl rfl (ltS_0 hb) (shS_0 hb) (ct_X9_carriedIf hN hb) rfl (tk_X9_carriedNow 8 rfl) fun v2 σ3 => ?_
  exact on_iret (tk_X9_carriedNow 9 rfl)
def tb_X9_clear : List (Nat × Nat × Nat × Instr) := [(0, 1, 1, .aload_n 0), (1, 1, 2, .iconst 0), (2, 3, 5, .putfield 57), (5, 1, 6, .aload_n 0), (6, 1, 7, .iconst 0), (7, 3, 10, .putfield 61), (10, 1, 11, .aload_n 0), (11, 1, 12, .iconst 0), (12, 3, 15, .putfield 64), (15, 1, 16, .aload_n 0), (16, 1, 17, .iconst 0), (17, 3, 20, .putfield 67), (20, 1, 21, .aload_n 0), (21, 1, 22, .iconst 0), (22, 3, 25, .putfield 70), (25, 1, 26, .aload_n 0), (26, 3, 29, .getfield 27), (29, 1, 30, .iconst 0), (30, 3, 33, .invokestatic 73), (33, 1, 34, .aload_n 0), (34, 3, 37, .getfield 30), (37, 1, 38, .iconst 0), (38, 3, 41, .invokestatic 73), (41, 1, 42, .aload_n 0), (42, 3, 45, .getfield 36), (45, 3, 48, .invokevirtual 79), (48, 1, 49, .aload_n 0), (49, 3, 52, .getfield 43), (52, 3, 55, .invokevirtual 82), (55, 1, 56, .aload_n 0), (56, 3, 59, .getfield 50), (59, 1, 60, .iconst 0), (60, 3, 63, .putfield 83), (63, 1, 64, .return_)]
set_option maxRecDepth 100000 in
theorem tk_X9_clear (k : Nat) {pc n pc2 : Nat} {i : Instr} (hk : tb_X9_clear[k]? = some (pc, n, pc2, i)) : on_dq cX9_clear pc n pc2 i := on_ta (by decide +kernel) k hk
theorem ms_X9_clear : on_Mv yX9_clear cX9_clear 1 none 0 := ⟨kw_3_2, kw_3_0, kw_3_1, kw_1_2, by decide, by decide, by decide +kernel⟩
def pf_X9_clear (b : Nat) (σ : on_S) : Option on_O :=
  on_Pt σ b 0 0 fun σ1 =>
  on_Pt σ1 b 1 0 fun σ2 =>
  on_Pt σ2 b 2 0 fun σ3 =>
  on_Pt σ3 b 3 0 fun σ4 =>
  on_Pt σ4 b 7 0 fun σ5 =>
  on_Cl (pf_J7_fill_53178 (b + 6) 16 0 σ5) fun _ σ7 =>
  on_Cl (pf_J7_fill_53178 (b + 7) 16 0 σ7) fun _ σ9 =>
  on_Cl (pf_X3_clear b σ9) fun _ σ11 =>
  on_Cl (pf_X4_clear b σ11) fun _ σ13 =>
  on_Pt σ13 (b + 20) 0 0 fun σ14 =>
  some (0, σ14)
set_option maxRecDepth 100000 in
set_option maxHeartbeats 4000000 in
theorem ct_X9_clear {E : on_E} {z n : Nat} {b : Nat} (hN : 100 ≤ n) (hb : on_Sb n b) {σ : on_S} : on_Sp E yX9_clear cX9_clear 1 none 2 43 z n [.ref (z + b)] σ (pf_X9_clear b σ) := by
  refine on_met [some (.ref (z + b))] (by decide) rfl rfl (fun X => ?_)
  rw [pf_X9_clear]
  refine on_al0 (tk_X9_clear 0 rfl) ?_
  refine on_iconst (tk_X9_clear 1 rfl) ?_
  refine fp_9_0 hb kw_1_152 (tk_X9_clear 2 rfl) fun σ1 => ?_
  refine on_al0 (tk_X9_clear 3 rfl) ?_
  refine on_iconst (tk_X9_clear 4 rfl) ?_
  refine fp_9_1 hb kw_1_157 (tk_X9_clear 5 rfl) fun σ2 => ?_
  refine on_al0 (tk_X9_clear 6 rfl) ?_
  refine on_iconst (tk_X9_clear 7 rfl) ?_
  refine fp_9_2 hb kw_1_160 (tk_X9_clear 8 rfl) fun σ3 => ?_
  refine on_al0 (tk_X9_clear 9 rfl) ?_
  refine on_iconst (tk_X9_clear 10 rfl) ?_
  refine fp_9_3 hb kw_1_163 (tk_X9_clear 11 rfl) fun σ4 => ?_
  refine on_al0 (tk_X9_clear 12 rfl) ?_
  refine on_iconst (tk_X9_clear 13 rfl) ?_
  refine fp_9_7 hb kw_1_173 (tk_X9_clear 14 rfl) fun σ5 => ?_
  refine on_al0 (tk_X9_clear 15 rfl) ?_
  refine fg_9_10 hb kw_1_181 (tk_X9_clear 16 rfl) ?_
  refine on_iconst (tk_X9_clear 17 rfl) ?_
  refine on_cS2v ms_J7_fill_53178 kw_3_3 (ct_J7_fill_53178 hN (ltS_6 hb) (shS_6 hb)) rfl (tk_X9_clear 18 rfl) fun v6 σ7 => ?_
  refine on_al0 (tk_X9_clear 19 rfl) ?_
  refine fg_9_11 hb kw_1_183 (tk_X9_clear 20 rfl) ?_
  refine on_iconst (tk_X9_clear 21 rfl) ?_
  refine on_cS2v ms_J7_fill_53178 kw_3_3 (ct_J7_fill_53178 hN (ltS_7 hb) (shS_7 hb)) rfl (tk_X9_clear 22 rfl) fun v8 σ9 => ?_
  refine on_al0 (tk_X9_clear 23 rfl) ?_
  refine fg_9_12 hb kw_1_185 (tk_X9_clear 24 rfl) ?_
  refine on_cV0v 3 ms_X3_clear kw_3_6 rfl rfl (ltS_8 hb) (shS_8 hb) (ct_X3_clear hN hb) rfl (tk_X9_clear 25 rfl) fun v10 σ11 => ?_
  refine on_al0 (tk_X9_clear 26 rfl) ?_
  refine fg_9_13 hb kw_1_190 (tk_X9_clear 27 rfl) ?_
  refine on_cV0v 4 ms_X4_clear kw_3_11 rfl rfl (ltS_14 hb) (shS_14 hb) (ct_X4_clear hN hb) rfl (tk_X9_clear 28 rfl) fun v12 σ13 => ?_
  refine on_al0 (tk_X9_clear 29 rfl) ?_
  refine fg_9_14 hb kw_1_197 (tk_X9_clear 30 rfl) ?_
  refine on_iconst (tk_X9_clear 31 rfl) ?_
  refine fp_2_0 hb kw_1_135 (tk_X9_clear 32 rfl) fun σ14 => ?_
  exact on_vret (tk_X9_clear 33 rfl)
def tb_X9_addWindow : List (Nat × Nat × Nat × Instr) := [(0, 1, 1, .aload_n 0), (1, 3, 4, .getfield 67), (4, 2, 6, .bipush 9), (6, 3, 9, .if_icmp .ge 43), (9, 1, 10, .aload_n 0), (10, 3, 13, .getfield 9), (13, 1, 14, .aload_n 0), (14, 3, 17, .getfield 67), (17, 1, 18, .iload_n 1), (18, 1, 19, .iastore), (19, 1, 20, .aload_n 0), (20, 3, 23, .getfield 15), (23, 1, 24, .aload_n 0), (24, 3, 27, .getfield 67), (27, 1, 28, .iload_n 2), (28, 1, 29, .iastore), (29, 1, 30, .aload_n 0), (30, 3, 33, .getfield 18), (33, 1, 34, .aload_n 0), (34, 3, 37, .getfield 67), (37, 1, 38, .iconst (-1)), (38, 1, 39, .iastore), (39, 1, 40, .aload_n 0), (40, 1, 41, .dup), (41, 3, 44, .getfield 67), (44, 1, 45, .iconst 1), (45, 1, 46, .iadd), (46, 3, 49, .putfield 67), (49, 1, 50, .return_)]
set_option maxRecDepth 100000 in
theorem tk_X9_addWindow (k : Nat) {pc n pc2 : Nat} {i : Instr} (hk : tb_X9_addWindow[k]? = some (pc, n, pc2, i)) : on_dq cX9_addWindow pc n pc2 i := on_ta (by decide +kernel) k hk
theorem ms_X9_addWindow : on_Mv yX9_addWindow cX9_addWindow 3 none 2 := ⟨kw_3_111, kw_3_109, kw_3_110, kw_1_2, by decide, by decide, by decide +kernel⟩
def pf_X9_addWindow (b : Nat) (p0 : Int) (p1 : Int) (σ : on_S) : Option on_O :=
  on_Gt σ b 3 fun v1 =>
  on_Lt v1 9 (
    on_Gt σ b 3 fun v2 =>
    on_Wr σ (b + 1) 9 v2 p0 fun σ3 =>
    on_Gt σ3 b 3 fun v4 =>
    on_Wr σ3 (b + 2) 9 v4 p1 fun σ5 =>
    on_Gt σ5 b 3 fun v6 =>
    on_Wr σ5 (b + 3) 9 v6 (-1) fun σ7 =>
    on_Gt σ7 b 3 fun v8 =>
    on_Pt σ7 b 3 (v8 + 1) fun σ9 =>
    some (0, σ9)) (
    some (0, σ))
set_option maxRecDepth 100000 in
set_option maxHeartbeats 4000000 in
theorem ct_X9_addWindow {E : on_E} {z n : Nat} {b : Nat} {p0 : Int} {p1 : Int} (hN : 100 ≤ n) (hb : on_Sb n b) {σ : on_S} : on_Sp E yX9_addWindow cX9_addWindow 3 none 0 0 z n [.ref (z + b), .int (on_i p0), .int (on_i p1)] σ (pf_X9_addWindow b p0 p1 σ) := by
  refine on_met [some (.ref (z + b)), some (.int (on_i p0)), some (.int (on_i p1))] (by decide) rfl rfl (fun X => ?_)
  rw [pf_X9_addWindow]
  refine on_al0 (tk_X9_addWindow 0 rfl) ?_
  refine fg_9_3 hb kw_1_163 (tk_X9_addWindow 1 rfl) fun v1 => ?_
  refine on_bipush (tk_X9_addWindow 2 rfl) bp_9 ?_
  refine on_icmp_ge (tk_X9_addWindow 3 rfl) (tgt := 49) (by decide) ?_ ?_
  · refine on_al0 (tk_X9_addWindow 4 rfl) ?_
    refine fg_9_4 hb kw_1_166 (tk_X9_addWindow 5 rfl) ?_
    refine on_al0 (tk_X9_addWindow 6 rfl) ?_
    refine fg_9_3 hb kw_1_163 (tk_X9_addWindow 7 rfl) fun v2 => ?_
    refine on_il1 (tk_X9_addWindow 8 rfl) ?_
    refine on_iast (ltS_1 hb) (shS_1 hb) (tk_X9_addWindow 9 rfl) fun σ3 => ?_
    refine on_al0 (tk_X9_addWindow 10 rfl) ?_
    refine fg_9_5 hb kw_1_168 (tk_X9_addWindow 11 rfl) ?_
    refine on_al0 (tk_X9_addWindow 12 rfl) ?_
    refine fg_9_3 hb kw_1_163 (tk_X9_addWindow 13 rfl) fun v4 => ?_
    refine on_il2 (tk_X9_addWindow 14 rfl) ?_
    refine on_iast (ltS_2 hb) (shS_2 hb) (tk_X9_addWindow 15 rfl) fun σ5 => ?_
    refine on_al0 (tk_X9_addWindow 16 rfl) ?_
    refine fg_9_6 hb kw_1_170 (tk_X9_addWindow 17 rfl) ?_
    refine on_al0 (tk_X9_addWindow 18 rfl) ?_
    refine fg_9_3 hb kw_1_163 (tk_X9_addWindow 19 rfl) fun v6 => ?_
    refine on_iconst (tk_X9_addWindow 20 rfl) ?_
    refine on_iast (ltS_3 hb) (shS_3 hb) (tk_X9_addWindow 21 rfl) fun σ7 => ?_
    refine on_al0 (tk_X9_addWindow 22 rfl) ?_
    refine on_dup rfl (tk_X9_addWindow 23 rfl) ?_
    refine fg_9_3 hb kw_1_163 (tk_X9_addWindow 24 rfl) fun v8 => ?_
    refine on_iconst (tk_X9_addWindow 25 rfl) ?_
    refine on_iadd (tk_X9_addWindow 26 rfl) ?_
    refine fp_9_3 hb kw_1_163 (tk_X9_addWindow 27 rfl) fun σ9 => ?_
    exact on_vret (tk_X9_addWindow 28 rfl)
  · exact on_vret (tk_X9_addWindow 28 rfl)
def tb_X9_putAt : List (Nat × Nat × Nat × Instr) := [(0, 1, 1, .aload_n 0), (1, 3, 4, .getfield 43), (4, 3, 7, .getfield 128), (7, 1, 8, .iload_n 2), (8, 1, 9, .iconst 4), (9, 1, 10, .imul), (10, 1, 11, .iload_n 3), (11, 1, 12, .iadd), (12, 1, 13, .iload_n 1), (13, 1, 14, .iastore), (14, 1, 15, .aload_n 0), (15, 3, 18, .getfield 36), (18, 3, 21, .getfield 180), (21, 1, 22, .iload_n 1), (22, 1, 23, .iload_n 2), (23, 1, 24, .iastore), (24, 1, 25, .aload_n 0), (25, 3, 28, .getfield 36), (28, 3, 31, .getfield 183), (31, 1, 32, .iload_n 1), (32, 1, 33, .iload_n 3), (33, 1, 34, .iastore), (34, 1, 35, .return_)]
set_option maxRecDepth 100000 in
theorem tk_X9_putAt (k : Nat) {pc n pc2 : Nat} {i : Instr} (hk : tb_X9_putAt[k]? = some (pc, n, pc2, i)) : on_dq cX9_putAt pc n pc2 i := on_ta (by decide +kernel) k hk
theorem ms_X9_putAt : on_Mv yX9_putAt cX9_putAt 4 none 3 := ⟨kw_3_143, kw_3_141, kw_3_142, kw_1_2, by decide, by decide, by decide +kernel⟩
def pf_X9_putAt (b : Nat) (p0 : Int) (p1 : Int) (p2 : Int) (σ : on_S) : Option on_O :=
  on_Wr σ (b + 19) 8 ((p1 * 4) + p2) p0 fun σ1 =>
  on_Wr σ1 (b + 11) 9 p0 p1 fun σ2 =>
  on_Wr σ2 (b + 12) 9 p0 p2 fun σ3 =>
  some (0, σ3)
set_option maxRecDepth 100000 in
set_option maxHeartbeats 4000000 in
theorem ct_X9_putAt {E : on_E} {z n : Nat} {b : Nat} {p0 : Int} {p1 : Int} {p2 : Int} (hN : 100 ≤ n) (hb : on_Sb n b) {σ : on_S} : on_Sp E yX9_putAt cX9_putAt 4 none 0 0 z n [.ref (z + b), .int (on_i p0), .int (on_i p1), .int (on_i p2)] σ (pf_X9_putAt b p0 p1 p2 σ) := by
  refine on_met [some (.ref (z + b)), some (.int (on_i p0)), some (.int (on_i p1)), some (.int (on_i p2))] (by decide) rfl rfl (fun X => ?_)
  rw [pf_X9_putAt]
  refine on_al0 (tk_X9_putAt 0 rfl) ?_
  refine fg_9_13 hb kw_1_190 (tk_X9_putAt 1 rfl) ?_
  refine fg_4_5 hb kw_1_114 (tk_X9_putAt 2 rfl) ?_
  refine on_il2 (tk_X9_putAt 3 rfl) ?_
  refine on_iconst (tk_X9_putAt 4 rfl) ?_
  refine on_imul (tk_X9_putAt 5 rfl) ?_
  refine on_il3 (tk_X9_putAt 6 rfl) ?_
  refine on_iadd (tk_X9_putAt 7 rfl) ?_
  refine on_il1 (tk_X9_putAt 8 rfl) ?_
  refine on_iast (ltS_19 hb) (shS_19 hb) (tk_X9_putAt 9 rfl) fun σ1 => ?_
  refine on_al0 (tk_X9_putAt 10 rfl) ?_
  refine fg_9_12 hb kw_1_185 (tk_X9_putAt 11 rfl) ?_
  refine fg_3_3 hb kw_1_59 (tk_X9_putAt 12 rfl) ?_
  refine on_il1 (tk_X9_putAt 13 rfl) ?_
  refine on_il2 (tk_X9_putAt 14 rfl) ?_
  refine on_iast (ltS_11 hb) (shS_11 hb) (tk_X9_putAt 15 rfl) fun σ2 => ?_
  refine on_al0 (tk_X9_putAt 16 rfl) ?_
  refine fg_9_12 hb kw_1_185 (tk_X9_putAt 17 rfl) ?_
  refine fg_3_4 hb kw_1_62 (tk_X9_putAt 18 rfl) ?_
  refine on_il1 (tk_X9_putAt 19 rfl) ?_
  refine on_il3 (tk_X9_putAt 20 rfl) ?_
  refine on_iast (ltS_12 hb) (shS_12 hb) (tk_X9_putAt 21 rfl) fun σ3 => ?_
  exact on_vret (tk_X9_putAt 22 rfl)
def tb_X9_setFeud : List (Nat × Nat × Nat × Instr) := [(0, 1, 1, .aload_n 0), (1, 3, 4, .getfield 27), (4, 1, 5, .iload_n 1), (5, 1, 6, .iconst 4), (6, 1, 7, .imul), (7, 1, 8, .iload_n 2), (8, 1, 9, .iadd), (9, 1, 10, .iload_n 3), (10, 1, 11, .iastore), (11, 1, 12, .aload_n 0), (12, 3, 15, .getfield 27), (15, 1, 16, .iload_n 2), (16, 1, 17, .iconst 4), (17, 1, 18, .imul), (18, 1, 19, .iload_n 1), (19, 1, 20, .iadd), (20, 1, 21, .iload_n 3), (21, 1, 22, .iastore), (22, 1, 23, .return_)]
set_option maxRecDepth 100000 in
theorem tk_X9_setFeud (k : Nat) {pc n pc2 : Nat} {i : Instr} (hk : tb_X9_setFeud[k]? = some (pc, n, pc2, i)) : on_dq cX9_setFeud pc n pc2 i := on_ta (by decide +kernel) k hk
theorem ms_X9_setFeud : on_Mv yX9_setFeud cX9_setFeud 4 none 3 := ⟨kw_3_161, kw_3_159, kw_3_160, kw_1_2, by decide, by decide, by decide +kernel⟩
def pf_X9_setFeud (b : Nat) (p0 : Int) (p1 : Int) (p2 : Int) (σ : on_S) : Option on_O :=
  on_Wr σ (b + 6) 16 ((p0 * 4) + p1) p2 fun σ1 =>
  on_Wr σ1 (b + 6) 16 ((p1 * 4) + p0) p2 fun σ2 =>
  some (0, σ2)
set_option maxRecDepth 100000 in
set_option maxHeartbeats 4000000 in
theorem ct_X9_setFeud {E : on_E} {z n : Nat} {b : Nat} {p0 : Int} {p1 : Int} {p2 : Int} (hN : 100 ≤ n) (hb : on_Sb n b) {σ : on_S} : on_Sp E yX9_setFeud cX9_setFeud 4 none 0 0 z n [.ref (z + b), .int (on_i p0), .int (on_i p1), .int (on_i p2)] σ (pf_X9_setFeud b p0 p1 p2 σ) := by
  refine on_met [some (.ref (z + b)), some (.int (on_i p0)), some (.int (on_i p1)), some (.int (on_i p2))] (by decide) rfl rfl (fun X => ?_)
  rw [pf_X9_setFeud]
  refine on_al0 (tk_X9_setFeud 0 rfl) ?_
  refine fg_9_10 hb kw_1_181 (tk_X9_setFeud 1 rfl) ?_
  refine on_il1 (tk_X9_setFeud 2 rfl) ?_
  refine on_iconst (tk_X9_setFeud 3 rfl) ?_
  refine on_imul (tk_X9_setFeud 4 rfl) ?_
  refine on_il2 (tk_X9_setFeud 5 rfl) ?_
  refine on_iadd (tk_X9_setFeud 6 rfl) ?_
  refine on_il3 (tk_X9_setFeud 7 rfl) ?_
  refine on_iast (ltS_6 hb) (shS_6 hb) (tk_X9_setFeud 8 rfl) fun σ1 => ?_
  refine on_al0 (tk_X9_setFeud 9 rfl) ?_
  refine fg_9_10 hb kw_1_181 (tk_X9_setFeud 10 rfl) ?_
  refine on_il2 (tk_X9_setFeud 11 rfl) ?_
  refine on_iconst (tk_X9_setFeud 12 rfl) ?_
  refine on_imul (tk_X9_setFeud 13 rfl) ?_
  refine on_il1 (tk_X9_setFeud 14 rfl) ?_
  refine on_iadd (tk_X9_setFeud 15 rfl) ?_
  refine on_il3 (tk_X9_setFeud 16 rfl) ?_
  refine on_iast (ltS_6 hb) (shS_6 hb) (tk_X9_setFeud 17 rfl) fun σ2 => ?_
  exact on_vret (tk_X9_setFeud 18 rfl)
def tb_X9_addJumper : List (Nat × Nat × Nat × Instr) := [(0, 1, 1, .aload_n 0), (1, 3, 4, .getfield 70), (4, 2, 6, .bipush 9), (6, 3, 9, .if_icmp .ge 33), (9, 1, 10, .aload_n 0), (10, 3, 13, .getfield 21), (13, 1, 14, .aload_n 0), (14, 3, 17, .getfield 70), (17, 1, 18, .iload_n 1), (18, 1, 19, .iastore), (19, 1, 20, .aload_n 0), (20, 3, 23, .getfield 24), (23, 1, 24, .aload_n 0), (24, 3, 27, .getfield 70), (27, 1, 28, .iload_n 2), (28, 1, 29, .iastore), (29, 1, 30, .aload_n 0), (30, 1, 31, .dup), (31, 3, 34, .getfield 70), (34, 1, 35, .iconst 1), (35, 1, 36, .iadd), (36, 3, 39, .putfield 70), (39, 1, 40, .return_)]
set_option maxRecDepth 100000 in
theorem tk_X9_addJumper (k : Nat) {pc n pc2 : Nat} {i : Instr} (hk : tb_X9_addJumper[k]? = some (pc, n, pc2, i)) : on_dq cX9_addJumper pc n pc2 i := on_ta (by decide +kernel) k hk
theorem ms_X9_addJumper : on_Mv yX9_addJumper cX9_addJumper 3 none 2 := ⟨kw_3_171, kw_3_169, kw_3_170, kw_1_2, by decide, by decide, by decide +kernel⟩
def pf_X9_addJumper (b : Nat) (p0 : Int) (p1 : Int) (σ : on_S) : Option on_O :=
  on_Gt σ b 7 fun v1 =>
  on_Lt v1 9 (
    on_Gt σ b 7 fun v2 =>
    on_Wr σ (b + 4) 9 v2 p0 fun σ3 =>
    on_Gt σ3 b 7 fun v4 =>
    on_Wr σ3 (b + 5) 9 v4 p1 fun σ5 =>
    on_Gt σ5 b 7 fun v6 =>
    on_Pt σ5 b 7 (v6 + 1) fun σ7 =>
    some (0, σ7)) (
    some (0, σ))
set_option maxRecDepth 100000 in
set_option maxHeartbeats 4000000 in
theorem ct_X9_addJumper {E : on_E} {z n : Nat} {b : Nat} {p0 : Int} {p1 : Int} (hN : 100 ≤ n) (hb : on_Sb n b) {σ : on_S} : on_Sp E yX9_addJumper cX9_addJumper 3 none 0 0 z n [.ref (z + b), .int (on_i p0), .int (on_i p1)] σ (pf_X9_addJumper b p0 p1 σ) := by
  refine on_met [some (.ref (z + b)), some (.int (on_i p0)), some (.int (on_i p1))] (by decide) rfl rfl (fun X => ?_)
  rw [pf_X9_addJumper]
  refine on_al0 (tk_X9_addJumper 0 rfl) ?_
  refine fg_9_7 hb kw_1_173 (tk_X9_addJumper 1 rfl) fun v1 => ?_
  refine on_bipush (tk_X9_addJumper 2 rfl) bp_9 ?_
  refine on_icmp_ge (tk_X9_addJumper 3 rfl) (tgt := 39) (by decide) ?_ ?_
  · refine on_al0 (tk_X9_addJumper 4 rfl) ?_
    refine fg_9_8 hb kw_1_177 (tk_X9_addJumper 5 rfl) ?_
    refine on_al0 (tk_X9_addJumper 6 rfl) ?_
    refine fg_9_7 hb kw_1_173 (tk_X9_addJumper 7 rfl) fun v2 => ?_
    refine on_il1 (tk_X9_addJumper 8 rfl) ?_
    refine on_iast (ltS_4 hb) (shS_4 hb) (tk_X9_addJumper 9 rfl) fun σ3 => ?_
    refine on_al0 (tk_X9_addJumper 10 rfl) ?_
    refine fg_9_9 hb kw_1_179 (tk_X9_addJumper 11 rfl) ?_
    refine on_al0 (tk_X9_addJumper 12 rfl) ?_
    refine fg_9_7 hb kw_1_173 (tk_X9_addJumper 13 rfl) fun v4 => ?_
    refine on_il2 (tk_X9_addJumper 14 rfl) ?_
    refine on_iast (ltS_5 hb) (shS_5 hb) (tk_X9_addJumper 15 rfl) fun σ5 => ?_
    refine on_al0 (tk_X9_addJumper 16 rfl) ?_
    refine on_dup rfl (tk_X9_addJumper 17 rfl) ?_
    refine fg_9_7 hb kw_1_173 (tk_X9_addJumper 18 rfl) fun v6 => ?_
    refine on_iconst (tk_X9_addJumper 19 rfl) ?_
    refine on_iadd (tk_X9_addJumper 20 rfl) ?_
    refine fp_9_7 hb kw_1_173 (tk_X9_addJumper 21 rfl) fun σ7 => ?_
    exact on_vret (tk_X9_addJumper 22 rfl)
  · exact on_vret (tk_X9_addJumper 22 rfl)
def tb_X9_setRoad : List (Nat × Nat × Nat × Instr) := [(0, 1, 1, .aload_n 0), (1, 3, 4, .getfield 30), (4, 1, 5, .iload_n 1), (5, 1, 6, .iconst 4), (6, 1, 7, .imul), (7, 1, 8, .iload_n 2), (8, 1, 9, .iadd), (9, 1, 10, .iload_n 3), (10, 1, 11, .iastore), (11, 1, 12, .aload_n 0), (12, 3, 15, .getfield 30), (15, 1, 16, .iload_n 2), (16, 1, 17, .iconst 4), (17, 1, 18, .imul), (18, 1, 19, .iload_n 1), (19, 1, 20, .iadd), (20, 1, 21, .iload_n 3), (21, 1, 22, .iastore), (22, 1, 23, .return_)]
set_option maxRecDepth 100000 in
theorem tk_X9_setRoad (k : Nat) {pc n pc2 : Nat} {i : Instr} (hk : tb_X9_setRoad[k]? = some (pc, n, pc2, i)) : on_dq cX9_setRoad pc n pc2 i := on_ta (by decide +kernel) k hk
theorem ms_X9_setRoad : on_Mv yX9_setRoad cX9_setRoad 4 none 3 := ⟨kw_3_180, kw_3_178, kw_3_179, kw_1_2, by decide, by decide, by decide +kernel⟩
def pf_X9_setRoad (b : Nat) (p0 : Int) (p1 : Int) (p2 : Int) (σ : on_S) : Option on_O :=
  on_Wr σ (b + 7) 16 ((p0 * 4) + p1) p2 fun σ1 =>
  on_Wr σ1 (b + 7) 16 ((p1 * 4) + p0) p2 fun σ2 =>
  some (0, σ2)
set_option maxRecDepth 100000 in
set_option maxHeartbeats 4000000 in
theorem ct_X9_setRoad {E : on_E} {z n : Nat} {b : Nat} {p0 : Int} {p1 : Int} {p2 : Int} (hN : 100 ≤ n) (hb : on_Sb n b) {σ : on_S} : on_Sp E yX9_setRoad cX9_setRoad 4 none 0 0 z n [.ref (z + b), .int (on_i p0), .int (on_i p1), .int (on_i p2)] σ (pf_X9_setRoad b p0 p1 p2 σ) := by
  refine on_met [some (.ref (z + b)), some (.int (on_i p0)), some (.int (on_i p1)), some (.int (on_i p2))] (by decide) rfl rfl (fun X => ?_)
  rw [pf_X9_setRoad]
  refine on_al0 (tk_X9_setRoad 0 rfl) ?_
  refine fg_9_11 hb kw_1_183 (tk_X9_setRoad 1 rfl) ?_
  refine on_il1 (tk_X9_setRoad 2 rfl) ?_
  refine on_iconst (tk_X9_setRoad 3 rfl) ?_
  refine on_imul (tk_X9_setRoad 4 rfl) ?_
  refine on_il2 (tk_X9_setRoad 5 rfl) ?_
  refine on_iadd (tk_X9_setRoad 6 rfl) ?_
  refine on_il3 (tk_X9_setRoad 7 rfl) ?_
  refine on_iast (ltS_7 hb) (shS_7 hb) (tk_X9_setRoad 8 rfl) fun σ1 => ?_
  refine on_al0 (tk_X9_setRoad 9 rfl) ?_
  refine fg_9_11 hb kw_1_183 (tk_X9_setRoad 10 rfl) ?_
  refine on_il2 (tk_X9_setRoad 11 rfl) ?_
  refine on_iconst (tk_X9_setRoad 12 rfl) ?_
  refine on_imul (tk_X9_setRoad 13 rfl) ?_
  refine on_il1 (tk_X9_setRoad 14 rfl) ?_
  refine on_iadd (tk_X9_setRoad 15 rfl) ?_
  refine on_il3 (tk_X9_setRoad 16 rfl) ?_
  refine on_iast (ltS_7 hb) (shS_7 hb) (tk_X9_setRoad 17 rfl) fun σ2 => ?_
  exact on_vret (tk_X9_setRoad 18 rfl)
def tb_X9_copyFrom : List (Nat × Nat × Nat × Instr) := [(0, 1, 1, .aload_n 0), (1, 1, 2, .aload_n 1), (2, 3, 5, .getfield 57), (5, 3, 8, .putfield 57), (8, 1, 9, .aload_n 0), (9, 1, 10, .aload_n 1), (10, 3, 13, .getfield 61), (13, 3, 16, .putfield 61), (16, 1, 17, .aload_n 0), (17, 1, 18, .aload_n 1), (18, 3, 21, .getfield 64), (21, 3, 24, .putfield 64), (24, 1, 25, .aload_n 0), (25, 1, 26, .aload_n 1), (26, 3, 29, .getfield 67), (29, 3, 32, .putfield 67), (32, 1, 33, .aload_n 0), (33, 1, 34, .aload_n 1), (34, 3, 37, .getfield 70), (37, 3, 40, .putfield 70), (40, 1, 41, .aload_n 1), (41, 3, 44, .getfield 9), (44, 1, 45, .iconst 0), (45, 1, 46, .aload_n 0), (46, 3, 49, .getfield 9), (49, 1, 50, .iconst 0), (50, 1, 51, .aload_n 0), (51, 3, 54, .getfield 67), (54, 3, 57, .invokestatic 86), (57, 1, 58, .aload_n 1), (58, 3, 61, .getfield 15), (61, 1, 62, .iconst 0), (62, 1, 63, .aload_n 0), (63, 3, 66, .getfield 15), (66, 1, 67, .iconst 0), (67, 1, 68, .aload_n 0), (68, 3, 71, .getfield 67), (71, 3, 74, .invokestatic 86), (74, 1, 75, .aload_n 1), (75, 3, 78, .getfield 18), (78, 1, 79, .iconst 0), (79, 1, 80, .aload_n 0), (80, 3, 83, .getfield 18), (83, 1, 84, .iconst 0), (84, 1, 85, .aload_n 0), (85, 3, 88, .getfield 67), (88, 3, 91, .invokestatic 86), (91, 1, 92, .aload_n 1), (92, 3, 95, .getfield 21), (95, 1, 96, .iconst 0), (96, 1, 97, .aload_n 0), (97, 3, 100, .getfield 21), (100, 1, 101, .iconst 0), (101, 1, 102, .aload_n 0), (102, 3, 105, .getfield 70), (105, 3, 108, .invokestatic 86), (108, 1, 109, .aload_n 1), (109, 3, 112, .getfield 24), (112, 1, 113, .iconst 0), (113, 1, 114, .aload_n 0), (114, 3, 117, .getfield 24), (117, 1, 118, .iconst 0), (118, 1, 119, .aload_n 0), (119, 3, 122, .getfield 70), (122, 3, 125, .invokestatic 86), (125, 1, 126, .aload_n 1), (126, 3, 129, .getfield 27), (129, 1, 130, .iconst 0), (130, 1, 131, .aload_n 0), (131, 3, 134, .getfield 27), (134, 1, 135, .iconst 0), (135, 1, 136, .aload_n 0), (136, 3, 139, .getfield 27), (139, 1, 140, .arraylength), (140, 3, 143, .invokestatic 86), (143, 1, 144, .aload_n 1), (144, 3, 147, .getfield 30), (147, 1, 148, .iconst 0), (148, 1, 149, .aload_n 0), (149, 3, 152, .getfield 30), (152, 1, 153, .iconst 0), (153, 1, 154, .aload_n 0), (154, 3, 157, .getfield 30), (157, 1, 158, .arraylength), (158, 3, 161, .invokestatic 86), (161, 1, 162, .aload_n 0), (162, 3, 165, .getfield 36), (165, 1, 166, .aload_n 1), (166, 3, 169, .getfield 36), (169, 3, 172, .invokevirtual 92), (172, 1, 173, .aload_n 0), (173, 3, 176, .getfield 43), (176, 1, 177, .aload_n 1), (177, 3, 180, .getfield 43), (180, 3, 183, .invokevirtual 96), (183, 1, 184, .aload_n 0), (184, 3, 187, .getfield 50), (187, 1, 188, .aload_n 1), (188, 3, 191, .getfield 50), (191, 3, 194, .invokevirtual 99), (194, 1, 195, .return_)]
set_option maxRecDepth 100000 in
theorem tk_X9_copyFrom (k : Nat) {pc n pc2 : Nat} {i : Instr} (hk : tb_X9_copyFrom[k]? = some (pc, n, pc2, i)) : on_dq cX9_copyFrom pc n pc2 i := on_ta (by decide +kernel) k hk
theorem ms_X9_copyFrom : on_Mv yX9_copyFrom cX9_copyFrom 2 none 1 := ⟨kw_3_188, kw_3_186, kw_3_187, kw_1_2, by decide, by decide, by decide +kernel⟩
def pf_X9_copyFrom (b : Nat) (p0 : Nat) (σ : on_S) : Option on_O :=
  on_Gt σ p0 0 fun v1 =>
  on_Pt σ b 0 v1 fun σ2 =>
  on_Gt σ2 p0 1 fun v3 =>
  on_Pt σ2 b 1 v3 fun σ4 =>
  on_Gt σ4 p0 2 fun v5 =>
  on_Pt σ4 b 2 v5 fun σ6 =>
  on_Gt σ6 p0 3 fun v7 =>
  on_Pt σ6 b 3 v7 fun σ8 =>
  on_Gt σ8 p0 7 fun v9 =>
  on_Pt σ8 b 7 v9 fun σ10 =>
  on_Gt σ10 b 3 fun v11 =>
  on_Cp σ10 (p0 + 1) 9 0 (b + 1) 9 0 v11 fun σ12 =>
  on_Gt σ12 b 3 fun v13 =>
  on_Cp σ12 (p0 + 2) 9 0 (b + 2) 9 0 v13 fun σ14 =>
  on_Gt σ14 b 3 fun v15 =>
  on_Cp σ14 (p0 + 3) 9 0 (b + 3) 9 0 v15 fun σ16 =>
  on_Gt σ16 b 7 fun v17 =>
  on_Cp σ16 (p0 + 4) 9 0 (b + 4) 9 0 v17 fun σ18 =>
  on_Gt σ18 b 7 fun v19 =>
  on_Cp σ18 (p0 + 5) 9 0 (b + 5) 9 0 v19 fun σ20 =>
  on_Cp σ20 (p0 + 6) 16 0 (b + 6) 16 0 ((16 : Nat) : Int) fun σ21 =>
  on_Cp σ21 (p0 + 7) 16 0 (b + 7) 16 0 ((16 : Nat) : Int) fun σ22 =>
  on_Cl (pf_X3_copyFrom b p0 σ22) fun _ σ24 =>
  on_Cl (pf_X4_copyFrom b p0 σ24) fun _ σ26 =>
  on_Cl (pf_X2_copyFrom b p0 σ26) fun _ σ28 =>
  some (0, σ28)
set_option maxRecDepth 100000 in
set_option maxHeartbeats 4000000 in
theorem ct_X9_copyFrom {E : on_E} {z n : Nat} {b : Nat} {p0 : Nat} (hN : 100 ≤ n) (hb : on_Sb n b) (ho0 : on_Sb n p0) {σ : on_S} : on_Sp E yX9_copyFrom cX9_copyFrom 2 none 2 47 z n [.ref (z + b), .ref (z + p0)] σ (pf_X9_copyFrom b p0 σ) := by
  refine on_met [some (.ref (z + b)), some (.ref (z + p0))] (by decide) rfl rfl (fun X => ?_)
  rw [pf_X9_copyFrom]
  refine on_al0 (tk_X9_copyFrom 0 rfl) ?_
  refine on_al1 (tk_X9_copyFrom 1 rfl) ?_
  refine fg_9_0 ho0 kw_1_152 (tk_X9_copyFrom 2 rfl) fun v1 => ?_
  refine fp_9_0 hb kw_1_152 (tk_X9_copyFrom 3 rfl) fun σ2 => ?_
  refine on_al0 (tk_X9_copyFrom 4 rfl) ?_
  refine on_al1 (tk_X9_copyFrom 5 rfl) ?_
  refine fg_9_1 ho0 kw_1_157 (tk_X9_copyFrom 6 rfl) fun v3 => ?_
  refine fp_9_1 hb kw_1_157 (tk_X9_copyFrom 7 rfl) fun σ4 => ?_
  refine on_al0 (tk_X9_copyFrom 8 rfl) ?_
  refine on_al1 (tk_X9_copyFrom 9 rfl) ?_
  refine fg_9_2 ho0 kw_1_160 (tk_X9_copyFrom 10 rfl) fun v5 => ?_
  refine fp_9_2 hb kw_1_160 (tk_X9_copyFrom 11 rfl) fun σ6 => ?_
  refine on_al0 (tk_X9_copyFrom 12 rfl) ?_
  refine on_al1 (tk_X9_copyFrom 13 rfl) ?_
  refine fg_9_3 ho0 kw_1_163 (tk_X9_copyFrom 14 rfl) fun v7 => ?_
  refine fp_9_3 hb kw_1_163 (tk_X9_copyFrom 15 rfl) fun σ8 => ?_
  refine on_al0 (tk_X9_copyFrom 16 rfl) ?_
  refine on_al1 (tk_X9_copyFrom 17 rfl) ?_
  refine fg_9_7 ho0 kw_1_173 (tk_X9_copyFrom 18 rfl) fun v9 => ?_
  refine fp_9_7 hb kw_1_173 (tk_X9_copyFrom 19 rfl) fun σ10 => ?_
  refine on_al1 (tk_X9_copyFrom 20 rfl) ?_
  refine fg_9_4 ho0 kw_1_166 (tk_X9_copyFrom 21 rfl) ?_
  refine on_iconst (tk_X9_copyFrom 22 rfl) ?_
  refine on_al0 (tk_X9_copyFrom 23 rfl) ?_
  refine fg_9_4 hb kw_1_166 (tk_X9_copyFrom 24 rfl) ?_
  refine on_iconst (tk_X9_copyFrom 25 rfl) ?_
  refine on_al0 (tk_X9_copyFrom 26 rfl) ?_
  refine fg_9_3 hb kw_1_163 (tk_X9_copyFrom 27 rfl) fun v11 => ?_
  refine on_acpi kw_3_189 kwA_n kwA_s kwA_i (ltS_1 ho0) (ltS_1 hb) (shS_1 ho0) (shS_1 hb) rfl (tk_X9_copyFrom 28 rfl) fun σ12 => ?_
  refine on_al1 (tk_X9_copyFrom 29 rfl) ?_
  refine fg_9_5 ho0 kw_1_168 (tk_X9_copyFrom 30 rfl) ?_
  refine on_iconst (tk_X9_copyFrom 31 rfl) ?_
  refine on_al0 (tk_X9_copyFrom 32 rfl) ?_
  refine fg_9_5 hb kw_1_168 (tk_X9_copyFrom 33 rfl) ?_
  refine on_iconst (tk_X9_copyFrom 34 rfl) ?_
  refine on_al0 (tk_X9_copyFrom 35 rfl) ?_
  refine fg_9_3 hb kw_1_163 (tk_X9_copyFrom 36 rfl) fun v13 => ?_
  refine on_acpi kw_3_189 kwA_n kwA_s kwA_i (ltS_2 ho0) (ltS_2 hb) (shS_2 ho0) (shS_2 hb) rfl (tk_X9_copyFrom 37 rfl) fun σ14 => ?_
  refine on_al1 (tk_X9_copyFrom 38 rfl) ?_
  refine fg_9_6 ho0 kw_1_170 (tk_X9_copyFrom 39 rfl) ?_
  refine on_iconst (tk_X9_copyFrom 40 rfl) ?_
  refine on_al0 (tk_X9_copyFrom 41 rfl) ?_
  refine fg_9_6 hb kw_1_170 (tk_X9_copyFrom 42 rfl) ?_
  refine on_iconst (tk_X9_copyFrom 43 rfl) ?_
  refine on_al0 (tk_X9_copyFrom 44 rfl) ?_
  refine fg_9_3 hb kw_1_163 (tk_X9_copyFrom 45 rfl) fun v15 => ?_
  refine on_acpi kw_3_189 kwA_n kwA_s kwA_i (ltS_3 ho0) (ltS_3 hb) (shS_3 ho0) (shS_3 hb) rfl (tk_X9_copyFrom 46 rfl) fun σ16 => ?_
  refine on_al1 (tk_X9_copyFrom 47 rfl) ?_
  refine fg_9_8 ho0 kw_1_177 (tk_X9_copyFrom 48 rfl) ?_
  refine on_iconst (tk_X9_copyFrom 49 rfl) ?_
  refine on_al0 (tk_X9_copyFrom 50 rfl) ?_
  refine fg_9_8 hb kw_1_177 (tk_X9_copyFrom 51 rfl) ?_
  refine on_iconst (tk_X9_copyFrom 52 rfl) ?_
  refine on_al0 (tk_X9_copyFrom 53 rfl) ?_
  refine fg_9_7 hb kw_1_173 (tk_X9_copyFrom 54 rfl) fun v17 => ?_
  refine on_acpi kw_3_189 kwA_n kwA_s kwA_i (ltS_4 ho0) (ltS_4 hb) (shS_4 ho0) (shS_4 hb) rfl (tk_X9_copyFrom 55 rfl) fun σ18 => ?_
  refine on_al1 (tk_X9_copyFrom 56 rfl) ?_
  refine fg_9_9 ho0 kw_1_179 (tk_X9_copyFrom 57 rfl) ?_
  refine on_iconst (tk_X9_copyFrom 58 rfl) ?_
  refine on_al0 (tk_X9_copyFrom 59 rfl) ?_
  refine fg_9_9 hb kw_1_179 (tk_X9_copyFrom 60 rfl) ?_
  refine on_iconst (tk_X9_copyFrom 61 rfl) ?_
  refine on_al0 (tk_X9_copyFrom 62 rfl) ?_
  refine fg_9_7 hb kw_1_173 (tk_X9_copyFrom 63 rfl) fun v19 => ?_
  refine on_acpi kw_3_189 kwA_n kwA_s kwA_i (ltS_5 ho0) (ltS_5 hb) (shS_5 ho0) (shS_5 hb) rfl (tk_X9_copyFrom 64 rfl) fun σ20 => ?_
  refine on_al1 (tk_X9_copyFrom 65 rfl) ?_
  refine fg_9_10 ho0 kw_1_181 (tk_X9_copyFrom 66 rfl) ?_
  refine on_iconst (tk_X9_copyFrom 67 rfl) ?_
  refine on_al0 (tk_X9_copyFrom 68 rfl) ?_
  refine fg_9_10 hb kw_1_181 (tk_X9_copyFrom 69 rfl) ?_
  refine on_iconst (tk_X9_copyFrom 70 rfl) ?_
  refine on_al0 (tk_X9_copyFrom 71 rfl) ?_
  refine fg_9_10 hb kw_1_181 (tk_X9_copyFrom 72 rfl) ?_
  refine on_alen1 (N := 16) (ltS_6 hb) (shS_6 hb) (tk_X9_copyFrom 73 rfl) ?_
  refine on_acpi kw_3_189 kwA_n kwA_s kwA_i (ltS_6 ho0) (ltS_6 hb) (shS_6 ho0) (shS_6 hb) rfl (tk_X9_copyFrom 74 rfl) fun σ21 => ?_
  refine on_al1 (tk_X9_copyFrom 75 rfl) ?_
  refine fg_9_11 ho0 kw_1_183 (tk_X9_copyFrom 76 rfl) ?_
  refine on_iconst (tk_X9_copyFrom 77 rfl) ?_
  refine on_al0 (tk_X9_copyFrom 78 rfl) ?_
  refine fg_9_11 hb kw_1_183 (tk_X9_copyFrom 79 rfl) ?_
  refine on_iconst (tk_X9_copyFrom 80 rfl) ?_
  refine on_al0 (tk_X9_copyFrom 81 rfl) ?_
  refine fg_9_11 hb kw_1_183 (tk_X9_copyFrom 82 rfl) ?_
  refine on_alen1 (N := 16) (ltS_7 hb) (shS_7 hb) (tk_X9_copyFrom 83 rfl) ?_
  refine on_acpi kw_3_189 kwA_n kwA_s kwA_i (ltS_7 ho0) (ltS_7 hb) (shS_7 ho0) (shS_7 hb) rfl (tk_X9_copyFrom 84 rfl) fun σ22 => ?_
  refine on_al0 (tk_X9_copyFrom 85 rfl) ?_
  refine fg_9_12 hb kw_1_185 (tk_X9_copyFrom 86 rfl) ?_
  refine on_al1 (tk_X9_copyFrom 87 rfl) ?_
  refine fg_9_12 ho0 kw_1_185 (tk_X9_copyFrom 88 rfl) ?_
  refine on_cV1v 3 ms_X3_copyFrom kw_3_192 rfl rfl (ltS_8 hb) (shS_8 hb) (ct_X3_copyFrom hN hb ho0) rfl (tk_X9_copyFrom 89 rfl) fun v23 σ24 => ?_
  refine on_al0 (tk_X9_copyFrom 90 rfl) ?_
  refine fg_9_13 hb kw_1_190 (tk_X9_copyFrom 91 rfl) ?_
  refine on_al1 (tk_X9_copyFrom 92 rfl) ?_
  refine fg_9_13 ho0 kw_1_190 (tk_X9_copyFrom 93 rfl) ?_
  refine on_cV1v 4 ms_X4_copyFrom kw_3_197 rfl rfl (ltS_14 hb) (shS_14 hb) (ct_X4_copyFrom hN hb ho0) rfl (tk_X9_copyFrom 94 rfl) fun v25 σ26 => ?_
  refine on_al0 (tk_X9_copyFrom 95 rfl) ?_
  refine fg_9_14 hb kw_1_197 (tk_X9_copyFrom 96 rfl) ?_
  refine on_al1 (tk_X9_copyFrom 97 rfl) ?_
  refine fg_9_14 ho0 kw_1_197 (tk_X9_copyFrom 98 rfl) ?_
  refine on_cV1v 2 ms_X2_copyFrom kw_3_202 rfl rfl (ltS_20 hb) (shS_20 hb) (ct_X2_copyFrom hN hb ho0) rfl (tk_X9_copyFrom 99 rfl) fun v27 σ28 => ?_
  exact on_vret (tk_X9_copyFrom 100 rfl)
def tb_X9_isThere : List (Nat × Nat × Nat × Instr) := [(0, 1, 1, .aload_n 0), (1, 3, 4, .getfield 64), (4, 3, 7, .ifCond .le 7), (7, 1, 8, .iconst 1), (8, 3, 11, .goto 4), (11, 1, 12, .iconst 0), (12, 1, 13, .ireturn)]
set_option maxRecDepth 100000 in
theorem tk_X9_isThere (k : Nat) {pc n pc2 : Nat} {i : Instr} (hk : tb_X9_isThere[k]? = some (pc, n, pc2, i)) : on_dq cX9_isThere pc n pc2 i := on_ta (by decide +kernel) k hk
theorem ms_X9_isThere : on_Mv yX9_isThere cX9_isThere 1 (some .boolean) 0 := ⟨kw_4_155, kw_4_153, kw_4_154, kw_1_2, by decide, by decide, by decide +kernel⟩
def pf_X9_isThere (b : Nat) (σ : on_S) : Option on_O :=
  on_Gt σ b 2 fun v1 =>
  on_Le v1 0 (
    some (0, σ)) (
    some (1, σ))
set_option maxRecDepth 100000 in
set_option maxHeartbeats 4000000 in
theorem ct_X9_isThere {E : on_E} {z n : Nat} {b : Nat} (hN : 100 ≤ n) (hb : on_Sb n b) {σ : on_S} : on_Sp E yX9_isThere cX9_isThere 1 (some .boolean) 0 0 z n [.ref (z + b)] σ (pf_X9_isThere b σ) := by
  refine on_met [some (.ref (z + b))] (by decide) rfl rfl (fun X => ?_)
  rw [pf_X9_isThere]
  refine on_al0 (tk_X9_isThere 0 rfl) ?_
  refine fg_9_2 hb kw_1_160 (tk_X9_isThere 1 rfl) fun v1 => ?_
  refine on_if_le (tk_X9_isThere 2 rfl) (tgt := 11) (by decide) ?_ ?_
  · refine on_iconst (tk_X9_isThere 3 rfl) ?_
    refine on_goto (tk_X9_isThere 4 rfl) (tgt := 12) (by decide) ?_
    exact on_zret1 (tk_X9_isThere 6 rfl)
  · refine on_iconst (tk_X9_isThere 5 rfl) ?_
    exact on_zret0 (tk_X9_isThere 6 rfl)
def tb_X9_hasHouse : List (Nat × Nat × Nat × Instr) := [(0, 1, 1, .iload_n 1), (1, 3, 4, .ifCond .lt 15), (4, 1, 5, .iload_n 1), (5, 1, 6, .aload_n 0), (6, 3, 9, .getfield 57), (9, 3, 12, .if_icmp .ge 7), (12, 1, 13, .iconst 1), (13, 3, 16, .goto 4), (16, 1, 17, .iconst 0), (17, 1, 18, .ireturn)]
set_option maxRecDepth 100000 in
theorem tk_X9_hasHouse (k : Nat) {pc n pc2 : Nat} {i : Instr} (hk : tb_X9_hasHouse[k]? = some (pc, n, pc2, i)) : on_dq cX9_hasHouse pc n pc2 i := on_ta (by decide +kernel) k hk
theorem ms_X9_hasHouse : on_Mv yX9_hasHouse cX9_hasHouse 2 (some .boolean) 1 := ⟨kw_4_81, kw_4_79, kw_4_80, kw_1_2, by decide, by decide, by decide +kernel⟩
def pf_X9_hasHouse_16 (σ : on_S) : Option on_O :=
  some (0, σ)
def pf_X9_hasHouse (b : Nat) (p0 : Int) (σ : on_S) : Option on_O :=
  on_Lt p0 0 (
    pf_X9_hasHouse_16 σ) (
    on_Gt σ b 0 fun v1 =>
    on_Lt p0 v1 (
      some (1, σ)) (
      pf_X9_hasHouse_16 σ))
set_option maxRecDepth 100000 in
set_option maxHeartbeats 4000000 in
theorem gb_X9_hasHouse_16 {E : on_E} {z n : Nat} (X : on_X) (hN : 100 ≤ n) (σ : on_S) : on_G X E cX9_hasHouse RX9 (some .boolean) 0 0 2 z n σ (pf_X9_hasHouse_16  σ) 16 [none, none] [] := by
  rw [pf_X9_hasHouse_16]
  refine on_iconst (tk_X9_hasHouse 8 rfl) ?_
  exact on_zret0 (tk_X9_hasHouse 9 rfl)
set_option maxRecDepth 100000 in
set_option maxHeartbeats 4000000 in
theorem ct_X9_hasHouse {E : on_E} {z n : Nat} {b : Nat} {p0 : Int} (hN : 100 ≤ n) (hb : on_Sb n b) {σ : on_S} : on_Sp E yX9_hasHouse cX9_hasHouse 2 (some .boolean) 0 0 z n [.ref (z + b), .int (on_i p0)] σ (pf_X9_hasHouse b p0 σ) := by
  refine on_met [some (.ref (z + b)), some (.int (on_i p0))] (by decide) rfl rfl (fun X => ?_)
  rw [pf_X9_hasHouse]
  refine on_il1 (tk_X9_hasHouse 0 rfl) ?_
  refine on_if_lt (tk_X9_hasHouse 1 rfl) (tgt := 16) (by decide) ?_ ?_
  · refine on_il1 (tk_X9_hasHouse 2 rfl) ?_
    refine on_al0 (tk_X9_hasHouse 3 rfl) ?_
    refine fg_9_0 hb kw_1_152 (tk_X9_hasHouse 4 rfl) fun v1 => ?_
    refine on_icmp_ge (tk_X9_hasHouse 5 rfl) (tgt := 16) (by decide) ?_ ?_
    · refine on_iconst (tk_X9_hasHouse 6 rfl) ?_
      refine on_goto (tk_X9_hasHouse 7 rfl) (tgt := 17) (by decide) ?_
      exact on_zret1 (tk_X9_hasHouse 9 rfl)
    · refine on_dr0 ?_
      refine on_dr1 ?_
      exact gb_X9_hasHouse_16 X  hN _
  · refine on_dr0 ?_
    refine on_dr1 ?_
    exact gb_X9_hasHouse_16 X  hN _
def tb_X9_hasTwoHouses : List (Nat × Nat × Nat × Instr) := [(0, 1, 1, .aload_n 0), (1, 1, 2, .iload_n 1), (2, 3, 5, .invokevirtual 102), (5, 3, 8, .ifCond .eq 20), (8, 1, 9, .aload_n 0), (9, 1, 10, .iload_n 2), (10, 3, 13, .invokevirtual 102), (13, 3, 16, .ifCond .eq 12), (16, 1, 17, .iload_n 1), (17, 1, 18, .iload_n 2), (18, 3, 21, .if_icmp .eq 7), (21, 1, 22, .iconst 1), (22, 3, 25, .goto 4), (25, 1, 26, .iconst 0), (26, 1, 27, .ireturn)]
set_option maxRecDepth 100000 in
theorem tk_X9_hasTwoHouses (k : Nat) {pc n pc2 : Nat} {i : Instr} (hk : tb_X9_hasTwoHouses[k]? = some (pc, n, pc2, i)) : on_dq cX9_hasTwoHouses pc n pc2 i := on_ta (by decide +kernel) k hk
theorem ms_X9_hasTwoHouses : on_Mv yX9_hasTwoHouses cX9_hasTwoHouses 3 (some .boolean) 2 := ⟨kw_4_77, kw_4_75, kw_4_76, kw_1_2, by decide, by decide, by decide +kernel⟩
def pf_X9_hasTwoHouses_25 (σ : on_S) : Option on_O :=
  some (0, σ)
def pf_X9_hasTwoHouses (b : Nat) (p0 : Int) (p1 : Int) (σ : on_S) : Option on_O :=
  on_Cl (pf_X9_hasHouse b p0 σ) fun v1 σ2 =>
  on_Eq v1 0 (
    pf_X9_hasTwoHouses_25 σ2) (
    on_Cl (pf_X9_hasHouse b p1 σ2) fun v3 σ4 =>
    on_Eq v3 0 (
      pf_X9_hasTwoHouses_25 σ4) (
      on_Eq p0 p1 (
        pf_X9_hasTwoHouses_25 σ4) (
        some (1, σ4))))
set_option maxRecDepth 100000 in
set_option maxHeartbeats 4000000 in
theorem gb_X9_hasTwoHouses_25 {E : on_E} {z n : Nat} (X : on_X) (hN : 100 ≤ n) (σ : on_S) : on_G X E cX9_hasTwoHouses RX9 (some .boolean) 1 21 3 z n σ (pf_X9_hasTwoHouses_25  σ) 25 [none, none, none] [] := by
  rw [pf_X9_hasTwoHouses_25]
  refine on_iconst (tk_X9_hasTwoHouses 13 rfl) ?_
  exact on_zret0 (tk_X9_hasTwoHouses 14 rfl)
set_option maxRecDepth 100000 in
set_option maxHeartbeats 4000000 in
theorem ct_X9_hasTwoHouses {E : on_E} {z n : Nat} {b : Nat} {p0 : Int} {p1 : Int} (hN : 100 ≤ n) (hb : on_Sb n b) {σ : on_S} : on_Sp E yX9_hasTwoHouses cX9_hasTwoHouses 3 (some .boolean) 1 21 z n [.ref (z + b), .int (on_i p0), .int (on_i p1)] σ (pf_X9_hasTwoHouses b p0 p1 σ) := by
  refine on_met [some (.ref (z + b)), some (.int (on_i p0)), some (.int (on_i p1))] (by decide) rfl rfl (fun X => ?_)
  rw [pf_X9_hasTwoHouses]
  refine on_al0 (tk_X9_hasTwoHouses 0 rfl) ?_
  refine on_il1 (tk_X9_hasTwoHouses 1 rfl) ?_
  refine on_cV1z 9 ms_X9_hasHouse kw_4_78 rfl rfl (ltS_0 hb) (shS_0 hb) (ct_X9_hasHouse hN hb) rfl (tk_X9_hasTwoHouses 2 rfl) fun v1 σ2 => ?_
  refine on_if_eq (tk_X9_hasTwoHouses 3 rfl) (tgt := 25) (by decide) ?_ ?_
  · refine on_al0 (tk_X9_hasTwoHouses 4 rfl) ?_
    refine on_il2 (tk_X9_hasTwoHouses 5 rfl) ?_
    refine on_cV1z 9 ms_X9_hasHouse kw_4_78 rfl rfl (ltS_0 hb) (shS_0 hb) (ct_X9_hasHouse hN hb) rfl (tk_X9_hasTwoHouses 6 rfl) fun v3 σ4 => ?_
    refine on_if_eq (tk_X9_hasTwoHouses 7 rfl) (tgt := 25) (by decide) ?_ ?_
    · refine on_il1 (tk_X9_hasTwoHouses 8 rfl) ?_
      refine on_il2 (tk_X9_hasTwoHouses 9 rfl) ?_
      refine on_icmp_eq (tk_X9_hasTwoHouses 10 rfl) (tgt := 25) (by decide) ?_ ?_
      · refine on_iconst (tk_X9_hasTwoHouses 11 rfl) ?_
        refine on_goto (tk_X9_hasTwoHouses 12 rfl) (tgt := 26) (by decide) ?_
        exact on_zret1 (tk_X9_hasTwoHouses 14 rfl)
      · refine on_dr0 ?_
        refine on_dr1 ?_
        refine on_dr2 ?_
        exact gb_X9_hasTwoHouses_25 X  hN _
    · refine on_dr0 ?_
      refine on_dr1 ?_
      refine on_dr2 ?_
      exact gb_X9_hasTwoHouses_25 X  hN _
  · refine on_dr0 ?_
    refine on_dr1 ?_
    refine on_dr2 ?_
    exact gb_X9_hasTwoHouses_25 X  hN _
def tb_X9_hasWindow : List (Nat × Nat × Nat × Instr) := [(0, 1, 1, .iload_n 1), (1, 3, 4, .ifCond .lt 15), (4, 1, 5, .iload_n 1), (5, 1, 6, .aload_n 0), (6, 3, 9, .getfield 67), (9, 3, 12, .if_icmp .ge 7), (12, 1, 13, .iconst 1), (13, 3, 16, .goto 4), (16, 1, 17, .iconst 0), (17, 1, 18, .ireturn)]
set_option maxRecDepth 100000 in
theorem tk_X9_hasWindow (k : Nat) {pc n pc2 : Nat} {i : Instr} (hk : tb_X9_hasWindow[k]? = some (pc, n, pc2, i)) : on_dq cX9_hasWindow pc n pc2 i := on_ta (by decide +kernel) k hk
theorem ms_X9_hasWindow : on_Mv yX9_hasWindow cX9_hasWindow 2 (some .boolean) 1 := ⟨kw_3_218, kw_3_216, kw_3_217, kw_1_2, by decide, by decide, by decide +kernel⟩
def pf_X9_hasWindow_16 (σ : on_S) : Option on_O :=
  some (0, σ)
def pf_X9_hasWindow (b : Nat) (p0 : Int) (σ : on_S) : Option on_O :=
  on_Lt p0 0 (
    pf_X9_hasWindow_16 σ) (
    on_Gt σ b 3 fun v1 =>
    on_Lt p0 v1 (
      some (1, σ)) (
      pf_X9_hasWindow_16 σ))
set_option maxRecDepth 100000 in
set_option maxHeartbeats 4000000 in
theorem gb_X9_hasWindow_16 {E : on_E} {z n : Nat} (X : on_X) (hN : 100 ≤ n) (σ : on_S) : on_G X E cX9_hasWindow RX9 (some .boolean) 0 0 2 z n σ (pf_X9_hasWindow_16  σ) 16 [none, none] [] := by
  rw [pf_X9_hasWindow_16]
  refine on_iconst (tk_X9_hasWindow 8 rfl) ?_
  exact on_zret0 (tk_X9_hasWindow 9 rfl)
set_option maxRecDepth 100000 in
set_option maxHeartbeats 4000000 in
theorem ct_X9_hasWindow {E : on_E} {z n : Nat} {b : Nat} {p0 : Int} (hN : 100 ≤ n) (hb : on_Sb n b) {σ : on_S} : on_Sp E yX9_hasWindow cX9_hasWindow 2 (some .boolean) 0 0 z n [.ref (z + b), .int (on_i p0)] σ (pf_X9_hasWindow b p0 σ) := by
  refine on_met [some (.ref (z + b)), some (.int (on_i p0))] (by decide) rfl rfl (fun X => ?_)
  rw [pf_X9_hasWindow]
  refine on_il1 (tk_X9_hasWindow 0 rfl) ?_
  refine on_if_lt (tk_X9_hasWindow 1 rfl) (tgt := 16) (by decide) ?_ ?_
  · refine on_il1 (tk_X9_hasWindow 2 rfl) ?_
    refine on_al0 (tk_X9_hasWindow 3 rfl) ?_
    refine fg_9_3 hb kw_1_163 (tk_X9_hasWindow 4 rfl) fun v1 => ?_
    refine on_icmp_ge (tk_X9_hasWindow 5 rfl) (tgt := 16) (by decide) ?_ ?_
    · refine on_iconst (tk_X9_hasWindow 6 rfl) ?_
      refine on_goto (tk_X9_hasWindow 7 rfl) (tgt := 17) (by decide) ?_
      exact on_zret1 (tk_X9_hasWindow 9 rfl)
    · refine on_dr0 ?_
      refine on_dr1 ?_
      exact gb_X9_hasWindow_16 X  hN _
  · refine on_dr0 ?_
    refine on_dr1 ?_
    exact gb_X9_hasWindow_16 X  hN _
def tb_X9_hasMan : List (Nat × Nat × Nat × Instr) := [(0, 1, 1, .iload_n 1), (1, 3, 4, .ifCond .lt 18), (4, 1, 5, .iload_n 1), (5, 1, 6, .aload_n 0), (6, 3, 9, .getfield 36), (9, 3, 12, .getfield 106), (12, 3, 15, .if_icmp .ge 7), (15, 1, 16, .iconst 1), (16, 3, 19, .goto 4), (19, 1, 20, .iconst 0), (20, 1, 21, .ireturn)]
set_option maxRecDepth 100000 in
theorem tk_X9_hasMan (k : Nat) {pc n pc2 : Nat} {i : Instr} (hk : tb_X9_hasMan[k]? = some (pc, n, pc2, i)) : on_dq cX9_hasMan pc n pc2 i := on_ta (by decide +kernel) k hk
theorem ms_X9_hasMan : on_Mv yX9_hasMan cX9_hasMan 2 (some .boolean) 1 := ⟨kw_3_226, kw_3_224, kw_3_225, kw_1_2, by decide, by decide, by decide +kernel⟩
def pf_X9_hasMan_19 (σ : on_S) : Option on_O :=
  some (0, σ)
def pf_X9_hasMan (b : Nat) (p0 : Int) (σ : on_S) : Option on_O :=
  on_Lt p0 0 (
    pf_X9_hasMan_19 σ) (
    on_Gt σ (b + 8) 0 fun v1 =>
    on_Lt p0 v1 (
      some (1, σ)) (
      pf_X9_hasMan_19 σ))
set_option maxRecDepth 100000 in
set_option maxHeartbeats 4000000 in
theorem gb_X9_hasMan_19 {E : on_E} {z n : Nat} (X : on_X) (hN : 100 ≤ n) (σ : on_S) : on_G X E cX9_hasMan RX9 (some .boolean) 0 0 2 z n σ (pf_X9_hasMan_19  σ) 19 [none, none] [] := by
  rw [pf_X9_hasMan_19]
  refine on_iconst (tk_X9_hasMan 9 rfl) ?_
  exact on_zret0 (tk_X9_hasMan 10 rfl)
set_option maxRecDepth 100000 in
set_option maxHeartbeats 4000000 in
theorem ct_X9_hasMan {E : on_E} {z n : Nat} {b : Nat} {p0 : Int} (hN : 100 ≤ n) (hb : on_Sb n b) {σ : on_S} : on_Sp E yX9_hasMan cX9_hasMan 2 (some .boolean) 0 0 z n [.ref (z + b), .int (on_i p0)] σ (pf_X9_hasMan b p0 σ) := by
  refine on_met [some (.ref (z + b)), some (.int (on_i p0))] (by decide) rfl rfl (fun X => ?_)
  rw [pf_X9_hasMan]
  refine on_il1 (tk_X9_hasMan 0 rfl) ?_
  refine on_if_lt (tk_X9_hasMan 1 rfl) (tgt := 19) (by decide) ?_ ?_
  · refine on_il1 (tk_X9_hasMan 2 rfl) ?_
    refine on_al0 (tk_X9_hasMan 3 rfl) ?_
    refine fg_9_12 hb kw_1_185 (tk_X9_hasMan 4 rfl) ?_
    refine fg_3_0 hb kw_1_45 (tk_X9_hasMan 5 rfl) fun v1 => ?_
    refine on_icmp_ge (tk_X9_hasMan 6 rfl) (tgt := 19) (by decide) ?_ ?_
    · refine on_iconst (tk_X9_hasMan 7 rfl) ?_
      refine on_goto (tk_X9_hasMan 8 rfl) (tgt := 20) (by decide) ?_
      exact on_zret1 (tk_X9_hasMan 10 rfl)
    · refine on_dr0 ?_
      refine on_dr1 ?_
      exact gb_X9_hasMan_19 X  hN _
  · refine on_dr0 ?_
    refine on_dr1 ?_
    exact gb_X9_hasMan_19 X  hN _
def tb_X9_hasTwoMen : List (Nat × Nat × Nat × Instr) := [(0, 1, 1, .aload_n 0), (1, 1, 2, .iload_n 1), (2, 3, 5, .invokevirtual 107), (5, 3, 8, .ifCond .eq 20), (8, 1, 9, .aload_n 0), (9, 1, 10, .iload_n 2), (10, 3, 13, .invokevirtual 107), (13, 3, 16, .ifCond .eq 12), (16, 1, 17, .iload_n 1), (17, 1, 18, .iload_n 2), (18, 3, 21, .if_icmp .eq 7), (21, 1, 22, .iconst 1), (22, 3, 25, .goto 4), (25, 1, 26, .iconst 0), (26, 1, 27, .ireturn)]
set_option maxRecDepth 100000 in
theorem tk_X9_hasTwoMen (k : Nat) {pc n pc2 : Nat} {i : Instr} (hk : tb_X9_hasTwoMen[k]? = some (pc, n, pc2, i)) : on_dq cX9_hasTwoMen pc n pc2 i := on_ta (by decide +kernel) k hk
theorem ms_X9_hasTwoMen : on_Mv yX9_hasTwoMen cX9_hasTwoMen 3 (some .boolean) 2 := ⟨kw_4_64, kw_4_62, kw_4_63, kw_1_2, by decide, by decide, by decide +kernel⟩
def pf_X9_hasTwoMen_25 (σ : on_S) : Option on_O :=
  some (0, σ)
def pf_X9_hasTwoMen (b : Nat) (p0 : Int) (p1 : Int) (σ : on_S) : Option on_O :=
  on_Cl (pf_X9_hasMan b p0 σ) fun v1 σ2 =>
  on_Eq v1 0 (
    pf_X9_hasTwoMen_25 σ2) (
    on_Cl (pf_X9_hasMan b p1 σ2) fun v3 σ4 =>
    on_Eq v3 0 (
      pf_X9_hasTwoMen_25 σ4) (
      on_Eq p0 p1 (
        pf_X9_hasTwoMen_25 σ4) (
        some (1, σ4))))
set_option maxRecDepth 100000 in
set_option maxHeartbeats 4000000 in
theorem gb_X9_hasTwoMen_25 {E : on_E} {z n : Nat} (X : on_X) (hN : 100 ≤ n) (σ : on_S) : on_G X E cX9_hasTwoMen RX9 (some .boolean) 1 21 3 z n σ (pf_X9_hasTwoMen_25  σ) 25 [none, none, none] [] := by
  rw [pf_X9_hasTwoMen_25]
  refine on_iconst (tk_X9_hasTwoMen 13 rfl) ?_
  exact on_zret0 (tk_X9_hasTwoMen 14 rfl)
set_option maxRecDepth 100000 in
set_option maxHeartbeats 4000000 in
theorem ct_X9_hasTwoMen {E : on_E} {z n : Nat} {b : Nat} {p0 : Int} {p1 : Int} (hN : 100 ≤ n) (hb : on_Sb n b) {σ : on_S} : on_Sp E yX9_hasTwoMen cX9_hasTwoMen 3 (some .boolean) 1 21 z n [.ref (z + b), .int (on_i p0), .int (on_i p1)] σ (pf_X9_hasTwoMen b p0 p1 σ) := by
  refine on_met [some (.ref (z + b)), some (.int (on_i p0)), some (.int (on_i p1))] (by decide) rfl rfl (fun X => ?_)
  rw [pf_X9_hasTwoMen]
  refine on_al0 (tk_X9_hasTwoMen 0 rfl) ?_
  refine on_il1 (tk_X9_hasTwoMen 1 rfl) ?_
  refine on_cV1z 9 ms_X9_hasMan kw_4_65 rfl rfl (ltS_0 hb) (shS_0 hb) (ct_X9_hasMan hN hb) rfl (tk_X9_hasTwoMen 2 rfl) fun v1 σ2 => ?_
  refine on_if_eq (tk_X9_hasTwoMen 3 rfl) (tgt := 25) (by decide) ?_ ?_
  · refine on_al0 (tk_X9_hasTwoMen 4 rfl) ?_
    refine on_il2 (tk_X9_hasTwoMen 5 rfl) ?_
    refine on_cV1z 9 ms_X9_hasMan kw_4_65 rfl rfl (ltS_0 hb) (shS_0 hb) (ct_X9_hasMan hN hb) rfl (tk_X9_hasTwoMen 6 rfl) fun v3 σ4 => ?_
    refine on_if_eq (tk_X9_hasTwoMen 7 rfl) (tgt := 25) (by decide) ?_ ?_
    · refine on_il1 (tk_X9_hasTwoMen 8 rfl) ?_
      refine on_il2 (tk_X9_hasTwoMen 9 rfl) ?_
      refine on_icmp_eq (tk_X9_hasTwoMen 10 rfl) (tgt := 25) (by decide) ?_ ?_
      · refine on_iconst (tk_X9_hasTwoMen 11 rfl) ?_
        refine on_goto (tk_X9_hasTwoMen 12 rfl) (tgt := 26) (by decide) ?_
        exact on_zret1 (tk_X9_hasTwoMen 14 rfl)
      · refine on_dr0 ?_
        refine on_dr1 ?_
        refine on_dr2 ?_
        exact gb_X9_hasTwoMen_25 X  hN _
    · refine on_dr0 ?_
      refine on_dr1 ?_
      refine on_dr2 ?_
      exact gb_X9_hasTwoMen_25 X  hN _
  · refine on_dr0 ?_
    refine on_dr1 ?_
    refine on_dr2 ?_
    exact gb_X9_hasTwoMen_25 X  hN _
def tb_X9_hasCorner : List (Nat × Nat × Nat × Instr) := [(0, 1, 1, .aload_n 0), (1, 1, 2, .iload_n 1), (2, 3, 5, .invokevirtual 111), (5, 3, 8, .ifCond .eq 16), (8, 1, 9, .iload_n 2), (9, 3, 12, .ifCond .lt 12), (12, 1, 13, .iload_n 2), (13, 1, 14, .iconst 4), (14, 3, 17, .if_icmp .ge 7), (17, 1, 18, .iconst 1), (18, 3, 21, .goto 4), (21, 1, 22, .iconst 0), (22, 1, 23, .ireturn)]
set_option maxRecDepth 100000 in
theorem tk_X9_hasCorner (k : Nat) {pc n pc2 : Nat} {i : Instr} (hk : tb_X9_hasCorner[k]? = some (pc, n, pc2, i)) : on_dq cX9_hasCorner pc n pc2 i := on_ta (by decide +kernel) k hk
theorem ms_X9_hasCorner : on_Mv yX9_hasCorner cX9_hasCorner 3 (some .boolean) 2 := ⟨kw_4_42, kw_4_40, kw_4_41, kw_1_2, by decide, by decide, by decide +kernel⟩
def pf_X9_hasCorner_21 (σ : on_S) : Option on_O :=
  some (0, σ)
def pf_X9_hasCorner (b : Nat) (p0 : Int) (p1 : Int) (σ : on_S) : Option on_O :=
  on_Cl (pf_X9_hasNet b p0 σ) fun v1 σ2 =>
  on_Eq v1 0 (
    pf_X9_hasCorner_21 σ2) (
    on_Lt p1 0 (
      pf_X9_hasCorner_21 σ2) (
      on_Lt p1 4 (
        some (1, σ2)) (
        pf_X9_hasCorner_21 σ2)))
set_option maxRecDepth 100000 in
set_option maxHeartbeats 4000000 in
theorem gb_X9_hasCorner_21 {E : on_E} {z n : Nat} (X : on_X) (hN : 100 ≤ n) (σ : on_S) : on_G X E cX9_hasCorner RX9 (some .boolean) 1 21 3 z n σ (pf_X9_hasCorner_21  σ) 21 [none, none, none] [] := by
  rw [pf_X9_hasCorner_21]
  refine on_iconst (tk_X9_hasCorner 11 rfl) ?_
  exact on_zret0 (tk_X9_hasCorner 12 rfl)
set_option maxRecDepth 100000 in
set_option maxHeartbeats 4000000 in
theorem ct_X9_hasCorner {E : on_E} {z n : Nat} {b : Nat} {p0 : Int} {p1 : Int} (hN : 100 ≤ n) (hb : on_Sb n b) {σ : on_S} : on_Sp E yX9_hasCorner cX9_hasCorner 3 (some .boolean) 1 21 z n [.ref (z + b), .int (on_i p0), .int (on_i p1)] σ (pf_X9_hasCorner b p0 p1 σ) := by
  refine on_met [some (.ref (z + b)), some (.int (on_i p0)), some (.int (on_i p1))] (by decide) rfl rfl (fun X => ?_)
  rw [pf_X9_hasCorner]
  refine on_al0 (tk_X9_hasCorner 0 rfl) ?_
  refine on_il1 (tk_X9_hasCorner 1 rfl) ?_
  refine on_cV1z 9 ms_X9_hasNet kw_4_43 rfl rfl (ltS_0 hb) (shS_0 hb) (ct_X9_hasNet hN hb) rfl (tk_X9_hasCorner 2 rfl) fun v1 σ2 => ?_
  refine on_if_eq (tk_X9_hasCorner 3 rfl) (tgt := 21) (by decide) ?_ ?_
  · refine on_il2 (tk_X9_hasCorner 4 rfl) ?_
    refine on_if_lt (tk_X9_hasCorner 5 rfl) (tgt := 21) (by decide) ?_ ?_
    · refine on_il2 (tk_X9_hasCorner 6 rfl) ?_
      refine on_iconst (tk_X9_hasCorner 7 rfl) ?_
      refine on_icmp_ge (tk_X9_hasCorner 8 rfl) (tgt := 21) (by decide) ?_ ?_
      · refine on_iconst (tk_X9_hasCorner 9 rfl) ?_
        refine on_goto (tk_X9_hasCorner 10 rfl) (tgt := 22) (by decide) ?_
        exact on_zret1 (tk_X9_hasCorner 12 rfl)
      · refine on_dr0 ?_
        refine on_dr1 ?_
        refine on_dr2 ?_
        exact gb_X9_hasCorner_21 X  hN _
    · refine on_dr0 ?_
      refine on_dr1 ?_
      refine on_dr2 ?_
      exact gb_X9_hasCorner_21 X  hN _
  · refine on_dr0 ?_
    refine on_dr1 ?_
    refine on_dr2 ?_
    exact gb_X9_hasCorner_21 X  hN _
def tb_X9_hasJumper : List (Nat × Nat × Nat × Instr) := [(0, 1, 1, .iload_n 1), (1, 3, 4, .ifCond .lt 15), (4, 1, 5, .iload_n 1), (5, 1, 6, .aload_n 0), (6, 3, 9, .getfield 70), (9, 3, 12, .if_icmp .ge 7), (12, 1, 13, .iconst 1), (13, 3, 16, .goto 4), (16, 1, 17, .iconst 0), (17, 1, 18, .ireturn)]
set_option maxRecDepth 100000 in
theorem tk_X9_hasJumper (k : Nat) {pc n pc2 : Nat} {i : Instr} (hk : tb_X9_hasJumper[k]? = some (pc, n, pc2, i)) : on_dq cX9_hasJumper pc n pc2 i := on_ta (by decide +kernel) k hk
theorem ms_X9_hasJumper : on_Mv yX9_hasJumper cX9_hasJumper 2 (some .boolean) 1 := ⟨kw_4_55, kw_4_53, kw_4_54, kw_1_2, by decide, by decide, by decide +kernel⟩
def pf_X9_hasJumper_16 (σ : on_S) : Option on_O :=
  some (0, σ)
def pf_X9_hasJumper (b : Nat) (p0 : Int) (σ : on_S) : Option on_O :=
  on_Lt p0 0 (
    pf_X9_hasJumper_16 σ) (
    on_Gt σ b 7 fun v1 =>
    on_Lt p0 v1 (
      some (1, σ)) (
      pf_X9_hasJumper_16 σ))
set_option maxRecDepth 100000 in
set_option maxHeartbeats 4000000 in
theorem gb_X9_hasJumper_16 {E : on_E} {z n : Nat} (X : on_X) (hN : 100 ≤ n) (σ : on_S) : on_G X E cX9_hasJumper RX9 (some .boolean) 0 0 2 z n σ (pf_X9_hasJumper_16  σ) 16 [none, none] [] := by
  rw [pf_X9_hasJumper_16]
  refine on_iconst (tk_X9_hasJumper 8 rfl) ?_
  exact on_zret0 (tk_X9_hasJumper 9 rfl)
set_option maxRecDepth 100000 in
set_option maxHeartbeats 4000000 in
theorem ct_X9_hasJumper {E : on_E} {z n : Nat} {b : Nat} {p0 : Int} (hN : 100 ≤ n) (hb : on_Sb n b) {σ : on_S} : on_Sp E yX9_hasJumper cX9_hasJumper 2 (some .boolean) 0 0 z n [.ref (z + b), .int (on_i p0)] σ (pf_X9_hasJumper b p0 σ) := by
  refine on_met [some (.ref (z + b)), some (.int (on_i p0))] (by decide) rfl rfl (fun X => ?_)
  rw [pf_X9_hasJumper]
  refine on_il1 (tk_X9_hasJumper 0 rfl) ?_
  refine on_if_lt (tk_X9_hasJumper 1 rfl) (tgt := 16) (by decide) ?_ ?_
  · refine on_il1 (tk_X9_hasJumper 2 rfl) ?_
    refine on_al0 (tk_X9_hasJumper 3 rfl) ?_
    refine fg_9_7 hb kw_1_173 (tk_X9_hasJumper 4 rfl) fun v1 => ?_
    refine on_icmp_ge (tk_X9_hasJumper 5 rfl) (tgt := 16) (by decide) ?_ ?_
    · refine on_iconst (tk_X9_hasJumper 6 rfl) ?_
      refine on_goto (tk_X9_hasJumper 7 rfl) (tgt := 17) (by decide) ?_
      exact on_zret1 (tk_X9_hasJumper 9 rfl)
    · refine on_dr0 ?_
      refine on_dr1 ?_
      exact gb_X9_hasJumper_16 X  hN _
  · refine on_dr0 ?_
    refine on_dr1 ?_
    exact gb_X9_hasJumper_16 X  hN _
def tb_X9_hasOtherNet : List (Nat × Nat × Nat × Instr) := [(0, 1, 1, .aload_n 0), (1, 3, 4, .getfield 18), (4, 1, 5, .iload_n 1), (5, 1, 6, .iaload), (6, 1, 7, .iconst (-1)), (7, 3, 10, .if_icmp .eq 17), (10, 1, 11, .aload_n 0), (11, 3, 14, .getfield 18), (14, 1, 15, .iload_n 1), (15, 1, 16, .iaload), (16, 1, 17, .iload_n 2), (17, 3, 20, .if_icmp .eq 7), (20, 1, 21, .iconst 1), (21, 3, 24, .goto 4), (24, 1, 25, .iconst 0), (25, 1, 26, .ireturn)]
set_option maxRecDepth 100000 in
theorem tk_X9_hasOtherNet (k : Nat) {pc n pc2 : Nat} {i : Instr} (hk : tb_X9_hasOtherNet[k]? = some (pc, n, pc2, i)) : on_dq cX9_hasOtherNet pc n pc2 i := on_ta (by decide +kernel) k hk
theorem ms_X9_hasOtherNet : on_Mv yX9_hasOtherNet cX9_hasOtherNet 3 (some .boolean) 2 := ⟨kw_5_79, kw_5_77, kw_5_78, kw_1_2, by decide, by decide, by decide +kernel⟩
def pf_X9_hasOtherNet_24 (σ : on_S) : Option on_O :=
  some (0, σ)
def pf_X9_hasOtherNet (b : Nat) (p0 : Int) (p1 : Int) (σ : on_S) : Option on_O :=
  on_Rd σ (b + 3) 9 p0 fun v1 =>
  on_Eq v1 (-1) (
    pf_X9_hasOtherNet_24 σ) (
    on_Rd σ (b + 3) 9 p0 fun v2 =>
    on_Eq v2 p1 (
      pf_X9_hasOtherNet_24 σ) (
      some (1, σ)))
set_option maxRecDepth 100000 in
set_option maxHeartbeats 4000000 in
theorem gb_X9_hasOtherNet_24 {E : on_E} {z n : Nat} (X : on_X) (hN : 100 ≤ n) (σ : on_S) : on_G X E cX9_hasOtherNet RX9 (some .boolean) 0 0 3 z n σ (pf_X9_hasOtherNet_24  σ) 24 [none, none, none] [] := by
  rw [pf_X9_hasOtherNet_24]
  refine on_iconst (tk_X9_hasOtherNet 14 rfl) ?_
  exact on_zret0 (tk_X9_hasOtherNet 15 rfl)
set_option maxRecDepth 100000 in
set_option maxHeartbeats 4000000 in
theorem ct_X9_hasOtherNet {E : on_E} {z n : Nat} {b : Nat} {p0 : Int} {p1 : Int} (hN : 100 ≤ n) (hb : on_Sb n b) {σ : on_S} : on_Sp E yX9_hasOtherNet cX9_hasOtherNet 3 (some .boolean) 0 0 z n [.ref (z + b), .int (on_i p0), .int (on_i p1)] σ (pf_X9_hasOtherNet b p0 p1 σ) := by
  refine on_met [some (.ref (z + b)), some (.int (on_i p0)), some (.int (on_i p1))] (by decide) rfl rfl (fun X => ?_)
  rw [pf_X9_hasOtherNet]
  refine on_al0 (tk_X9_hasOtherNet 0 rfl) ?_
  refine fg_9_6 hb kw_1_170 (tk_X9_hasOtherNet 1 rfl) ?_
  refine on_il1 (tk_X9_hasOtherNet 2 rfl) ?_
  refine on_iald (ltS_3 hb) (shS_3 hb) (tk_X9_hasOtherNet 3 rfl) fun v1 => ?_
  refine on_iconst (tk_X9_hasOtherNet 4 rfl) ?_
  refine on_icmp_eq (tk_X9_hasOtherNet 5 rfl) (tgt := 24) (by decide) ?_ ?_
  · refine on_al0 (tk_X9_hasOtherNet 6 rfl) ?_
    refine fg_9_6 hb kw_1_170 (tk_X9_hasOtherNet 7 rfl) ?_
    refine on_il1 (tk_X9_hasOtherNet 8 rfl) ?_
    refine on_iald (ltS_3 hb) (shS_3 hb) (tk_X9_hasOtherNet 9 rfl) fun v2 => ?_
    refine on_il2 (tk_X9_hasOtherNet 10 rfl) ?_
    refine on_icmp_eq (tk_X9_hasOtherNet 11 rfl) (tgt := 24) (by decide) ?_ ?_
    · refine on_iconst (tk_X9_hasOtherNet 12 rfl) ?_
      refine on_goto (tk_X9_hasOtherNet 13 rfl) (tgt := 25) (by decide) ?_
      exact on_zret1 (tk_X9_hasOtherNet 15 rfl)
    · refine on_dr0 ?_
      refine on_dr1 ?_
      refine on_dr2 ?_
      exact gb_X9_hasOtherNet_24 X  hN _
  · refine on_dr0 ?_
    refine on_dr1 ?_
    refine on_dr2 ?_
    exact gb_X9_hasOtherNet_24 X  hN _
def tb_X9_jumpersHeldAt : List (Nat × Nat × Nat × Instr) := [(0, 1, 1, .iconst 0), (1, 1, 2, .istore_n 3), (2, 1, 3, .iconst 0), (3, 2, 5, .istore 4), (5, 2, 7, .iload 4), (7, 1, 8, .aload_n 0), (8, 3, 11, .getfield 70), (11, 3, 14, .if_icmp .ge 33), (14, 1, 15, .aload_n 0), (15, 3, 18, .getfield 24), (18, 2, 20, .iload 4), (20, 1, 21, .iaload), (21, 1, 22, .iload_n 1), (22, 3, 25, .if_icmp .ne 16), (25, 1, 26, .aload_n 0), (26, 2, 28, .iload 4), (28, 3, 31, .invokevirtual 117), (31, 1, 32, .iload_n 2), (32, 3, 35, .if_icmp .gt 6), (35, 3, 38, .iinc 3 1), (38, 3, 41, .iinc 4 1), (41, 3, 44, .goto (-36)), (44, 1, 45, .iload_n 3), (45, 1, 46, .ireturn)]
set_option maxRecDepth 100000 in
theorem tk_X9_jumpersHeldAt (k : Nat) {pc n pc2 : Nat} {i : Instr} (hk : tb_X9_jumpersHeldAt[k]? = some (pc, n, pc2, i)) : on_dq cX9_jumpersHeldAt pc n pc2 i := on_ta (by decide +kernel) k hk
theorem ms_X9_jumpersHeldAt : on_Mv yX9_jumpersHeldAt cX9_jumpersHeldAt 5 (some .int) 2 := ⟨kw_5_83, kw_5_81, kw_5_82, kw_1_2, by decide, by decide, by decide +kernel⟩
def pf_X9_jumpersHeldAt_5 (b : Nat) : Nat → Int → Int → Int → Int → on_S → Option on_O
  | 0, _, _, _, _, _ => none
  | nf + 1, l1, l2, l3, l4, σ =>
    on_Gt σ b 7 fun v1 =>
    on_Lt l4 v1 (
      on_Rd σ (b + 5) 9 l4 fun v2 =>
      on_Eq v2 l1 (
        on_Cl (pf_X9_forceOf b l4 σ) fun v3 σ4 =>
        on_Le v3 l2 (
          pf_X9_jumpersHeldAt_5 b nf l1 l2 (l3 + 1) (l4 + 1) σ4) (
          pf_X9_jumpersHeldAt_5 b nf l1 l2 l3 (l4 + 1) σ4)) (
        pf_X9_jumpersHeldAt_5 b nf l1 l2 l3 (l4 + 1) σ)) (
      some (l3, σ))
def pf_X9_jumpersHeldAt (b : Nat) (p0 : Int) (p1 : Int) (σ : on_S) : Option on_O :=
  pf_X9_jumpersHeldAt_5 b on_N p0 p1 0 0 σ
set_option maxRecDepth 100000 in
set_option maxHeartbeats 4000000 in
theorem gl_X9_jumpersHeldAt_5 {E : on_E} {z n : Nat} (X : on_X) (b : Nat) (hN : 100 ≤ n) (hb : on_Sb n b) : ∀ (nf : Nat) (l1 : Int) (l2 : Int) (l3 : Int) (l4 : Int) (σ : on_S), on_G X E cX9_jumpersHeldAt RX9 (some .int) 1 21 5 z n σ (pf_X9_jumpersHeldAt_5 b nf l1 l2 l3 l4 σ) 5 [some (.ref (z + b)), some (.int (on_i l1)), some (.int (on_i l2)), some (.int (on_i l3)), some (.int (on_i l4))] [] := by
  intro nf
  induction nf with
  | zero => intro l1 l2 l3 l4 σ; exact on_none
  | succ nf ih =>
    intro l1 l2 l3 l4 σ
    rw [pf_X9_jumpersHeldAt_5]
    refine on_il4 (tk_X9_jumpersHeldAt 4 rfl) ?_
    refine on_al0 (tk_X9_jumpersHeldAt 5 rfl) ?_
    refine fg_9_7 hb kw_1_173 (tk_X9_jumpersHeldAt 6 rfl) fun v1 => ?_
    refine on_icmp_ge (tk_X9_jumpersHeldAt 7 rfl) (tgt := 44) (by decide) ?_ ?_
    · refine on_al0 (tk_X9_jumpersHeldAt 8 rfl) ?_
      refine fg_9_9 hb kw_1_179 (tk_X9_jumpersHeldAt 9 rfl) ?_
      refine on_il4 (tk_X9_jumpersHeldAt 10 rfl) ?_
      refine on_iald (ltS_5 hb) (shS_5 hb) (tk_X9_jumpersHeldAt 11 rfl) fun v2 => ?_
      refine on_il1 (tk_X9_jumpersHeldAt 12 rfl) ?_
      refine on_icmp_ne (tk_X9_jumpersHeldAt 13 rfl) (tgt := 38) (by decide) ?_ ?_
      · refine on_al0 (tk_X9_jumpersHeldAt 14 rfl) ?_
        refine on_il4 (tk_X9_jumpersHeldAt 15 rfl) ?_
        refine on_cV1i 9 ms_X9_forceOf kw_3_239 rfl rfl (ltS_0 hb) (shS_0 hb) (ct_X9_forceOf hN hb) rfl (tk_X9_jumpersHeldAt 16 rfl) fun v3 σ4 => ?_
        refine on_il2 (tk_X9_jumpersHeldAt 17 rfl) ?_
        refine on_icmp_gt (tk_X9_jumpersHeldAt 18 rfl) (tgt := 38) (by decide) ?_ ?_
        · refine on_inc3 rfl (tk_X9_jumpersHeldAt 19 rfl) ?_
          refine on_inc4 rfl (tk_X9_jumpersHeldAt 20 rfl) ?_
          refine on_goto (tk_X9_jumpersHeldAt 21 rfl) (tgt := 5) (by decide) ?_
          exact ih _ _ _ _ _
        · refine on_inc4 rfl (tk_X9_jumpersHeldAt 20 rfl) ?_
          refine on_goto (tk_X9_jumpersHeldAt 21 rfl) (tgt := 5) (by decide) ?_
          exact ih _ _ _ _ _
      · refine on_inc4 rfl (tk_X9_jumpersHeldAt 20 rfl) ?_
        refine on_goto (tk_X9_jumpersHeldAt 21 rfl) (tgt := 5) (by decide) ?_
        exact ih _ _ _ _ _
    · refine on_il3 (tk_X9_jumpersHeldAt 22 rfl) ?_
      exact on_iret (tk_X9_jumpersHeldAt 23 rfl)
set_option maxRecDepth 100000 in
set_option maxHeartbeats 4000000 in
theorem ct_X9_jumpersHeldAt {E : on_E} {z n : Nat} {b : Nat} {p0 : Int} {p1 : Int} (hN : 100 ≤ n) (hb : on_Sb n b) {σ : on_S} : on_Sp E yX9_jumpersHeldAt cX9_jumpersHeldAt 5 (some .int) 1 21 z n [.ref (z + b), .int (on_i p0), .int (on_i p1)] σ (pf_X9_jumpersHeldAt b p0 p1 σ) := by
  refine on_met [some (.ref (z + b)), some (.int (on_i p0)), some (.int (on_i p1)), none, none] (by decide) rfl rfl (fun X => ?_)
  rw [pf_X9_jumpersHeldAt]
  refine on_iconst (tk_X9_jumpersHeldAt 0 rfl) ?_
  refine on_is3 rfl (tk_X9_jumpersHeldAt 1 rfl) ?_
  refine on_iconst (tk_X9_jumpersHeldAt 2 rfl) ?_
  refine on_is4 rfl (tk_X9_jumpersHeldAt 3 rfl) ?_
  exact gl_X9_jumpersHeldAt_5 X _ hN hb on_N _ _ _ _ _
def tb_X9_holdNow : List (Nat × Nat × Nat × Instr) := [(0, 1, 1, .aload_n 0), (1, 1, 2, .iload_n 1), (2, 1, 3, .iload_n 2), (3, 1, 4, .aload_n 0), (4, 3, 7, .getfield 43), (7, 3, 10, .getfield 154), (10, 1, 11, .iload_n 1), (11, 1, 12, .iaload), (12, 1, 13, .iconst 0), (13, 3, 16, .invokevirtual 157), (16, 1, 17, .ireturn)]
set_option maxRecDepth 100000 in
theorem tk_X9_holdNow (k : Nat) {pc n pc2 : Nat} {i : Instr} (hk : tb_X9_holdNow[k]? = some (pc, n, pc2, i)) : on_dq cX9_holdNow pc n pc2 i := on_ta (by decide +kernel) k hk
theorem ms_X9_holdNow : on_Mv yX9_holdNow cX9_holdNow 3 (some .int) 2 := ⟨kw_4_47, kw_4_45, kw_4_46, kw_1_2, by decide, by decide, by decide +kernel⟩
def pf_X9_holdNow (b : Nat) (p0 : Int) (p1 : Int) (σ : on_S) : Option on_O :=
  on_Rd σ (b + 17) 2 p0 fun v1 =>
  on_Cl (pf_X9_holdIf b p0 p1 v1 0 σ) fun v2 σ3 =>
  some (v2, σ3)
set_option maxRecDepth 100000 in
set_option maxHeartbeats 4000000 in
theorem ct_X9_holdNow {E : on_E} {z n : Nat} {b : Nat} {p0 : Int} {p1 : Int} (hN : 100 ≤ n) (hb : on_Sb n b) {σ : on_S} : on_Sp E yX9_holdNow cX9_holdNow 3 (some .int) 3 74 z n [.ref (z + b), .int (on_i p0), .int (on_i p1)] σ (pf_X9_holdNow b p0 p1 σ) := by
  refine on_met [some (.ref (z + b)), some (.int (on_i p0)), some (.int (on_i p1))] (by decide) rfl rfl (fun X => ?_)
  rw [pf_X9_holdNow]
  refine on_al0 (tk_X9_holdNow 0 rfl) ?_
  refine on_il1 (tk_X9_holdNow 1 rfl) ?_
  refine on_il2 (tk_X9_holdNow 2 rfl) ?_
  refine on_al0 (tk_X9_holdNow 3 rfl) ?_
  refine fg_9_13 hb kw_1_190 (tk_X9_holdNow 4 rfl) ?_
  refine fg_4_3 hb kw_1_105 (tk_X9_holdNow 5 rfl) ?_
  refine on_il1 (tk_X9_holdNow 6 rfl) ?_
  refine on_iald (ltS_17 hb) (shS_17 hb) (tk_X9_holdNow 7 rfl) fun v1 => ?_
  refine on_iconst (tk_X9_holdNow 8 rfl) ?_
  refine on_cV4i 9 ms_X9_holdIf kw_4_14 rfl rfl (ltS_0 hb) (shS_0 hb) (ct_X9_holdIf hN hb) rfl (tk_X9_holdNow 9 rfl) fun v2 σ3 => ?_
  exact on_iret (tk_X9_holdNow 10 rfl)
def tb_X9_allCarry : List (Nat × Nat × Nat × Instr) := [(0, 1, 1, .iconst 0), (1, 1, 2, .istore_n 1), (2, 1, 3, .iconst 0), (3, 1, 4, .istore_n 2), (4, 1, 5, .iload_n 2), (5, 1, 6, .aload_n 0), (6, 3, 9, .getfield 43), (9, 3, 12, .getfield 110), (12, 3, 15, .if_icmp .ge 27), (15, 1, 16, .iload_n 1), (16, 1, 17, .aload_n 0), (17, 1, 18, .iload_n 2), (18, 1, 19, .aload_n 0), (19, 3, 22, .getfield 43), (22, 3, 25, .getfield 154), (25, 1, 26, .iload_n 2), (26, 1, 27, .iaload), (27, 1, 28, .iconst 0), (28, 3, 31, .invokevirtual 161), (31, 1, 32, .iadd), (32, 1, 33, .istore_n 1), (33, 3, 36, .iinc 2 1), (36, 3, 39, .goto (-32)), (39, 1, 40, .iload_n 1), (40, 1, 41, .ireturn)]
set_option maxRecDepth 100000 in
theorem tk_X9_allCarry (k : Nat) {pc n pc2 : Nat} {i : Instr} (hk : tb_X9_allCarry[k]? = some (pc, n, pc2, i)) : on_dq cX9_allCarry pc n pc2 i := on_ta (by decide +kernel) k hk
theorem ms_X9_allCarry : on_Mv yX9_allCarry cX9_allCarry 3 (some .int) 0 := ⟨kw_5_114, kw_5_112, kw_5_113, kw_1_2, by decide, by decide, by decide +kernel⟩
def pf_X9_allCarry_4 (b : Nat) : Nat → Int → Int → on_S → Option on_O
  | 0, _, _, _ => none
  | nf + 1, l1, l2, σ =>
    on_Gt σ (b + 14) 0 fun v1 =>
    on_Lt l2 v1 (
      on_Rd σ (b + 17) 2 l2 fun v2 =>
      on_Cl (pf_X9_carriedIf b l2 v2 0 σ) fun v3 σ4 =>
      pf_X9_allCarry_4 b nf (l1 + v3) (l2 + 1) σ4) (
      some (l1, σ))
def pf_X9_allCarry (b : Nat) (σ : on_S) : Option on_O :=
  pf_X9_allCarry_4 b on_N 0 0 σ
set_option maxRecDepth 100000 in
set_option maxHeartbeats 4000000 in
theorem gl_X9_allCarry_4 {E : on_E} {z n : Nat} (X : on_X) (b : Nat) (hN : 100 ≤ n) (hb : on_Sb n b) : ∀ (nf : Nat) (l1 : Int) (l2 : Int) (σ : on_S), on_G X E cX9_allCarry RX9 (some .int) 4 99 3 z n σ (pf_X9_allCarry_4 b nf l1 l2 σ) 4 [some (.ref (z + b)), some (.int (on_i l1)), some (.int (on_i l2))] [] := by
  intro nf
  induction nf with
  | zero => intro l1 l2 σ; exact on_none
  | succ nf ih =>
    intro l1 l2 σ
    rw [pf_X9_allCarry_4]
    refine on_il2 (tk_X9_allCarry 4 rfl) ?_
    refine on_al0 (tk_X9_allCarry 5 rfl) ?_
    refine fg_9_13 hb kw_1_190 (tk_X9_allCarry 6 rfl) ?_
    refine fg_4_0 hb kw_1_88 (tk_X9_allCarry 7 rfl) fun v1 => ?_
    refine on_icmp_ge (tk_X9_allCarry 8 rfl) (tgt := 39) (by decide) ?_ ?_
    · refine on_il1 (tk_X9_allCarry 9 rfl) ?_
      refine on_al0 (tk_X9_allCarry 10 rfl) ?_
      refine on_il2 (tk_X9_allCarry 11 rfl) ?_
      refine on_al0 (tk_X9_allCarry 12 rfl) ?_
      refine fg_9_13 hb kw_1_190 (tk_X9_allCarry 13 rfl) ?_
      refine fg_4_3 hb kw_1_105 (tk_X9_allCarry 14 rfl) ?_
      refine on_il2 (tk_X9_allCarry 15 rfl) ?_
      refine on_iald (ltS_17 hb) (shS_17 hb) (tk_X9_allCarry 16 rfl) fun v2 => ?_
      refine on_iconst (tk_X9_allCarry 17 rfl) ?_
      refine on_cV3i 9 ms_X9_carriedIf kw_4_10 rfl rfl (ltS_0 hb) (shS_0 hb) (ct_X9_carriedIf hN hb) rfl (tk_X9_allCarry 18 rfl) fun v3 σ4 => ?_
      refine on_iadd (tk_X9_allCarry 19 rfl) ?_
      refine on_is1 rfl (tk_X9_allCarry 20 rfl) ?_
      refine on_inc2 rfl (tk_X9_allCarry 21 rfl) ?_
      refine on_goto (tk_X9_allCarry 22 rfl) (tgt := 4) (by decide) ?_
      exact ih _ _ _
    · refine on_il1 (tk_X9_allCarry 23 rfl) ?_
      exact on_iret (tk_X9_allCarry 24 rfl)
set_option maxRecDepth 100000 in
set_option maxHeartbeats 4000000 in
theorem ct_X9_allCarry {E : on_E} {z n : Nat} {b : Nat} (hN : 100 ≤ n) (hb : on_Sb n b) {σ : on_S} : on_Sp E yX9_allCarry cX9_allCarry 3 (some .int) 4 99 z n [.ref (z + b)] σ (pf_X9_allCarry b σ) := by
  refine on_met [some (.ref (z + b)), none, none] (by decide) rfl rfl (fun X => ?_)
  rw [pf_X9_allCarry]
  refine on_iconst (tk_X9_allCarry 0 rfl) ?_
  refine on_is1 rfl (tk_X9_allCarry 1 rfl) ?_
  refine on_iconst (tk_X9_allCarry 2 rfl) ?_
  refine on_is2 rfl (tk_X9_allCarry 3 rfl) ?_
  exact gl_X9_allCarry_4 X _ hN hb on_N _ _ _
def tb_X9_weakestCorner : List (Nat × Nat × Nat × Instr) := [(0, 1, 1, .iconst 0), (1, 1, 2, .istore_n 2), (2, 1, 3, .aload_n 0), (3, 1, 4, .iload_n 1), (4, 1, 5, .iconst 0), (5, 3, 8, .invokevirtual 164), (8, 1, 9, .istore_n 3), (9, 1, 10, .iconst 1), (10, 2, 12, .istore 4), (12, 2, 14, .iload 4), (14, 1, 15, .iconst 4), (15, 3, 18, .if_icmp .ge 30), (18, 1, 19, .aload_n 0), (19, 1, 20, .iload_n 1), (20, 2, 22, .iload 4), (22, 3, 25, .invokevirtual 164), (25, 2, 27, .istore 5), (27, 2, 29, .iload 5), (29, 1, 30, .iload_n 3), (30, 3, 33, .if_icmp .ge 9), (33, 2, 35, .iload 5), (35, 1, 36, .istore_n 3), (36, 2, 38, .iload 4), (38, 1, 39, .istore_n 2), (39, 3, 42, .iinc 4 1), (42, 3, 45, .goto (-30)), (45, 1, 46, .iload_n 2), (46, 1, 47, .ireturn)]
set_option maxRecDepth 100000 in
theorem tk_X9_weakestCorner (k : Nat) {pc n pc2 : Nat} {i : Instr} (hk : tb_X9_weakestCorner[k]? = some (pc, n, pc2, i)) : on_dq cX9_weakestCorner pc n pc2 i := on_ta (by decide +kernel) k hk
theorem ms_X9_weakestCorner : on_Mv yX9_weakestCorner cX9_weakestCorner 6 (some .int) 1 := ⟨kw_4_94, kw_4_92, kw_4_93, kw_1_2, by decide, by decide, by decide +kernel⟩
def pf_X9_weakestCorner_12 (b : Nat) : Nat → Int → Int → Int → Int → on_S → Option on_O
  | 0, _, _, _, _, _ => none
  | nf + 1, l1, l2, l3, l4, σ =>
    on_Lt l4 4 (
      on_Cl (pf_X9_holdNow b l1 l4 σ) fun v3 σ4 =>
      on_Lt v3 l3 (
        pf_X9_weakestCorner_12 b nf l1 l4 v3 (l4 + 1) σ4) (
        pf_X9_weakestCorner_12 b nf l1 l2 l3 (l4 + 1) σ4)) (
      some (l2, σ))
def pf_X9_weakestCorner (b : Nat) (p0 : Int) (σ : on_S) : Option on_O :=
  on_Cl (pf_X9_holdNow b p0 0 σ) fun v1 σ2 =>
  pf_X9_weakestCorner_12 b on_N p0 0 v1 1 σ2
set_option maxRecDepth 100000 in
set_option maxHeartbeats 4000000 in
theorem gl_X9_weakestCorner_12 {E : on_E} {z n : Nat} (X : on_X) (b : Nat) (hN : 100 ≤ n) (hb : on_Sb n b) : ∀ (nf : Nat) (l1 : Int) (l2 : Int) (l3 : Int) (l4 : Int) (σ : on_S), on_G X E cX9_weakestCorner RX9 (some .int) 4 96 6 z n σ (pf_X9_weakestCorner_12 b nf l1 l2 l3 l4 σ) 12 [some (.ref (z + b)), some (.int (on_i l1)), some (.int (on_i l2)), some (.int (on_i l3)), some (.int (on_i l4)), none] [] := by
  intro nf
  induction nf with
  | zero => intro l1 l2 l3 l4 σ; exact on_none
  | succ nf ih =>
    intro l1 l2 l3 l4 σ
    rw [pf_X9_weakestCorner_12]
    refine on_il4 (tk_X9_weakestCorner 9 rfl) ?_
    refine on_iconst (tk_X9_weakestCorner 10 rfl) ?_
    refine on_icmp_ge (tk_X9_weakestCorner 11 rfl) (tgt := 45) (by decide) ?_ ?_
    · refine on_al0 (tk_X9_weakestCorner 12 rfl) ?_
      refine on_il1 (tk_X9_weakestCorner 13 rfl) ?_
      refine on_il4 (tk_X9_weakestCorner 14 rfl) ?_
      refine on_cV2i 9 ms_X9_holdNow kw_4_95 rfl rfl (ltS_0 hb) (shS_0 hb) (ct_X9_holdNow hN hb) rfl (tk_X9_weakestCorner 15 rfl) fun v3 σ4 => ?_
      refine on_is5 rfl (tk_X9_weakestCorner 16 rfl) ?_
      refine on_il5 (tk_X9_weakestCorner 17 rfl) ?_
      refine on_il3 (tk_X9_weakestCorner 18 rfl) ?_
      refine on_icmp_ge (tk_X9_weakestCorner 19 rfl) (tgt := 39) (by decide) ?_ ?_
      · refine on_il5 (tk_X9_weakestCorner 20 rfl) ?_
        refine on_is3 rfl (tk_X9_weakestCorner 21 rfl) ?_
        refine on_il4 (tk_X9_weakestCorner 22 rfl) ?_
        refine on_is2 rfl (tk_X9_weakestCorner 23 rfl) ?_
        refine on_inc4 rfl (tk_X9_weakestCorner 24 rfl) ?_
        refine on_goto (tk_X9_weakestCorner 25 rfl) (tgt := 12) (by decide) ?_
        refine on_dr5 ?_
        exact ih _ _ _ _ _
      · refine on_inc4 rfl (tk_X9_weakestCorner 24 rfl) ?_
        refine on_goto (tk_X9_weakestCorner 25 rfl) (tgt := 12) (by decide) ?_
        refine on_dr5 ?_
        exact ih _ _ _ _ _
    · refine on_il2 (tk_X9_weakestCorner 26 rfl) ?_
      exact on_iret (tk_X9_weakestCorner 27 rfl)
set_option maxRecDepth 100000 in
set_option maxHeartbeats 4000000 in
theorem ct_X9_weakestCorner {E : on_E} {z n : Nat} {b : Nat} {p0 : Int} (hN : 100 ≤ n) (hb : on_Sb n b) {σ : on_S} : on_Sp E yX9_weakestCorner cX9_weakestCorner 6 (some .int) 4 96 z n [.ref (z + b), .int (on_i p0)] σ (pf_X9_weakestCorner b p0 σ) := by
  refine on_met [some (.ref (z + b)), some (.int (on_i p0)), none, none, none, none] (by decide) rfl rfl (fun X => ?_)
  rw [pf_X9_weakestCorner]
  refine on_iconst (tk_X9_weakestCorner 0 rfl) ?_
  refine on_is2 rfl (tk_X9_weakestCorner 1 rfl) ?_
  refine on_al0 (tk_X9_weakestCorner 2 rfl) ?_
  refine on_il1 (tk_X9_weakestCorner 3 rfl) ?_
  refine on_iconst (tk_X9_weakestCorner 4 rfl) ?_
  refine on_cV2i 9 ms_X9_holdNow kw_4_95 rfl rfl (ltS_0 hb) (shS_0 hb) (ct_X9_holdNow hN hb) rfl (tk_X9_weakestCorner 5 rfl) fun v1 σ2 => ?_
  refine on_is3 rfl (tk_X9_weakestCorner 6 rfl) ?_
  refine on_iconst (tk_X9_weakestCorner 7 rfl) ?_
  refine on_is4 rfl (tk_X9_weakestCorner 8 rfl) ?_
  exact gl_X9_weakestCorner_12 X _ hN hb on_N _ _ _ _ _
def tb_X9_placeOf : List (Nat × Nat × Nat × Instr) := [(0, 1, 1, .aload_n 0), (1, 3, 4, .getfield 36), (4, 3, 7, .getfield 180), (7, 1, 8, .iload_n 1), (8, 1, 9, .iaload), (9, 1, 10, .iconst (-1)), (10, 3, 13, .if_icmp .ne 7), (13, 1, 14, .iconst (-1)), (14, 3, 17, .goto 25), (17, 2, 19, .bipush 10), (19, 1, 20, .aload_n 0), (20, 3, 23, .getfield 36), (23, 3, 26, .getfield 180), (26, 1, 27, .iload_n 1), (27, 1, 28, .iaload), (28, 1, 29, .imul), (29, 1, 30, .aload_n 0), (30, 3, 33, .getfield 36), (33, 3, 36, .getfield 183), (36, 1, 37, .iload_n 1), (37, 1, 38, .iaload), (38, 1, 39, .iadd), (39, 1, 40, .ireturn)]
set_option maxRecDepth 100000 in
theorem tk_X9_placeOf (k : Nat) {pc n pc2 : Nat} {i : Instr} (hk : tb_X9_placeOf[k]? = some (pc, n, pc2, i)) : on_dq cX9_placeOf pc n pc2 i := on_ta (by decide +kernel) k hk
theorem ms_X9_placeOf : on_Mv yX9_placeOf cX9_placeOf 2 (some .int) 1 := ⟨kw_4_188, kw_4_186, kw_4_187, kw_1_2, by decide, by decide, by decide +kernel⟩
def pf_X9_placeOf (b : Nat) (p0 : Int) (σ : on_S) : Option on_O :=
  on_Rd σ (b + 11) 9 p0 fun v1 =>
  on_Eq v1 (-1) (
    some ((-1), σ)) (
    on_Rd σ (b + 11) 9 p0 fun v2 =>
    on_Rd σ (b + 12) 9 p0 fun v3 =>
    some (((10 * v2) + v3), σ))
set_option maxRecDepth 100000 in
set_option maxHeartbeats 4000000 in
theorem ct_X9_placeOf {E : on_E} {z n : Nat} {b : Nat} {p0 : Int} (hN : 100 ≤ n) (hb : on_Sb n b) {σ : on_S} : on_Sp E yX9_placeOf cX9_placeOf 2 (some .int) 0 0 z n [.ref (z + b), .int (on_i p0)] σ (pf_X9_placeOf b p0 σ) := by
  refine on_met [some (.ref (z + b)), some (.int (on_i p0))] (by decide) rfl rfl (fun X => ?_)
  rw [pf_X9_placeOf]
  refine on_al0 (tk_X9_placeOf 0 rfl) ?_
  refine fg_9_12 hb kw_1_185 (tk_X9_placeOf 1 rfl) ?_
  refine fg_3_3 hb kw_1_59 (tk_X9_placeOf 2 rfl) ?_
  refine on_il1 (tk_X9_placeOf 3 rfl) ?_
  refine on_iald (ltS_11 hb) (shS_11 hb) (tk_X9_placeOf 4 rfl) fun v1 => ?_
  refine on_iconst (tk_X9_placeOf 5 rfl) ?_
  refine on_icmp_ne (tk_X9_placeOf 6 rfl) (tgt := 17) (by decide) ?_ ?_
  · refine on_iconst (tk_X9_placeOf 7 rfl) ?_
    refine on_goto (tk_X9_placeOf 8 rfl) (tgt := 39) (by decide) ?_
    exact on_iret (tk_X9_placeOf 22 rfl)
  · refine on_bipush (tk_X9_placeOf 9 rfl) bp_10 ?_
    refine on_al0 (tk_X9_placeOf 10 rfl) ?_
    refine fg_9_12 hb kw_1_185 (tk_X9_placeOf 11 rfl) ?_
    refine fg_3_3 hb kw_1_59 (tk_X9_placeOf 12 rfl) ?_
    refine on_il1 (tk_X9_placeOf 13 rfl) ?_
    refine on_iald (ltS_11 hb) (shS_11 hb) (tk_X9_placeOf 14 rfl) fun v2 => ?_
    refine on_imul (tk_X9_placeOf 15 rfl) ?_
    refine on_al0 (tk_X9_placeOf 16 rfl) ?_
    refine fg_9_12 hb kw_1_185 (tk_X9_placeOf 17 rfl) ?_
    refine fg_3_4 hb kw_1_62 (tk_X9_placeOf 18 rfl) ?_
    refine on_il1 (tk_X9_placeOf 19 rfl) ?_
    refine on_iald (ltS_12 hb) (shS_12 hb) (tk_X9_placeOf 20 rfl) fun v3 => ?_
    refine on_iadd (tk_X9_placeOf 21 rfl) ?_
    exact on_iret (tk_X9_placeOf 22 rfl)
def tb_X9_takeAway : List (Nat × Nat × Nat × Instr) := [(0, 1, 1, .aload_n 0), (1, 3, 4, .getfield 36), (4, 3, 7, .getfield 180), (7, 1, 8, .iload_n 1), (8, 1, 9, .iaload), (9, 1, 10, .iconst (-1)), (10, 3, 13, .if_icmp .eq 33), (13, 1, 14, .aload_n 0), (14, 3, 17, .getfield 43), (17, 3, 20, .getfield 128), (20, 1, 21, .aload_n 0), (21, 3, 24, .getfield 36), (24, 3, 27, .getfield 180), (27, 1, 28, .iload_n 1), (28, 1, 29, .iaload), (29, 1, 30, .iconst 4), (30, 1, 31, .imul), (31, 1, 32, .aload_n 0), (32, 3, 35, .getfield 36), (35, 3, 38, .getfield 183), (38, 1, 39, .iload_n 1), (39, 1, 40, .iaload), (40, 1, 41, .iadd), (41, 1, 42, .iconst (-1)), (42, 1, 43, .iastore), (43, 1, 44, .aload_n 0), (44, 3, 47, .getfield 36), (47, 3, 50, .getfield 180), (50, 1, 51, .iload_n 1), (51, 1, 52, .iconst (-1)), (52, 1, 53, .iastore), (53, 1, 54, .aload_n 0), (54, 3, 57, .getfield 36), (57, 3, 60, .getfield 183), (60, 1, 61, .iload_n 1), (61, 1, 62, .iconst (-1)), (62, 1, 63, .iastore), (63, 1, 64, .return_)]
set_option maxRecDepth 100000 in
theorem tk_X9_takeAway (k : Nat) {pc n pc2 : Nat} {i : Instr} (hk : tb_X9_takeAway[k]? = some (pc, n, pc2, i)) : on_dq cX9_takeAway pc n pc2 i := on_ta (by decide +kernel) k hk
theorem ms_X9_takeAway : on_Mv yX9_takeAway cX9_takeAway 2 none 1 := ⟨kw_4_192, kw_4_190, kw_4_191, kw_1_2, by decide, by decide, by decide +kernel⟩
def pf_X9_takeAway_43 (b : Nat) (l1 : Int) (σ : on_S) : Option on_O :=
  on_Wr σ (b + 11) 9 l1 (-1) fun σ5 =>
  on_Wr σ5 (b + 12) 9 l1 (-1) fun σ6 =>
  some (0, σ6)
def pf_X9_takeAway (b : Nat) (p0 : Int) (σ : on_S) : Option on_O :=
  on_Rd σ (b + 11) 9 p0 fun v1 =>
  on_Eq v1 (-1) (
    pf_X9_takeAway_43 b p0 σ) (
    on_Rd σ (b + 11) 9 p0 fun v2 =>
    on_Rd σ (b + 12) 9 p0 fun v3 =>
    on_Wr σ (b + 19) 8 ((v2 * 4) + v3) (-1) fun σ4 =>
    pf_X9_takeAway_43 b p0 σ4)
set_option maxRecDepth 100000 in
set_option maxHeartbeats 4000000 in
theorem gb_X9_takeAway_43 {E : on_E} {z n : Nat} (X : on_X) (b : Nat) (hN : 100 ≤ n) (hb : on_Sb n b) (l1 : Int) (σ : on_S) : on_G X E cX9_takeAway RX9 none 0 0 2 z n σ (pf_X9_takeAway_43 b l1 σ) 43 [some (.ref (z + b)), some (.int (on_i l1))] [] := by
  rw [pf_X9_takeAway_43]
  refine on_al0 (tk_X9_takeAway 25 rfl) ?_
  refine fg_9_12 hb kw_1_185 (tk_X9_takeAway 26 rfl) ?_
  refine fg_3_3 hb kw_1_59 (tk_X9_takeAway 27 rfl) ?_
  refine on_il1 (tk_X9_takeAway 28 rfl) ?_
  refine on_iconst (tk_X9_takeAway 29 rfl) ?_
  refine on_iast (ltS_11 hb) (shS_11 hb) (tk_X9_takeAway 30 rfl) fun σ5 => ?_
  refine on_al0 (tk_X9_takeAway 31 rfl) ?_
  refine fg_9_12 hb kw_1_185 (tk_X9_takeAway 32 rfl) ?_
  refine fg_3_4 hb kw_1_62 (tk_X9_takeAway 33 rfl) ?_
  refine on_il1 (tk_X9_takeAway 34 rfl) ?_
  refine on_iconst (tk_X9_takeAway 35 rfl) ?_
  refine on_iast (ltS_12 hb) (shS_12 hb) (tk_X9_takeAway 36 rfl) fun σ6 => ?_
  exact on_vret (tk_X9_takeAway 37 rfl)
set_option maxRecDepth 100000 in
set_option maxHeartbeats 4000000 in
theorem ct_X9_takeAway {E : on_E} {z n : Nat} {b : Nat} {p0 : Int} (hN : 100 ≤ n) (hb : on_Sb n b) {σ : on_S} : on_Sp E yX9_takeAway cX9_takeAway 2 none 0 0 z n [.ref (z + b), .int (on_i p0)] σ (pf_X9_takeAway b p0 σ) := by
  refine on_met [some (.ref (z + b)), some (.int (on_i p0))] (by decide) rfl rfl (fun X => ?_)
  rw [pf_X9_takeAway]
  refine on_al0 (tk_X9_takeAway 0 rfl) ?_
  refine fg_9_12 hb kw_1_185 (tk_X9_takeAway 1 rfl) ?_
  refine fg_3_3 hb kw_1_59 (tk_X9_takeAway 2 rfl) ?_
  refine on_il1 (tk_X9_takeAway 3 rfl) ?_
  refine on_iald (ltS_11 hb) (shS_11 hb) (tk_X9_takeAway 4 rfl) fun v1 => ?_
  refine on_iconst (tk_X9_takeAway 5 rfl) ?_
  refine on_icmp_eq (tk_X9_takeAway 6 rfl) (tgt := 43) (by decide) ?_ ?_
  · refine on_al0 (tk_X9_takeAway 7 rfl) ?_
    refine fg_9_13 hb kw_1_190 (tk_X9_takeAway 8 rfl) ?_
    refine fg_4_5 hb kw_1_114 (tk_X9_takeAway 9 rfl) ?_
    refine on_al0 (tk_X9_takeAway 10 rfl) ?_
    refine fg_9_12 hb kw_1_185 (tk_X9_takeAway 11 rfl) ?_
    refine fg_3_3 hb kw_1_59 (tk_X9_takeAway 12 rfl) ?_
    refine on_il1 (tk_X9_takeAway 13 rfl) ?_
    refine on_iald (ltS_11 hb) (shS_11 hb) (tk_X9_takeAway 14 rfl) fun v2 => ?_
    refine on_iconst (tk_X9_takeAway 15 rfl) ?_
    refine on_imul (tk_X9_takeAway 16 rfl) ?_
    refine on_al0 (tk_X9_takeAway 17 rfl) ?_
    refine fg_9_12 hb kw_1_185 (tk_X9_takeAway 18 rfl) ?_
    refine fg_3_4 hb kw_1_62 (tk_X9_takeAway 19 rfl) ?_
    refine on_il1 (tk_X9_takeAway 20 rfl) ?_
    refine on_iald (ltS_12 hb) (shS_12 hb) (tk_X9_takeAway 21 rfl) fun v3 => ?_
    refine on_iadd (tk_X9_takeAway 22 rfl) ?_
    refine on_iconst (tk_X9_takeAway 23 rfl) ?_
    refine on_iast (ltS_19 hb) (shS_19 hb) (tk_X9_takeAway 24 rfl) fun σ4 => ?_
    exact gb_X9_takeAway_43 X _ hN hb _ _
  · exact gb_X9_takeAway_43 X _ hN hb _ _
def tb_X9_swapPlaces : List (Nat × Nat × Nat × Instr) := [(0, 1, 1, .aload_n 0), (1, 3, 4, .getfield 36), (4, 3, 7, .getfield 180), (7, 1, 8, .iload_n 1), (8, 1, 9, .iaload), (9, 1, 10, .istore_n 3), (10, 1, 11, .aload_n 0), (11, 3, 14, .getfield 36), (14, 3, 17, .getfield 183), (17, 1, 18, .iload_n 1), (18, 1, 19, .iaload), (19, 2, 21, .istore 4), (21, 1, 22, .aload_n 0), (22, 3, 25, .getfield 36), (25, 3, 28, .getfield 180), (28, 1, 29, .iload_n 2), (29, 1, 30, .iaload), (30, 2, 32, .istore 5), (32, 1, 33, .aload_n 0), (33, 3, 36, .getfield 36), (36, 3, 39, .getfield 183), (39, 1, 40, .iload_n 2), (40, 1, 41, .iaload), (41, 2, 43, .istore 6), (43, 1, 44, .aload_n 0), (44, 1, 45, .iload_n 1), (45, 3, 48, .invokevirtual 186), (48, 1, 49, .aload_n 0), (49, 1, 50, .iload_n 2), (50, 3, 53, .invokevirtual 186), (53, 2, 55, .iload 5), (55, 1, 56, .iconst (-1)), (56, 3, 59, .if_icmp .eq 12), (59, 1, 60, .aload_n 0), (60, 1, 61, .iload_n 1), (61, 2, 63, .iload 5), (63, 2, 65, .iload 6), (65, 3, 68, .invokevirtual 190), (68, 1, 69, .iload_n 3), (69, 1, 70, .iconst (-1)), (70, 3, 73, .if_icmp .eq 11), (73, 1, 74, .aload_n 0), (74, 1, 75, .iload_n 2), (75, 1, 76, .iload_n 3), (76, 2, 78, .iload 4), (78, 3, 81, .invokevirtual 190), (81, 1, 82, .return_)]
set_option maxRecDepth 100000 in
theorem tk_X9_swapPlaces (k : Nat) {pc n pc2 : Nat} {i : Instr} (hk : tb_X9_swapPlaces[k]? = some (pc, n, pc2, i)) : on_dq cX9_swapPlaces pc n pc2 i := on_ta (by decide +kernel) k hk
theorem ms_X9_swapPlaces : on_Mv yX9_swapPlaces cX9_swapPlaces 7 none 2 := ⟨kw_4_201, kw_4_199, kw_4_200, kw_1_2, by decide, by decide, by decide +kernel⟩
def pf_X9_swapPlaces_68 (b : Nat) (l2 : Int) (l3 : Int) (l4 : Int) (σ : on_S) : Option on_O :=
  on_Eq l3 (-1) (
    some (0, σ)) (
    on_Cl (pf_X9_putAt b l2 l3 l4 σ) fun _ σ12 =>
    some (0, σ12))
def pf_X9_swapPlaces (b : Nat) (p0 : Int) (p1 : Int) (σ : on_S) : Option on_O :=
  on_Rd σ (b + 11) 9 p0 fun v1 =>
  on_Rd σ (b + 12) 9 p0 fun v2 =>
  on_Rd σ (b + 11) 9 p1 fun v3 =>
  on_Rd σ (b + 12) 9 p1 fun v4 =>
  on_Cl (pf_X9_takeAway b p0 σ) fun _ σ6 =>
  on_Cl (pf_X9_takeAway b p1 σ6) fun _ σ8 =>
  on_Eq v3 (-1) (
    pf_X9_swapPlaces_68 b p1 v1 v2 σ8) (
    on_Cl (pf_X9_putAt b p0 v3 v4 σ8) fun _ σ10 =>
    pf_X9_swapPlaces_68 b p1 v1 v2 σ10)
set_option maxRecDepth 100000 in
set_option maxHeartbeats 4000000 in
theorem gb_X9_swapPlaces_68 {E : on_E} {z n : Nat} (X : on_X) (b : Nat) (hN : 100 ≤ n) (hb : on_Sb n b) (l2 : Int) (l3 : Int) (l4 : Int) (σ : on_S) : on_G X E cX9_swapPlaces RX9 none 1 23 7 z n σ (pf_X9_swapPlaces_68 b l2 l3 l4 σ) 68 [some (.ref (z + b)), none, some (.int (on_i l2)), some (.int (on_i l3)), some (.int (on_i l4)), none, none] [] := by
  rw [pf_X9_swapPlaces_68]
  refine on_il3 (tk_X9_swapPlaces 38 rfl) ?_
  refine on_iconst (tk_X9_swapPlaces 39 rfl) ?_
  refine on_icmp_eq (tk_X9_swapPlaces 40 rfl) (tgt := 81) (by decide) ?_ ?_
  · refine on_al0 (tk_X9_swapPlaces 41 rfl) ?_
    refine on_il2 (tk_X9_swapPlaces 42 rfl) ?_
    refine on_il3 (tk_X9_swapPlaces 43 rfl) ?_
    refine on_il4 (tk_X9_swapPlaces 44 rfl) ?_
    refine on_cV3v 9 ms_X9_putAt kw_4_203 rfl rfl (ltS_0 hb) (shS_0 hb) (ct_X9_putAt hN hb) rfl (tk_X9_swapPlaces 45 rfl) fun v11 σ12 => ?_
    exact on_vret (tk_X9_swapPlaces 46 rfl)
  · exact on_vret (tk_X9_swapPlaces 46 rfl)
set_option maxRecDepth 100000 in
set_option maxHeartbeats 4000000 in
theorem ct_X9_swapPlaces {E : on_E} {z n : Nat} {b : Nat} {p0 : Int} {p1 : Int} (hN : 100 ≤ n) (hb : on_Sb n b) {σ : on_S} : on_Sp E yX9_swapPlaces cX9_swapPlaces 7 none 1 23 z n [.ref (z + b), .int (on_i p0), .int (on_i p1)] σ (pf_X9_swapPlaces b p0 p1 σ) := by
  refine on_met [some (.ref (z + b)), some (.int (on_i p0)), some (.int (on_i p1)), none, none, none, none] (by decide) rfl rfl (fun X => ?_)
  rw [pf_X9_swapPlaces]
  refine on_al0 (tk_X9_swapPlaces 0 rfl) ?_
  refine fg_9_12 hb kw_1_185 (tk_X9_swapPlaces 1 rfl) ?_
  refine fg_3_3 hb kw_1_59 (tk_X9_swapPlaces 2 rfl) ?_
  refine on_il1 (tk_X9_swapPlaces 3 rfl) ?_
  refine on_iald (ltS_11 hb) (shS_11 hb) (tk_X9_swapPlaces 4 rfl) fun v1 => ?_
  refine on_is3 rfl (tk_X9_swapPlaces 5 rfl) ?_
  refine on_al0 (tk_X9_swapPlaces 6 rfl) ?_
  refine fg_9_12 hb kw_1_185 (tk_X9_swapPlaces 7 rfl) ?_
  refine fg_3_4 hb kw_1_62 (tk_X9_swapPlaces 8 rfl) ?_
  refine on_il1 (tk_X9_swapPlaces 9 rfl) ?_
  refine on_iald (ltS_12 hb) (shS_12 hb) (tk_X9_swapPlaces 10 rfl) fun v2 => ?_
  refine on_is4 rfl (tk_X9_swapPlaces 11 rfl) ?_
  refine on_al0 (tk_X9_swapPlaces 12 rfl) ?_
  refine fg_9_12 hb kw_1_185 (tk_X9_swapPlaces 13 rfl) ?_
  refine fg_3_3 hb kw_1_59 (tk_X9_swapPlaces 14 rfl) ?_
  refine on_il2 (tk_X9_swapPlaces 15 rfl) ?_
  refine on_iald (ltS_11 hb) (shS_11 hb) (tk_X9_swapPlaces 16 rfl) fun v3 => ?_
  refine on_is5 rfl (tk_X9_swapPlaces 17 rfl) ?_
  refine on_al0 (tk_X9_swapPlaces 18 rfl) ?_
  refine fg_9_12 hb kw_1_185 (tk_X9_swapPlaces 19 rfl) ?_
  refine fg_3_4 hb kw_1_62 (tk_X9_swapPlaces 20 rfl) ?_
  refine on_il2 (tk_X9_swapPlaces 21 rfl) ?_
  refine on_iald (ltS_12 hb) (shS_12 hb) (tk_X9_swapPlaces 22 rfl) fun v4 => ?_
  refine on_is6 rfl (tk_X9_swapPlaces 23 rfl) ?_
  refine on_al0 (tk_X9_swapPlaces 24 rfl) ?_
  refine on_il1 (tk_X9_swapPlaces 25 rfl) ?_
  refine on_cV1v 9 ms_X9_takeAway kw_4_202 rfl rfl (ltS_0 hb) (shS_0 hb) (ct_X9_takeAway hN hb) rfl (tk_X9_swapPlaces 26 rfl) fun v5 σ6 => ?_
  refine on_al0 (tk_X9_swapPlaces 27 rfl) ?_
  refine on_il2 (tk_X9_swapPlaces 28 rfl) ?_
  refine on_cV1v 9 ms_X9_takeAway kw_4_202 rfl rfl (ltS_0 hb) (shS_0 hb) (ct_X9_takeAway hN hb) rfl (tk_X9_swapPlaces 29 rfl) fun v7 σ8 => ?_
  refine on_il5 (tk_X9_swapPlaces 30 rfl) ?_
  refine on_iconst (tk_X9_swapPlaces 31 rfl) ?_
  refine on_icmp_eq (tk_X9_swapPlaces 32 rfl) (tgt := 68) (by decide) ?_ ?_
  · refine on_al0 (tk_X9_swapPlaces 33 rfl) ?_
    refine on_il1 (tk_X9_swapPlaces 34 rfl) ?_
    refine on_il5 (tk_X9_swapPlaces 35 rfl) ?_
    refine on_il6 (tk_X9_swapPlaces 36 rfl) ?_
    refine on_cV3v 9 ms_X9_putAt kw_4_203 rfl rfl (ltS_0 hb) (shS_0 hb) (ct_X9_putAt hN hb) rfl (tk_X9_swapPlaces 37 rfl) fun v9 σ10 => ?_
    refine on_dr1 ?_
    refine on_dr5 ?_
    refine on_dr6 ?_
    exact gb_X9_swapPlaces_68 X _ hN hb _ _ _ _
  · refine on_dr1 ?_
    refine on_dr5 ?_
    refine on_dr6 ?_
    exact gb_X9_swapPlaces_68 X _ hN hb _ _ _ _
def tb_X9_cornersOf : List (Nat × Nat × Nat × Instr) := [(0, 1, 1, .iconst 0), (1, 1, 2, .istore_n 2), (2, 1, 3, .iconst 0), (3, 1, 4, .istore_n 3), (4, 1, 5, .iload_n 3), (5, 1, 6, .aload_n 0), (6, 3, 9, .getfield 36), (9, 3, 12, .getfield 106), (12, 3, 15, .if_icmp .ge 38), (15, 1, 16, .aload_n 0), (16, 3, 19, .getfield 36), (19, 3, 22, .getfield 127), (22, 1, 23, .iload_n 3), (23, 1, 24, .iaload), (24, 1, 25, .iload_n 1), (25, 3, 28, .if_icmp .ne 19), (28, 1, 29, .aload_n 0), (29, 3, 32, .getfield 36), (32, 3, 35, .getfield 180), (35, 1, 36, .iload_n 3), (36, 1, 37, .iaload), (37, 1, 38, .iconst (-1)), (38, 3, 41, .if_icmp .eq 6), (41, 3, 44, .iinc 2 1), (44, 3, 47, .iinc 3 1), (47, 3, 50, .goto (-43)), (50, 1, 51, .iload_n 2), (51, 1, 52, .ireturn)]
set_option maxRecDepth 100000 in
theorem tk_X9_cornersOf (k : Nat) {pc n pc2 : Nat} {i : Instr} (hk : tb_X9_cornersOf[k]? = some (pc, n, pc2, i)) : on_dq cX9_cornersOf pc n pc2 i := on_ta (by decide +kernel) k hk
theorem ms_X9_cornersOf : on_Mv yX9_cornersOf cX9_cornersOf 4 (some .int) 1 := ⟨kw_6_12, kw_6_10, kw_6_11, kw_1_2, by decide, by decide, by decide +kernel⟩
def pf_X9_cornersOf_4 (b : Nat) : Nat → Int → Int → Int → on_S → Option on_O
  | 0, _, _, _, _ => none
  | nf + 1, l1, l2, l3, σ =>
    on_Gt σ (b + 8) 0 fun v1 =>
    on_Lt l3 v1 (
      on_Rd σ (b + 9) 9 l3 fun v2 =>
      on_Eq v2 l1 (
        on_Rd σ (b + 11) 9 l3 fun v3 =>
        on_Eq v3 (-1) (
          pf_X9_cornersOf_4 b nf l1 l2 (l3 + 1) σ) (
          pf_X9_cornersOf_4 b nf l1 (l2 + 1) (l3 + 1) σ)) (
        pf_X9_cornersOf_4 b nf l1 l2 (l3 + 1) σ)) (
      some (l2, σ))
def pf_X9_cornersOf (b : Nat) (p0 : Int) (σ : on_S) : Option on_O :=
  pf_X9_cornersOf_4 b on_N p0 0 0 σ
set_option maxRecDepth 100000 in
set_option maxHeartbeats 4000000 in
theorem gl_X9_cornersOf_4 {E : on_E} {z n : Nat} (X : on_X) (b : Nat) (hN : 100 ≤ n) (hb : on_Sb n b) : ∀ (nf : Nat) (l1 : Int) (l2 : Int) (l3 : Int) (σ : on_S), on_G X E cX9_cornersOf RX9 (some .int) 0 0 4 z n σ (pf_X9_cornersOf_4 b nf l1 l2 l3 σ) 4 [some (.ref (z + b)), some (.int (on_i l1)), some (.int (on_i l2)), some (.int (on_i l3))] [] := by
  intro nf
  induction nf with
  | zero => intro l1 l2 l3 σ; exact on_none
  | succ nf ih =>
    intro l1 l2 l3 σ
    rw [pf_X9_cornersOf_4]
    refine on_il3 (tk_X9_cornersOf 4 rfl) ?_
    refine on_al0 (tk_X9_cornersOf 5 rfl) ?_
    refine fg_9_12 hb kw_1_185 (tk_X9_cornersOf 6 rfl) ?_
    refine fg_3_0 hb kw_1_45 (tk_X9_cornersOf 7 rfl) fun v1 => ?_
    refine on_icmp_ge (tk_X9_cornersOf 8 rfl) (tgt := 50) (by decide) ?_ ?_
    · refine on_al0 (tk_X9_cornersOf 9 rfl) ?_
      refine fg_9_12 hb kw_1_185 (tk_X9_cornersOf 10 rfl) ?_
      refine fg_3_1 hb kw_1_51 (tk_X9_cornersOf 11 rfl) ?_
      refine on_il3 (tk_X9_cornersOf 12 rfl) ?_
      refine on_iald (ltS_9 hb) (shS_9 hb) (tk_X9_cornersOf 13 rfl) fun v2 => ?_
      refine on_il1 (tk_X9_cornersOf 14 rfl) ?_
      refine on_icmp_ne (tk_X9_cornersOf 15 rfl) (tgt := 44) (by decide) ?_ ?_
      · refine on_al0 (tk_X9_cornersOf 16 rfl) ?_
        refine fg_9_12 hb kw_1_185 (tk_X9_cornersOf 17 rfl) ?_
        refine fg_3_3 hb kw_1_59 (tk_X9_cornersOf 18 rfl) ?_
        refine on_il3 (tk_X9_cornersOf 19 rfl) ?_
        refine on_iald (ltS_11 hb) (shS_11 hb) (tk_X9_cornersOf 20 rfl) fun v3 => ?_
        refine on_iconst (tk_X9_cornersOf 21 rfl) ?_
        refine on_icmp_eq (tk_X9_cornersOf 22 rfl) (tgt := 44) (by decide) ?_ ?_
        · refine on_inc2 rfl (tk_X9_cornersOf 23 rfl) ?_
          refine on_inc3 rfl (tk_X9_cornersOf 24 rfl) ?_
          refine on_goto (tk_X9_cornersOf 25 rfl) (tgt := 4) (by decide) ?_
          exact ih _ _ _ _
        · refine on_inc3 rfl (tk_X9_cornersOf 24 rfl) ?_
          refine on_goto (tk_X9_cornersOf 25 rfl) (tgt := 4) (by decide) ?_
          exact ih _ _ _ _
      · refine on_inc3 rfl (tk_X9_cornersOf 24 rfl) ?_
        refine on_goto (tk_X9_cornersOf 25 rfl) (tgt := 4) (by decide) ?_
        exact ih _ _ _ _
    · refine on_il2 (tk_X9_cornersOf 26 rfl) ?_
      exact on_iret (tk_X9_cornersOf 27 rfl)
set_option maxRecDepth 100000 in
set_option maxHeartbeats 4000000 in
theorem ct_X9_cornersOf {E : on_E} {z n : Nat} {b : Nat} {p0 : Int} (hN : 100 ≤ n) (hb : on_Sb n b) {σ : on_S} : on_Sp E yX9_cornersOf cX9_cornersOf 4 (some .int) 0 0 z n [.ref (z + b), .int (on_i p0)] σ (pf_X9_cornersOf b p0 σ) := by
  refine on_met [some (.ref (z + b)), some (.int (on_i p0)), none, none] (by decide) rfl rfl (fun X => ?_)
  rw [pf_X9_cornersOf]
  refine on_iconst (tk_X9_cornersOf 0 rfl) ?_
  refine on_is2 rfl (tk_X9_cornersOf 1 rfl) ?_
  refine on_iconst (tk_X9_cornersOf 2 rfl) ?_
  refine on_is3 rfl (tk_X9_cornersOf 3 rfl) ?_
  exact gl_X9_cornersOf_4 X _ hN hb on_N _ _ _ _
