def tb_X1_leaveEmpty : List (Nat × Nat × Nat × Instr) := [(0, 1, 1, .aload_n 0), (1, 3, 4, .getfield 11), (4, 1, 5, .iload_n 1), (5, 1, 6, .iconst 1), (6, 1, 7, .iastore), (7, 1, 8, .aload_n 0), (8, 3, 11, .getfield 15), (11, 1, 12, .iload_n 1), (12, 1, 13, .iconst 0), (13, 1, 14, .iastore), (14, 1, 15, .aload_n 0), (15, 3, 18, .getfield 18), (18, 1, 19, .iload_n 1), (19, 1, 20, .iconst (-1)), (20, 1, 21, .iastore), (21, 1, 22, .return_)]
set_option maxRecDepth 100000 in
theorem tk_X1_leaveEmpty (k : Nat) {pc n pc2 : Nat} {i : Instr} (hk : tb_X1_leaveEmpty[k]? = some (pc, n, pc2, i)) : on_dq cX1_leaveEmpty pc n pc2 i := on_ta (by decide +kernel) k hk
theorem ms_X1_leaveEmpty : on_Mv yX1_leaveEmpty cX1_leaveEmpty 2 none 1 := ⟨kw_5_32, kw_5_30, kw_5_31, kw_1_8, by decide, by decide, by decide +kernel⟩
def pf_X1_leaveEmpty (p0 : Int) (σ : on_S) : Option on_O :=
  on_Wr σ 60 1024 p0 1 fun σ1 =>
  on_Wr σ1 61 1024 p0 0 fun σ2 =>
  on_Wr σ2 62 1024 p0 (-1) fun σ3 =>
  some (0, σ3)
set_option maxRecDepth 100000 in
set_option maxHeartbeats 4000000 in
theorem ct_X1_leaveEmpty {E : on_E} {z n : Nat} {p0 : Int} (hN : 100 ≤ n) {σ : on_S} : on_Sp E yX1_leaveEmpty cX1_leaveEmpty 2 none 0 0 z n [.ref (z + 59), .int (on_i p0)] σ (pf_X1_leaveEmpty p0 σ) := by
  refine on_met [some (.ref (z + 59)), some (.int (on_i p0))] (by decide) rfl rfl (fun X => ?_)
  rw [pf_X1_leaveEmpty]
  refine on_al0 (tk_X1_leaveEmpty 0 rfl) ?_
  refine fg_1_2 hN kw_2_69 (tk_X1_leaveEmpty 1 rfl) ?_
  refine on_il1 (tk_X1_leaveEmpty 2 rfl) ?_
  refine on_iconst (tk_X1_leaveEmpty 3 rfl) ?_
  refine on_iast (ltc_60 hN) sh_60 (tk_X1_leaveEmpty 4 rfl) fun σ1 => ?_
  refine on_al0 (tk_X1_leaveEmpty 5 rfl) ?_
  refine fg_1_3 hN kw_2_70 (tk_X1_leaveEmpty 6 rfl) ?_
  refine on_il1 (tk_X1_leaveEmpty 7 rfl) ?_
  refine on_iconst (tk_X1_leaveEmpty 8 rfl) ?_
  refine on_iast (ltc_61 hN) sh_61 (tk_X1_leaveEmpty 9 rfl) fun σ2 => ?_
  refine on_al0 (tk_X1_leaveEmpty 10 rfl) ?_
  refine fg_1_4 hN kw_2_71 (tk_X1_leaveEmpty 11 rfl) ?_
  refine on_il1 (tk_X1_leaveEmpty 12 rfl) ?_
  refine on_iconst (tk_X1_leaveEmpty 13 rfl) ?_
  refine on_iast (ltc_62 hN) sh_62 (tk_X1_leaveEmpty 14 rfl) fun σ3 => ?_
  exact on_vret (tk_X1_leaveEmpty 15 rfl)
def tb_X7_prepare : List (Nat × Nat × Nat × Instr) := [(0, 1, 1, .iconst 0), (1, 1, 2, .istore_n 3), (2, 1, 3, .iload_n 3), (3, 1, 4, .aload_n 0), (4, 3, 7, .getfield 21), (7, 3, 10, .getfield 25), (10, 3, 13, .getfield 31), (13, 3, 16, .if_icmp .ge 43), (16, 1, 17, .aload_n 0), (17, 3, 20, .getfield 15), (20, 1, 21, .iload_n 3), (21, 1, 22, .aload_n 0), (22, 3, 25, .getfield 21), (25, 1, 26, .iload_n 3), (26, 1, 27, .iload_n 2), (27, 3, 30, .invokevirtual 37), (30, 3, 33, .ifCond .eq 18), (33, 1, 34, .aload_n 0), (34, 3, 37, .getfield 21), (37, 3, 40, .getfield 25), (40, 3, 43, .getfield 41), (43, 1, 44, .iload_n 3), (44, 1, 45, .iaload), (45, 3, 48, .goto 4), (48, 1, 49, .iconst 0), (49, 1, 50, .iastore), (50, 3, 53, .iinc 3 1), (53, 3, 56, .goto (-51)), (56, 1, 57, .aload_n 0), (57, 2, 59, .bipush 99), (59, 3, 62, .putfield 44), (62, 1, 63, .iconst 0), (63, 1, 64, .istore_n 3), (64, 1, 65, .iload_n 3), (65, 1, 66, .iconst 4), (66, 3, 69, .if_icmp .ge 44), (69, 1, 70, .aload_n 0), (70, 1, 71, .aload_n 0), (71, 3, 74, .getfield 44), (74, 1, 75, .aload_n 0), (75, 3, 78, .getfield 21), (78, 3, 81, .getfield 47), (81, 1, 82, .iload_n 1), (82, 1, 83, .iload_n 3), (83, 1, 84, .aload_n 0), (84, 3, 87, .getfield 21), (87, 3, 90, .getfield 47), (90, 3, 93, .getfield 51), (93, 1, 94, .iload_n 1), (94, 1, 95, .iaload), (95, 3, 98, .invokevirtual 56), (98, 3, 101, .invokestatic 60), (101, 3, 104, .putfield 44), (104, 3, 107, .iinc 3 1), (107, 3, 110, .goto (-43)), (110, 1, 111, .return_)]
set_option maxRecDepth 100000 in
theorem tk_X7_prepare (k : Nat) {pc n pc2 : Nat} {i : Instr} (hk : tb_X7_prepare[k]? = some (pc, n, pc2, i)) : on_dq cX7_prepare pc n pc2 i := on_ta (by decide +kernel) k hk
theorem ms_X7_prepare : on_Mv yX7_prepare cX7_prepare 4 none 2 := ⟨kw_4_215, kw_4_213, kw_4_214, kw_1_7, by decide, by decide, by decide +kernel⟩
def pf_X7_prepare_49 (k2 : Int → Int → Int → on_S → Option on_O) (l1 : Int) (l2 : Int) (l3 : Int) (s1 : Int) (s2 : Int) (σ : on_S) : Option on_O :=
  on_Wr σ 57 9 s1 s2 fun σ5 =>
  k2 l1 l2 (l3 + 1) σ5
def pf_X7_prepare_64 : Nat → Int → Int → on_S → Option on_O
  | 0, _, _, _ => none
  | nf + 1, l1, l3, σ =>
    on_Lt l3 4 (
      on_Gt σ 55 4 fun v7 =>
      on_Rd σ (2 + 17) 2 l1 fun v8 =>
      on_Cl (pf_X4_knotIf 2 l1 l3 v8 σ) fun v9 σ10 =>
      on_Mn v7 v9 fun v11 =>
      on_Pt σ10 55 4 v11 fun σ12 =>
      pf_X7_prepare_64 nf l1 (l3 + 1) σ12) (
      some (0, σ))
def pf_X7_prepare_2 : Nat → Int → Int → Int → on_S → Option on_O
  | 0, _, _, _, _ => none
  | nf + 1, l1, l2, l3, σ =>
    on_Gt σ (2 + 8) 0 fun v1 =>
    on_Lt l3 v1 (
      on_Cl (pf_X9_willHold 2 l3 l2 σ) fun v2 σ3 =>
      on_Eq v2 0 (
        pf_X7_prepare_49 (pf_X7_prepare_2 nf) l1 l2 l3 l3 0 σ3) (
        on_Rd σ3 (2 + 10) 9 l3 fun v4 =>
        pf_X7_prepare_49 (pf_X7_prepare_2 nf) l1 l2 l3 l3 v4 σ3)) (
      on_Pt σ 55 4 99 fun σ6 =>
      pf_X7_prepare_64 on_N l1 0 σ6)
def pf_X7_prepare (p0 : Int) (p1 : Int) (σ : on_S) : Option on_O :=
  pf_X7_prepare_2 on_N p0 p1 0 σ
set_option maxRecDepth 100000 in
set_option maxHeartbeats 4000000 in
theorem gb_X7_prepare_49 {E : on_E} {z n : Nat} (X : on_X) (k2 : Int → Int → Int → on_S → Option on_O) (hN : 100 ≤ n) (hk2 : ∀ (l1 : Int) (l2 : Int) (l3 : Int) (σ : on_S), on_G X E cX7_prepare RX7 none 1 24 4 z n σ (k2 l1 l2 l3 σ) 2 [some (.ref (z + 55)), some (.int (on_i l1)), some (.int (on_i l2)), some (.int (on_i l3))] []) (l1 : Int) (l2 : Int) (l3 : Int) (s1 : Int) (s2 : Int) (σ : on_S) : on_G X E cX7_prepare RX7 none 1 24 4 z n σ (pf_X7_prepare_49 k2 l1 l2 l3 s1 s2 σ) 49 [some (.ref (z + 55)), some (.int (on_i l1)), some (.int (on_i l2)), some (.int (on_i l3))] [.int (on_i s2), .int (on_i s1), .ref (z + 57)] := by
  rw [pf_X7_prepare_49]
  refine on_iast (ltc_57 hN) sh_57 (tk_X7_prepare 25 rfl) fun σ5 => ?_
  refine on_inc3 rfl (tk_X7_prepare 26 rfl) ?_
  refine on_goto (tk_X7_prepare 27 rfl) (tgt := 2) (by decide) ?_
  exact hk2 _ _ _ _
set_option maxRecDepth 100000 in
set_option maxHeartbeats 4000000 in
theorem gl_X7_prepare_64 {E : on_E} {z n : Nat} (X : on_X) (hN : 100 ≤ n) : ∀ (nf : Nat) (l1 : Int) (l3 : Int) (σ : on_S), on_G X E cX7_prepare RX7 none 1 24 4 z n σ (pf_X7_prepare_64 nf l1 l3 σ) 64 [some (.ref (z + 55)), some (.int (on_i l1)), none, some (.int (on_i l3))] [] := by
  intro nf
  induction nf with
  | zero => intro l1 l3 σ; exact on_none
  | succ nf ih =>
    intro l1 l3 σ
    rw [pf_X7_prepare_64]
    refine on_il3 (tk_X7_prepare 33 rfl) ?_
    refine on_iconst (tk_X7_prepare 34 rfl) ?_
    refine on_icmp_ge (tk_X7_prepare 35 rfl) (tgt := 110) (by decide) ?_ ?_
    · refine on_al0 (tk_X7_prepare 36 rfl) ?_
      refine on_al0 (tk_X7_prepare 37 rfl) ?_
      refine fg_7_4 hN kw_2_46 (tk_X7_prepare 38 rfl) fun v7 => ?_
      refine on_al0 (tk_X7_prepare 39 rfl) ?_
      refine fg_7_0 hN kw_2_41 (tk_X7_prepare 40 rfl) ?_
      refine fg_9_13 (on_Sb2 hN) kw_1_194 (tk_X7_prepare 41 rfl) ?_
      refine on_il1 (tk_X7_prepare 42 rfl) ?_
      refine on_il3 (tk_X7_prepare 43 rfl) ?_
      refine on_al0 (tk_X7_prepare 44 rfl) ?_
      refine fg_7_0 hN kw_2_41 (tk_X7_prepare 45 rfl) ?_
      refine fg_9_13 (on_Sb2 hN) kw_1_194 (tk_X7_prepare 46 rfl) ?_
      refine fg_4_3 (on_Sb2 hN) kw_1_101 (tk_X7_prepare 47 rfl) ?_
      refine on_il1 (tk_X7_prepare 48 rfl) ?_
      refine on_iald (ltS_17 (on_Sb2 hN)) (shS_17 (on_Sb2 hN)) (tk_X7_prepare 49 rfl) fun v8 => ?_
      refine on_cV3i 4 ms_X4_knotIf kw_4_217 rfl rfl (ltS_14 (on_Sb2 hN)) (shS_14 (on_Sb2 hN)) (ct_X4_knotIf hN (on_Sb2 hN)) rfl (tk_X7_prepare 50 rfl) fun v9 σ10 => ?_
      refine on_min kw_4_218 kwM_min_s kwM_i kwM_min_c rfl (tk_X7_prepare 51 rfl) fun v11 => ?_
      refine fp_7_4 hN kw_2_46 (tk_X7_prepare 52 rfl) fun σ12 => ?_
      refine on_inc3 rfl (tk_X7_prepare 53 rfl) ?_
      refine on_goto (tk_X7_prepare 54 rfl) (tgt := 64) (by decide) ?_
      exact ih _ _ _
    · exact on_vret (tk_X7_prepare 55 rfl)
set_option maxRecDepth 100000 in
set_option maxHeartbeats 4000000 in
theorem gl_X7_prepare_2 {E : on_E} {z n : Nat} (X : on_X) (hN : 100 ≤ n) : ∀ (nf : Nat) (l1 : Int) (l2 : Int) (l3 : Int) (σ : on_S), on_G X E cX7_prepare RX7 none 1 24 4 z n σ (pf_X7_prepare_2 nf l1 l2 l3 σ) 2 [some (.ref (z + 55)), some (.int (on_i l1)), some (.int (on_i l2)), some (.int (on_i l3))] [] := by
  intro nf
  induction nf with
  | zero => intro l1 l2 l3 σ; exact on_none
  | succ nf ih =>
    intro l1 l2 l3 σ
    rw [pf_X7_prepare_2]
    refine on_il3 (tk_X7_prepare 2 rfl) ?_
    refine on_al0 (tk_X7_prepare 3 rfl) ?_
    refine fg_7_0 hN kw_2_41 (tk_X7_prepare 4 rfl) ?_
    refine fg_9_12 (on_Sb2 hN) kw_1_187 (tk_X7_prepare 5 rfl) ?_
    refine fg_3_0 (on_Sb2 hN) kw_1_44 (tk_X7_prepare 6 rfl) fun v1 => ?_
    refine on_icmp_ge (tk_X7_prepare 7 rfl) (tgt := 56) (by decide) ?_ ?_
    · refine on_al0 (tk_X7_prepare 8 rfl) ?_
      refine fg_7_2 hN kw_2_44 (tk_X7_prepare 9 rfl) ?_
      refine on_il3 (tk_X7_prepare 10 rfl) ?_
      refine on_al0 (tk_X7_prepare 11 rfl) ?_
      refine fg_7_0 hN kw_2_41 (tk_X7_prepare 12 rfl) ?_
      refine on_il3 (tk_X7_prepare 13 rfl) ?_
      refine on_il2 (tk_X7_prepare 14 rfl) ?_
      refine on_cV2z 9 ms_X9_willHold kw_4_216 rfl rfl (ltS_0 (on_Sb2 hN)) (shS_0 (on_Sb2 hN)) (ct_X9_willHold hN (on_Sb2 hN)) rfl (tk_X7_prepare 15 rfl) fun v2 σ3 => ?_
      refine on_if_eq (tk_X7_prepare 16 rfl) (tgt := 48) (by decide) ?_ ?_
      · refine on_al0 (tk_X7_prepare 17 rfl) ?_
        refine fg_7_0 hN kw_2_41 (tk_X7_prepare 18 rfl) ?_
        refine fg_9_12 (on_Sb2 hN) kw_1_187 (tk_X7_prepare 19 rfl) ?_
        refine fg_3_2 (on_Sb2 hN) kw_1_53 (tk_X7_prepare 20 rfl) ?_
        refine on_il3 (tk_X7_prepare 21 rfl) ?_
        refine on_iald (ltS_10 (on_Sb2 hN)) (shS_10 (on_Sb2 hN)) (tk_X7_prepare 22 rfl) fun v4 => ?_
        refine on_goto (tk_X7_prepare 23 rfl) (tgt := 49) (by decide) ?_
        exact gb_X7_prepare_49 X _ hN ih _ _ _ _ _ _
      · refine on_iconst (tk_X7_prepare 24 rfl) ?_
        exact gb_X7_prepare_49 X _ hN ih _ _ _ _ _ _
    · refine on_al0 (tk_X7_prepare 28 rfl) ?_
      refine on_bipush (tk_X7_prepare 29 rfl) bp_99 ?_
      refine fp_7_4 hN kw_2_46 (tk_X7_prepare 30 rfl) fun σ6 => ?_
      refine on_iconst (tk_X7_prepare 31 rfl) ?_
      refine on_is3 rfl (tk_X7_prepare 32 rfl) ?_
      refine on_dr2 ?_
      exact gl_X7_prepare_64 X  hN on_N _ _ _
set_option maxRecDepth 100000 in
set_option maxHeartbeats 4000000 in
theorem ct_X7_prepare {E : on_E} {z n : Nat} {p0 : Int} {p1 : Int} (hN : 100 ≤ n) {σ : on_S} : on_Sp E yX7_prepare cX7_prepare 4 none 1 24 z n [.ref (z + 55), .int (on_i p0), .int (on_i p1)] σ (pf_X7_prepare p0 p1 σ) := by
  refine on_met [some (.ref (z + 55)), some (.int (on_i p0)), some (.int (on_i p1)), none] (by decide) rfl rfl (fun X => ?_)
  rw [pf_X7_prepare]
  refine on_iconst (tk_X7_prepare 0 rfl) ?_
  refine on_is3 rfl (tk_X7_prepare 1 rfl) ?_
  exact gl_X7_prepare_2 X  hN on_N _ _ _ _
def tb_X7_isThere : List (Nat × Nat × Nat × Instr) := [(0, 1, 1, .iload_n 1), (1, 1, 2, .iconst 4), (2, 1, 3, .ishr), (3, 2, 5, .bipush 15), (5, 1, 6, .iand), (6, 1, 7, .aload_n 0), (7, 3, 10, .getfield 21), (10, 3, 13, .getfield 25), (13, 3, 16, .getfield 31), (16, 3, 19, .if_icmp .ge 24), (19, 1, 20, .iload_n 1), (20, 2, 22, .bipush 15), (22, 1, 23, .iand), (23, 1, 24, .aload_n 0), (24, 3, 27, .getfield 21), (27, 3, 30, .getfield 25), (30, 3, 33, .getfield 31), (33, 3, 36, .if_icmp .ge 7), (36, 1, 37, .iconst 1), (37, 3, 40, .goto 4), (40, 1, 41, .iconst 0), (41, 1, 42, .ireturn)]
set_option maxRecDepth 100000 in
theorem tk_X7_isThere (k : Nat) {pc n pc2 : Nat} {i : Instr} (hk : tb_X7_isThere[k]? = some (pc, n, pc2, i)) : on_dq cX7_isThere pc n pc2 i := on_ta (by decide +kernel) k hk
theorem ms_X7_isThere : on_Mv yX7_isThere cX7_isThere 2 (some .boolean) 1 := ⟨kw_4_230, kw_4_228, kw_4_229, kw_1_7, by decide, by decide, by decide +kernel⟩
def pf_X7_isThere_40 (σ : on_S) : Option on_O :=
  some (0, σ)
def pf_X7_isThere (p0 : Int) (σ : on_S) : Option on_O :=
  on_Gt σ (2 + 8) 0 fun v1 =>
  on_Lt (on_and (on_shr p0 4) 15) v1 (
    on_Gt σ (2 + 8) 0 fun v2 =>
    on_Lt (on_and p0 15) v2 (
      some (1, σ)) (
      pf_X7_isThere_40 σ)) (
    pf_X7_isThere_40 σ)
set_option maxRecDepth 100000 in
set_option maxHeartbeats 4000000 in
theorem gb_X7_isThere_40 {E : on_E} {z n : Nat} (X : on_X) (hN : 100 ≤ n) (σ : on_S) : on_G X E cX7_isThere RX7 (some .boolean) 0 0 2 z n σ (pf_X7_isThere_40  σ) 40 [none, none] [] := by
  rw [pf_X7_isThere_40]
  refine on_iconst (tk_X7_isThere 20 rfl) ?_
  exact on_zret0 (tk_X7_isThere 21 rfl)
set_option maxRecDepth 100000 in
set_option maxHeartbeats 4000000 in
theorem ct_X7_isThere {E : on_E} {z n : Nat} {p0 : Int} (hN : 100 ≤ n) {σ : on_S} : on_Sp E yX7_isThere cX7_isThere 2 (some .boolean) 0 0 z n [.ref (z + 55), .int (on_i p0)] σ (pf_X7_isThere p0 σ) := by
  refine on_met [some (.ref (z + 55)), some (.int (on_i p0))] (by decide) rfl rfl (fun X => ?_)
  rw [pf_X7_isThere]
  refine on_il1 (tk_X7_isThere 0 rfl) ?_
  refine on_iconst (tk_X7_isThere 1 rfl) ?_
  refine on_ishr (tk_X7_isThere 2 rfl) ?_
  refine on_bipush (tk_X7_isThere 3 rfl) bp_15 ?_
  refine on_iand (tk_X7_isThere 4 rfl) ?_
  refine on_al0 (tk_X7_isThere 5 rfl) ?_
  refine fg_7_0 hN kw_2_41 (tk_X7_isThere 6 rfl) ?_
  refine fg_9_12 (on_Sb2 hN) kw_1_187 (tk_X7_isThere 7 rfl) ?_
  refine fg_3_0 (on_Sb2 hN) kw_1_44 (tk_X7_isThere 8 rfl) fun v1 => ?_
  refine on_icmp_ge (tk_X7_isThere 9 rfl) (tgt := 40) (by decide) ?_ ?_
  · refine on_il1 (tk_X7_isThere 10 rfl) ?_
    refine on_bipush (tk_X7_isThere 11 rfl) bp_15 ?_
    refine on_iand (tk_X7_isThere 12 rfl) ?_
    refine on_al0 (tk_X7_isThere 13 rfl) ?_
    refine fg_7_0 hN kw_2_41 (tk_X7_isThere 14 rfl) ?_
    refine fg_9_12 (on_Sb2 hN) kw_1_187 (tk_X7_isThere 15 rfl) ?_
    refine fg_3_0 (on_Sb2 hN) kw_1_44 (tk_X7_isThere 16 rfl) fun v2 => ?_
    refine on_icmp_ge (tk_X7_isThere 17 rfl) (tgt := 40) (by decide) ?_ ?_
    · refine on_iconst (tk_X7_isThere 18 rfl) ?_
      refine on_goto (tk_X7_isThere 19 rfl) (tgt := 41) (by decide) ?_
      exact on_zret1 (tk_X7_isThere 21 rfl)
    · refine on_dr0 ?_
      refine on_dr1 ?_
      exact gb_X7_isThere_40 X  hN _
  · refine on_dr0 ?_
    refine on_dr1 ?_
    exact gb_X7_isThere_40 X  hN _
def tb_X7_manOf : List (Nat × Nat × Nat × Instr) := [(0, 1, 1, .iload_n 0), (1, 2, 3, .bipush 12), (3, 1, 4, .iconst 4), (4, 1, 5, .iload_n 1), (5, 1, 6, .imul), (6, 1, 7, .isub), (7, 1, 8, .ishr), (8, 2, 10, .bipush 15), (10, 1, 11, .iand), (11, 1, 12, .ireturn)]
set_option maxRecDepth 100000 in
theorem tk_X7_manOf (k : Nat) {pc n pc2 : Nat} {i : Instr} (hk : tb_X7_manOf[k]? = some (pc, n, pc2, i)) : on_dq cX7_manOf pc n pc2 i := on_ta (by decide +kernel) k hk
theorem ms_X7_manOf : on_Ms yX7_manOf cX7_manOf 2 (some .int) 2 := ⟨kw_4_237, kw_4_236, kw_1_7, by decide, by decide, by decide +kernel⟩
def pf_X7_manOf (p0 : Int) (p1 : Int) (σ : on_S) : Option on_O :=
  some ((on_and (on_shr p0 (12 - (4 * p1))) 15), σ)
set_option maxRecDepth 100000 in
set_option maxHeartbeats 4000000 in
theorem ct_X7_manOf {E : on_E} {z n : Nat} {p0 : Int} {p1 : Int} (hN : 100 ≤ n) {σ : on_S} : on_Sp E yX7_manOf cX7_manOf 2 (some .int) 0 0 z n [.int (on_i p0), .int (on_i p1)] σ (pf_X7_manOf p0 p1 σ) := by
  refine on_met [some (.int (on_i p0)), some (.int (on_i p1))] (by decide) rfl rfl (fun X => ?_)
  rw [pf_X7_manOf]
  refine on_il0 (tk_X7_manOf 0 rfl) ?_
  refine on_bipush (tk_X7_manOf 1 rfl) bp_12 ?_
  refine on_iconst (tk_X7_manOf 2 rfl) ?_
  refine on_il1 (tk_X7_manOf 3 rfl) ?_
  refine on_imul (tk_X7_manOf 4 rfl) ?_
  refine on_isub (tk_X7_manOf 5 rfl) ?_
  refine on_ishr (tk_X7_manOf 6 rfl) ?_
  refine on_bipush (tk_X7_manOf 7 rfl) bp_15 ?_
  refine on_iand (tk_X7_manOf 8 rfl) ?_
  exact on_iret (tk_X7_manOf 9 rfl)
def tb_X7_carriedBy : List (Nat × Nat × Nat × Instr) := [(0, 1, 1, .iload_n 1), (1, 1, 2, .iconst 0), (2, 3, 5, .invokestatic 66), (5, 1, 6, .istore_n 2), (6, 1, 7, .iload_n 1), (7, 1, 8, .iconst 1), (8, 3, 11, .invokestatic 66), (11, 1, 12, .istore_n 3), (12, 1, 13, .iload_n 1), (13, 1, 14, .iconst 2), (14, 3, 17, .invokestatic 66), (17, 2, 19, .istore 4), (19, 1, 20, .iload_n 1), (20, 1, 21, .iconst 3), (21, 3, 24, .invokestatic 66), (24, 2, 26, .istore 5), (26, 1, 27, .aload_n 0), (27, 3, 30, .getfield 21), (30, 3, 33, .getfield 25), (33, 1, 34, .iload_n 2), (34, 1, 35, .iload_n 3), (35, 3, 38, .invokevirtual 69), (38, 2, 40, .istore 6), (40, 1, 41, .aload_n 0), (41, 3, 44, .getfield 21), (44, 3, 47, .getfield 25), (47, 1, 48, .iload_n 3), (48, 2, 50, .iload 4), (50, 3, 53, .invokevirtual 69), (53, 2, 55, .istore 7), (55, 1, 56, .aload_n 0), (56, 3, 59, .getfield 21), (59, 3, 62, .getfield 25), (62, 2, 64, .iload 4), (64, 2, 66, .iload 5), (66, 3, 69, .invokevirtual 69), (69, 2, 71, .istore 8), (71, 1, 72, .aload_n 0), (72, 3, 75, .getfield 21), (75, 3, 78, .getfield 25), (78, 2, 80, .iload 5), (80, 1, 81, .iload_n 2), (81, 3, 84, .invokevirtual 69), (84, 2, 86, .istore 9), (86, 1, 87, .aload_n 0), (87, 3, 90, .getfield 15), (90, 1, 91, .iload_n 2), (91, 1, 92, .iaload), (92, 1, 93, .iconst 3), (93, 2, 95, .iload 9), (95, 2, 97, .iload 6), (97, 1, 98, .iadd), (98, 1, 99, .imul), (99, 1, 100, .isub), (100, 1, 101, .aload_n 0), (101, 3, 104, .getfield 15), (104, 1, 105, .iload_n 3), (105, 1, 106, .iaload), (106, 1, 107, .iconst 3), (107, 2, 109, .iload 6), (109, 2, 111, .iload 7), (111, 1, 112, .iadd), (112, 1, 113, .imul), (113, 1, 114, .isub), (114, 3, 117, .invokestatic 60), (117, 2, 119, .istore 10), (119, 1, 120, .aload_n 0), (120, 3, 123, .getfield 15), (123, 2, 125, .iload 4), (125, 1, 126, .iaload), (126, 1, 127, .iconst 3), (127, 2, 129, .iload 7), (129, 2, 131, .iload 8), (131, 1, 132, .iadd), (132, 1, 133, .imul), (133, 1, 134, .isub), (134, 1, 135, .aload_n 0), (135, 3, 138, .getfield 15), (138, 2, 140, .iload 5), (140, 1, 141, .iaload), (141, 1, 142, .iconst 3), (142, 2, 144, .iload 8), (144, 2, 146, .iload 9), (146, 1, 147, .iadd), (147, 1, 148, .imul), (148, 1, 149, .isub), (149, 3, 152, .invokestatic 60), (152, 2, 154, .istore 11), (154, 1, 155, .iconst 4), (155, 1, 156, .iconst 0), (156, 1, 157, .aload_n 0), (157, 3, 160, .getfield 44), (160, 2, 162, .iload 10), (162, 2, 164, .iload 11), (164, 3, 167, .invokestatic 60), (167, 3, 170, .invokestatic 60), (170, 3, 173, .invokestatic 72), (173, 1, 174, .imul), (174, 1, 175, .ireturn)]
set_option maxRecDepth 100000 in
theorem tk_X7_carriedBy (k : Nat) {pc n pc2 : Nat} {i : Instr} (hk : tb_X7_carriedBy[k]? = some (pc, n, pc2, i)) : on_dq cX7_carriedBy pc n pc2 i := on_ta (by decide +kernel) k hk
theorem ms_X7_carriedBy : on_Mv yX7_carriedBy cX7_carriedBy 12 (some .int) 1 := ⟨kw_4_234, kw_4_232, kw_4_233, kw_1_7, by decide, by decide, by decide +kernel⟩
def pf_X7_carriedBy (p0 : Int) (σ : on_S) : Option on_O :=
  on_Cl (pf_X7_manOf p0 0 σ) fun v1 σ2 =>
  on_Cl (pf_X7_manOf p0 1 σ2) fun v3 σ4 =>
  on_Cl (pf_X7_manOf p0 2 σ4) fun v5 σ6 =>
  on_Cl (pf_X7_manOf p0 3 σ6) fun v7 σ8 =>
  on_Cl (pf_X3_quarrelOf 2 v1 v3 σ8) fun v9 σ10 =>
  on_Cl (pf_X3_quarrelOf 2 v3 v5 σ10) fun v11 σ12 =>
  on_Cl (pf_X3_quarrelOf 2 v5 v7 σ12) fun v13 σ14 =>
  on_Cl (pf_X3_quarrelOf 2 v7 v1 σ14) fun v15 σ16 =>
  on_Rd σ16 57 9 v1 fun v17 =>
  on_Rd σ16 57 9 v3 fun v18 =>
  on_Mn (v17 - (3 * (v15 + v9))) (v18 - (3 * (v9 + v11))) fun v19 =>
  on_Rd σ16 57 9 v5 fun v20 =>
  on_Rd σ16 57 9 v7 fun v21 =>
  on_Mn (v20 - (3 * (v11 + v13))) (v21 - (3 * (v13 + v15))) fun v22 =>
  on_Gt σ16 55 4 fun v23 =>
  on_Mn v19 v22 fun v24 =>
  on_Mn v23 v24 fun v25 =>
  on_Mx 0 v25 fun v26 =>
  some ((4 * v26), σ16)
set_option maxRecDepth 100000 in
set_option maxHeartbeats 4000000 in
theorem ct_X7_carriedBy {E : on_E} {z n : Nat} {p0 : Int} (hN : 100 ≤ n) {σ : on_S} : on_Sp E yX7_carriedBy cX7_carriedBy 12 (some .int) 1 22 z n [.ref (z + 55), .int (on_i p0)] σ (pf_X7_carriedBy p0 σ) := by
  refine on_met [some (.ref (z + 55)), some (.int (on_i p0)), none, none, none, none, none, none, none, none, none, none] (by decide) rfl rfl (fun X => ?_)
  rw [pf_X7_carriedBy]
  refine on_il1 (tk_X7_carriedBy 0 rfl) ?_
  refine on_iconst (tk_X7_carriedBy 1 rfl) ?_
  refine on_cS2i ms_X7_manOf kw_4_235 (ct_X7_manOf hN) rfl (tk_X7_carriedBy 2 rfl) fun v1 σ2 => ?_
  refine on_is2 rfl (tk_X7_carriedBy 3 rfl) ?_
  refine on_il1 (tk_X7_carriedBy 4 rfl) ?_
  refine on_iconst (tk_X7_carriedBy 5 rfl) ?_
  refine on_cS2i ms_X7_manOf kw_4_235 (ct_X7_manOf hN) rfl (tk_X7_carriedBy 6 rfl) fun v3 σ4 => ?_
  refine on_is3 rfl (tk_X7_carriedBy 7 rfl) ?_
  refine on_il1 (tk_X7_carriedBy 8 rfl) ?_
  refine on_iconst (tk_X7_carriedBy 9 rfl) ?_
  refine on_cS2i ms_X7_manOf kw_4_235 (ct_X7_manOf hN) rfl (tk_X7_carriedBy 10 rfl) fun v5 σ6 => ?_
  refine on_is4 rfl (tk_X7_carriedBy 11 rfl) ?_
  refine on_il1 (tk_X7_carriedBy 12 rfl) ?_
  refine on_iconst (tk_X7_carriedBy 13 rfl) ?_
  refine on_cS2i ms_X7_manOf kw_4_235 (ct_X7_manOf hN) rfl (tk_X7_carriedBy 14 rfl) fun v7 σ8 => ?_
  refine on_is5 rfl (tk_X7_carriedBy 15 rfl) ?_
  refine on_al0 (tk_X7_carriedBy 16 rfl) ?_
  refine fg_7_0 hN kw_2_41 (tk_X7_carriedBy 17 rfl) ?_
  refine fg_9_12 (on_Sb2 hN) kw_1_187 (tk_X7_carriedBy 18 rfl) ?_
  refine on_il2 (tk_X7_carriedBy 19 rfl) ?_
  refine on_il3 (tk_X7_carriedBy 20 rfl) ?_
  refine on_cV2i 3 ms_X3_quarrelOf kw_4_238 rfl rfl (ltS_8 (on_Sb2 hN)) (shS_8 (on_Sb2 hN)) (ct_X3_quarrelOf hN (on_Sb2 hN)) rfl (tk_X7_carriedBy 21 rfl) fun v9 σ10 => ?_
  refine on_is6 rfl (tk_X7_carriedBy 22 rfl) ?_
  refine on_al0 (tk_X7_carriedBy 23 rfl) ?_
  refine fg_7_0 hN kw_2_41 (tk_X7_carriedBy 24 rfl) ?_
  refine fg_9_12 (on_Sb2 hN) kw_1_187 (tk_X7_carriedBy 25 rfl) ?_
  refine on_il3 (tk_X7_carriedBy 26 rfl) ?_
  refine on_il4 (tk_X7_carriedBy 27 rfl) ?_
  refine on_cV2i 3 ms_X3_quarrelOf kw_4_238 rfl rfl (ltS_8 (on_Sb2 hN)) (shS_8 (on_Sb2 hN)) (ct_X3_quarrelOf hN (on_Sb2 hN)) rfl (tk_X7_carriedBy 28 rfl) fun v11 σ12 => ?_
  refine on_is7 rfl (tk_X7_carriedBy 29 rfl) ?_
  refine on_al0 (tk_X7_carriedBy 30 rfl) ?_
  refine fg_7_0 hN kw_2_41 (tk_X7_carriedBy 31 rfl) ?_
  refine fg_9_12 (on_Sb2 hN) kw_1_187 (tk_X7_carriedBy 32 rfl) ?_
  refine on_il4 (tk_X7_carriedBy 33 rfl) ?_
  refine on_il5 (tk_X7_carriedBy 34 rfl) ?_
  refine on_cV2i 3 ms_X3_quarrelOf kw_4_238 rfl rfl (ltS_8 (on_Sb2 hN)) (shS_8 (on_Sb2 hN)) (ct_X3_quarrelOf hN (on_Sb2 hN)) rfl (tk_X7_carriedBy 35 rfl) fun v13 σ14 => ?_
  refine on_is8 rfl (tk_X7_carriedBy 36 rfl) ?_
  refine on_al0 (tk_X7_carriedBy 37 rfl) ?_
  refine fg_7_0 hN kw_2_41 (tk_X7_carriedBy 38 rfl) ?_
  refine fg_9_12 (on_Sb2 hN) kw_1_187 (tk_X7_carriedBy 39 rfl) ?_
  refine on_il5 (tk_X7_carriedBy 40 rfl) ?_
  refine on_il2 (tk_X7_carriedBy 41 rfl) ?_
  refine on_cV2i 3 ms_X3_quarrelOf kw_4_238 rfl rfl (ltS_8 (on_Sb2 hN)) (shS_8 (on_Sb2 hN)) (ct_X3_quarrelOf hN (on_Sb2 hN)) rfl (tk_X7_carriedBy 42 rfl) fun v15 σ16 => ?_
  refine on_is9 rfl (tk_X7_carriedBy 43 rfl) ?_
  refine on_al0 (tk_X7_carriedBy 44 rfl) ?_
  refine fg_7_2 hN kw_2_44 (tk_X7_carriedBy 45 rfl) ?_
  refine on_il2 (tk_X7_carriedBy 46 rfl) ?_
  refine on_iald (ltc_57 hN) sh_57 (tk_X7_carriedBy 47 rfl) fun v17 => ?_
  refine on_iconst (tk_X7_carriedBy 48 rfl) ?_
  refine on_il9 (tk_X7_carriedBy 49 rfl) ?_
  refine on_il6 (tk_X7_carriedBy 50 rfl) ?_
  refine on_iadd (tk_X7_carriedBy 51 rfl) ?_
  refine on_imul (tk_X7_carriedBy 52 rfl) ?_
  refine on_isub (tk_X7_carriedBy 53 rfl) ?_
  refine on_al0 (tk_X7_carriedBy 54 rfl) ?_
  refine fg_7_2 hN kw_2_44 (tk_X7_carriedBy 55 rfl) ?_
  refine on_il3 (tk_X7_carriedBy 56 rfl) ?_
  refine on_iald (ltc_57 hN) sh_57 (tk_X7_carriedBy 57 rfl) fun v18 => ?_
  refine on_iconst (tk_X7_carriedBy 58 rfl) ?_
  refine on_il6 (tk_X7_carriedBy 59 rfl) ?_
  refine on_il7 (tk_X7_carriedBy 60 rfl) ?_
  refine on_iadd (tk_X7_carriedBy 61 rfl) ?_
  refine on_imul (tk_X7_carriedBy 62 rfl) ?_
  refine on_isub (tk_X7_carriedBy 63 rfl) ?_
  refine on_min kw_4_218 kwM_min_s kwM_i kwM_min_c rfl (tk_X7_carriedBy 64 rfl) fun v19 => ?_
  refine on_is10 rfl (tk_X7_carriedBy 65 rfl) ?_
  refine on_al0 (tk_X7_carriedBy 66 rfl) ?_
  refine fg_7_2 hN kw_2_44 (tk_X7_carriedBy 67 rfl) ?_
  refine on_il4 (tk_X7_carriedBy 68 rfl) ?_
  refine on_iald (ltc_57 hN) sh_57 (tk_X7_carriedBy 69 rfl) fun v20 => ?_
  refine on_iconst (tk_X7_carriedBy 70 rfl) ?_
  refine on_il7 (tk_X7_carriedBy 71 rfl) ?_
  refine on_il8 (tk_X7_carriedBy 72 rfl) ?_
  refine on_iadd (tk_X7_carriedBy 73 rfl) ?_
  refine on_imul (tk_X7_carriedBy 74 rfl) ?_
  refine on_isub (tk_X7_carriedBy 75 rfl) ?_
  refine on_al0 (tk_X7_carriedBy 76 rfl) ?_
  refine fg_7_2 hN kw_2_44 (tk_X7_carriedBy 77 rfl) ?_
  refine on_il5 (tk_X7_carriedBy 78 rfl) ?_
  refine on_iald (ltc_57 hN) sh_57 (tk_X7_carriedBy 79 rfl) fun v21 => ?_
  refine on_iconst (tk_X7_carriedBy 80 rfl) ?_
  refine on_il8 (tk_X7_carriedBy 81 rfl) ?_
  refine on_il9 (tk_X7_carriedBy 82 rfl) ?_
  refine on_iadd (tk_X7_carriedBy 83 rfl) ?_
  refine on_imul (tk_X7_carriedBy 84 rfl) ?_
  refine on_isub (tk_X7_carriedBy 85 rfl) ?_
  refine on_min kw_4_218 kwM_min_s kwM_i kwM_min_c rfl (tk_X7_carriedBy 86 rfl) fun v22 => ?_
  refine on_is11 rfl (tk_X7_carriedBy 87 rfl) ?_
  refine on_iconst (tk_X7_carriedBy 88 rfl) ?_
  refine on_iconst (tk_X7_carriedBy 89 rfl) ?_
  refine on_al0 (tk_X7_carriedBy 90 rfl) ?_
  refine fg_7_4 hN kw_2_46 (tk_X7_carriedBy 91 rfl) fun v23 => ?_
  refine on_il10 (tk_X7_carriedBy 92 rfl) ?_
  refine on_il11 (tk_X7_carriedBy 93 rfl) ?_
  refine on_min kw_4_218 kwM_min_s kwM_i kwM_min_c rfl (tk_X7_carriedBy 94 rfl) fun v24 => ?_
  refine on_min kw_4_218 kwM_min_s kwM_i kwM_min_c rfl (tk_X7_carriedBy 95 rfl) fun v25 => ?_
  refine on_max kw_4_239 kwM_max_s kwM_i kwM_max_c rfl (tk_X7_carriedBy 96 rfl) fun v26 => ?_
  refine on_imul (tk_X7_carriedBy 97 rfl) ?_
  exact on_iret (tk_X7_carriedBy 98 rfl)
def tb_X7_menIn : List (Nat × Nat × Nat × Instr) := [(0, 1, 1, .iconst 1), (1, 1, 2, .iload_n 0), (2, 1, 3, .iconst 0), (3, 3, 6, .invokestatic 66), (6, 1, 7, .ishl), (7, 1, 8, .iconst 1), (8, 1, 9, .iload_n 0), (9, 1, 10, .iconst 1), (10, 3, 13, .invokestatic 66), (13, 1, 14, .ishl), (14, 1, 15, .ior), (15, 1, 16, .iconst 1), (16, 1, 17, .iload_n 0), (17, 1, 18, .iconst 2), (18, 3, 21, .invokestatic 66), (21, 1, 22, .ishl), (22, 1, 23, .ior), (23, 1, 24, .iconst 1), (24, 1, 25, .iload_n 0), (25, 1, 26, .iconst 3), (26, 3, 29, .invokestatic 66), (29, 1, 30, .ishl), (30, 1, 31, .ior), (31, 1, 32, .ireturn)]
set_option maxRecDepth 100000 in
theorem tk_X7_menIn (k : Nat) {pc n pc2 : Nat} {i : Instr} (hk : tb_X7_menIn[k]? = some (pc, n, pc2, i)) : on_dq cX7_menIn pc n pc2 i := on_ta (by decide +kernel) k hk
theorem ms_X7_menIn : on_Ms yX7_menIn cX7_menIn 1 (some .int) 1 := ⟨kw_5_38, kw_5_37, kw_1_7, by decide, by decide, by decide +kernel⟩
def pf_X7_menIn (p0 : Int) (σ : on_S) : Option on_O :=
  on_Cl (pf_X7_manOf p0 0 σ) fun v1 σ2 =>
  on_Cl (pf_X7_manOf p0 1 σ2) fun v3 σ4 =>
  on_Cl (pf_X7_manOf p0 2 σ4) fun v5 σ6 =>
  on_Cl (pf_X7_manOf p0 3 σ6) fun v7 σ8 =>
  some ((on_or (on_or (on_or (on_shl 1 v1) (on_shl 1 v3)) (on_shl 1 v5)) (on_shl 1 v7)), σ8)
set_option maxRecDepth 100000 in
set_option maxHeartbeats 4000000 in
theorem ct_X7_menIn {E : on_E} {z n : Nat} {p0 : Int} (hN : 100 ≤ n) {σ : on_S} : on_Sp E yX7_menIn cX7_menIn 1 (some .int) 1 21 z n [.int (on_i p0)] σ (pf_X7_menIn p0 σ) := by
  refine on_met [some (.int (on_i p0))] (by decide) rfl rfl (fun X => ?_)
  rw [pf_X7_menIn]
  refine on_iconst (tk_X7_menIn 0 rfl) ?_
  refine on_il0 (tk_X7_menIn 1 rfl) ?_
  refine on_iconst (tk_X7_menIn 2 rfl) ?_
  refine on_cS2i ms_X7_manOf kw_4_235 (ct_X7_manOf hN) rfl (tk_X7_menIn 3 rfl) fun v1 σ2 => ?_
  refine on_ishl (tk_X7_menIn 4 rfl) ?_
  refine on_iconst (tk_X7_menIn 5 rfl) ?_
  refine on_il0 (tk_X7_menIn 6 rfl) ?_
  refine on_iconst (tk_X7_menIn 7 rfl) ?_
  refine on_cS2i ms_X7_manOf kw_4_235 (ct_X7_manOf hN) rfl (tk_X7_menIn 8 rfl) fun v3 σ4 => ?_
  refine on_ishl (tk_X7_menIn 9 rfl) ?_
  refine on_ior (tk_X7_menIn 10 rfl) ?_
  refine on_iconst (tk_X7_menIn 11 rfl) ?_
  refine on_il0 (tk_X7_menIn 12 rfl) ?_
  refine on_iconst (tk_X7_menIn 13 rfl) ?_
  refine on_cS2i ms_X7_manOf kw_4_235 (ct_X7_manOf hN) rfl (tk_X7_menIn 14 rfl) fun v5 σ6 => ?_
  refine on_ishl (tk_X7_menIn 15 rfl) ?_
  refine on_ior (tk_X7_menIn 16 rfl) ?_
  refine on_iconst (tk_X7_menIn 17 rfl) ?_
  refine on_il0 (tk_X7_menIn 18 rfl) ?_
  refine on_iconst (tk_X7_menIn 19 rfl) ?_
  refine on_cS2i ms_X7_manOf kw_4_235 (ct_X7_manOf hN) rfl (tk_X7_menIn 20 rfl) fun v7 σ8 => ?_
  refine on_ishl (tk_X7_menIn 21 rfl) ?_
  refine on_ior (tk_X7_menIn 22 rfl) ?_
  exact on_iret (tk_X7_menIn 23 rfl)
def tb_X7_quarrelsIn : List (Nat × Nat × Nat × Instr) := [(0, 1, 1, .iconst 0), (1, 1, 2, .istore_n 2), (2, 1, 3, .iconst 0), (3, 1, 4, .istore_n 3), (4, 1, 5, .iload_n 3), (5, 1, 6, .iconst 4), (6, 3, 9, .if_icmp .ge 36), (9, 1, 10, .iload_n 2), (10, 1, 11, .aload_n 0), (11, 3, 14, .getfield 21), (14, 3, 17, .getfield 25), (17, 1, 18, .iload_n 1), (18, 1, 19, .iload_n 3), (19, 3, 22, .invokestatic 66), (22, 1, 23, .iload_n 1), (23, 1, 24, .iload_n 3), (24, 1, 25, .iconst 1), (25, 1, 26, .iadd), (26, 1, 27, .iconst 4), (27, 1, 28, .irem), (28, 3, 31, .invokestatic 66), (31, 3, 34, .invokevirtual 69), (34, 1, 35, .iadd), (35, 1, 36, .istore_n 2), (36, 3, 39, .iinc 3 1), (39, 3, 42, .goto (-35)), (42, 1, 43, .iload_n 2), (43, 1, 44, .ireturn)]
set_option maxRecDepth 100000 in
theorem tk_X7_quarrelsIn (k : Nat) {pc n pc2 : Nat} {i : Instr} (hk : tb_X7_quarrelsIn[k]? = some (pc, n, pc2, i)) : on_dq cX7_quarrelsIn pc n pc2 i := on_ta (by decide +kernel) k hk
theorem ms_X7_quarrelsIn : on_Mv yX7_quarrelsIn cX7_quarrelsIn 4 (some .int) 1 := ⟨kw_5_42, kw_5_40, kw_5_41, kw_1_7, by decide, by decide, by decide +kernel⟩
def pf_X7_quarrelsIn_4 : Nat → Int → Int → Int → on_S → Option on_O
  | 0, _, _, _, _ => none
  | nf + 1, l1, l2, l3, σ =>
    on_Lt l3 4 (
      on_Cl (pf_X7_manOf l1 l3 σ) fun v1 σ2 =>
      on_Rm (l3 + 1) 4 fun v3 =>
      on_Cl (pf_X7_manOf l1 v3 σ2) fun v4 σ5 =>
      on_Cl (pf_X3_quarrelOf 2 v1 v4 σ5) fun v6 σ7 =>
      pf_X7_quarrelsIn_4 nf l1 (l2 + v6) (l3 + 1) σ7) (
      some (l2, σ))
def pf_X7_quarrelsIn (p0 : Int) (σ : on_S) : Option on_O :=
  pf_X7_quarrelsIn_4 on_N p0 0 0 σ
set_option maxRecDepth 100000 in
set_option maxHeartbeats 4000000 in
theorem gl_X7_quarrelsIn_4 {E : on_E} {z n : Nat} (X : on_X) (hN : 100 ≤ n) : ∀ (nf : Nat) (l1 : Int) (l2 : Int) (l3 : Int) (σ : on_S), on_G X E cX7_quarrelsIn RX7 (some .int) 1 22 4 z n σ (pf_X7_quarrelsIn_4 nf l1 l2 l3 σ) 4 [some (.ref (z + 55)), some (.int (on_i l1)), some (.int (on_i l2)), some (.int (on_i l3))] [] := by
  intro nf
  induction nf with
  | zero => intro l1 l2 l3 σ; exact on_none
  | succ nf ih =>
    intro l1 l2 l3 σ
    rw [pf_X7_quarrelsIn_4]
    refine on_il3 (tk_X7_quarrelsIn 4 rfl) ?_
    refine on_iconst (tk_X7_quarrelsIn 5 rfl) ?_
    refine on_icmp_ge (tk_X7_quarrelsIn 6 rfl) (tgt := 42) (by decide) ?_ ?_
    · refine on_il2 (tk_X7_quarrelsIn 7 rfl) ?_
      refine on_al0 (tk_X7_quarrelsIn 8 rfl) ?_
      refine fg_7_0 hN kw_2_41 (tk_X7_quarrelsIn 9 rfl) ?_
      refine fg_9_12 (on_Sb2 hN) kw_1_187 (tk_X7_quarrelsIn 10 rfl) ?_
      refine on_il1 (tk_X7_quarrelsIn 11 rfl) ?_
      refine on_il3 (tk_X7_quarrelsIn 12 rfl) ?_
      refine on_cS2i ms_X7_manOf kw_4_235 (ct_X7_manOf hN) rfl (tk_X7_quarrelsIn 13 rfl) fun v1 σ2 => ?_
      refine on_il1 (tk_X7_quarrelsIn 14 rfl) ?_
      refine on_il3 (tk_X7_quarrelsIn 15 rfl) ?_
      refine on_iconst (tk_X7_quarrelsIn 16 rfl) ?_
      refine on_iadd (tk_X7_quarrelsIn 17 rfl) ?_
      refine on_iconst (tk_X7_quarrelsIn 18 rfl) ?_
      refine on_irem (tk_X7_quarrelsIn 19 rfl) fun v3 => ?_
      refine on_cS2i ms_X7_manOf kw_4_235 (ct_X7_manOf hN) rfl (tk_X7_quarrelsIn 20 rfl) fun v4 σ5 => ?_
      refine on_cV2i 3 ms_X3_quarrelOf kw_4_238 rfl rfl (ltS_8 (on_Sb2 hN)) (shS_8 (on_Sb2 hN)) (ct_X3_quarrelOf hN (on_Sb2 hN)) rfl (tk_X7_quarrelsIn 21 rfl) fun v6 σ7 => ?_
      refine on_iadd (tk_X7_quarrelsIn 22 rfl) ?_
      refine on_is2 rfl (tk_X7_quarrelsIn 23 rfl) ?_
      refine on_inc3 rfl (tk_X7_quarrelsIn 24 rfl) ?_
      refine on_goto (tk_X7_quarrelsIn 25 rfl) (tgt := 4) (by decide) ?_
      exact ih _ _ _ _
    · refine on_il2 (tk_X7_quarrelsIn 26 rfl) ?_
      exact on_iret (tk_X7_quarrelsIn 27 rfl)
set_option maxRecDepth 100000 in
set_option maxHeartbeats 4000000 in
theorem ct_X7_quarrelsIn {E : on_E} {z n : Nat} {p0 : Int} (hN : 100 ≤ n) {σ : on_S} : on_Sp E yX7_quarrelsIn cX7_quarrelsIn 4 (some .int) 1 22 z n [.ref (z + 55), .int (on_i p0)] σ (pf_X7_quarrelsIn p0 σ) := by
  refine on_met [some (.ref (z + 55)), some (.int (on_i p0)), none, none] (by decide) rfl rfl (fun X => ?_)
  rw [pf_X7_quarrelsIn]
  refine on_iconst (tk_X7_quarrelsIn 0 rfl) ?_
  refine on_is2 rfl (tk_X7_quarrelsIn 1 rfl) ?_
  refine on_iconst (tk_X7_quarrelsIn 2 rfl) ?_
  refine on_is3 rfl (tk_X7_quarrelsIn 3 rfl) ?_
  exact gl_X7_quarrelsIn_4 X  hN on_N _ _ _ _
def tb_X1_addRow : List (Nat × Nat × Nat × Instr) := [(0, 1, 1, .aload_n 0), (1, 3, 4, .getfield 11), (4, 1, 5, .iload_n 1), (5, 1, 6, .iaload), (6, 3, 9, .ifCond .eq 13), (9, 1, 10, .iload_n 3), (10, 1, 11, .aload_n 0), (11, 3, 14, .getfield 15), (14, 1, 15, .iload_n 1), (15, 1, 16, .iaload), (16, 3, 19, .if_icmp .ge 17), (19, 1, 20, .aload_n 0), (20, 3, 23, .getfield 15), (23, 1, 24, .iload_n 1), (24, 1, 25, .iload_n 3), (25, 1, 26, .iastore), (26, 1, 27, .aload_n 0), (27, 3, 30, .getfield 18), (30, 1, 31, .iload_n 1), (31, 1, 32, .iload_n 2), (32, 1, 33, .iastore), (33, 1, 34, .aload_n 0), (34, 3, 37, .getfield 11), (37, 1, 38, .iload_n 1), (38, 1, 39, .dup2), (39, 1, 40, .iaload), (40, 2, 42, .bipush 8), (42, 1, 43, .iadd), (43, 1, 44, .iastore), (44, 1, 45, .return_)]
set_option maxRecDepth 100000 in
theorem tk_X1_addRow (k : Nat) {pc n pc2 : Nat} {i : Instr} (hk : tb_X1_addRow[k]? = some (pc, n, pc2, i)) : on_dq cX1_addRow pc n pc2 i := on_ta (by decide +kernel) k hk
theorem ms_X1_addRow : on_Mv yX1_addRow cX1_addRow 4 none 3 := ⟨kw_5_46, kw_5_44, kw_5_45, kw_1_8, by decide, by decide, by decide +kernel⟩
def pf_X1_addRow_33 (l1 : Int) (σ : on_S) : Option on_O :=
  on_Rd σ 60 1024 l1 fun v5 =>
  on_Wr σ 60 1024 l1 (v5 + 8) fun σ6 =>
  some (0, σ6)
def pf_X1_addRow_19 (l1 : Int) (l2 : Int) (l3 : Int) (σ : on_S) : Option on_O :=
  on_Wr σ 61 1024 l1 l3 fun σ3 =>
  on_Wr σ3 62 1024 l1 l2 fun σ4 =>
  pf_X1_addRow_33 l1 σ4
def pf_X1_addRow (p0 : Int) (p1 : Int) (p2 : Int) (σ : on_S) : Option on_O :=
  on_Rd σ 60 1024 p0 fun v1 =>
  on_Eq v1 0 (
    pf_X1_addRow_19 p0 p1 p2 σ) (
    on_Rd σ 61 1024 p0 fun v2 =>
    on_Lt p2 v2 (
      pf_X1_addRow_19 p0 p1 p2 σ) (
      pf_X1_addRow_33 p0 σ))
set_option maxRecDepth 100000 in
set_option maxHeartbeats 4000000 in
theorem gb_X1_addRow_33 {E : on_E} {z n : Nat} (X : on_X) (hN : 100 ≤ n) (l1 : Int) (σ : on_S) : on_G X E cX1_addRow RX1 none 0 0 4 z n σ (pf_X1_addRow_33 l1 σ) 33 [some (.ref (z + 59)), some (.int (on_i l1)), none, none] [] := by
  rw [pf_X1_addRow_33]
  refine on_al0 (tk_X1_addRow 21 rfl) ?_
  refine fg_1_2 hN kw_2_69 (tk_X1_addRow 22 rfl) ?_
  refine on_il1 (tk_X1_addRow 23 rfl) ?_
  refine on_dup2 rfl rfl (tk_X1_addRow 24 rfl) ?_
  refine on_iald (ltc_60 hN) sh_60 (tk_X1_addRow 25 rfl) fun v5 => ?_
  refine on_bipush (tk_X1_addRow 26 rfl) bp_8 ?_
  refine on_iadd (tk_X1_addRow 27 rfl) ?_
  refine on_iast (ltc_60 hN) sh_60 (tk_X1_addRow 28 rfl) fun σ6 => ?_
  exact on_vret (tk_X1_addRow 29 rfl)
set_option maxRecDepth 100000 in
set_option maxHeartbeats 4000000 in
theorem gb_X1_addRow_19 {E : on_E} {z n : Nat} (X : on_X) (hN : 100 ≤ n) (l1 : Int) (l2 : Int) (l3 : Int) (σ : on_S) : on_G X E cX1_addRow RX1 none 0 0 4 z n σ (pf_X1_addRow_19 l1 l2 l3 σ) 19 [some (.ref (z + 59)), some (.int (on_i l1)), some (.int (on_i l2)), some (.int (on_i l3))] [] := by
  rw [pf_X1_addRow_19]
  refine on_al0 (tk_X1_addRow 11 rfl) ?_
  refine fg_1_3 hN kw_2_70 (tk_X1_addRow 12 rfl) ?_
  refine on_il1 (tk_X1_addRow 13 rfl) ?_
  refine on_il3 (tk_X1_addRow 14 rfl) ?_
  refine on_iast (ltc_61 hN) sh_61 (tk_X1_addRow 15 rfl) fun σ3 => ?_
  refine on_al0 (tk_X1_addRow 16 rfl) ?_
  refine fg_1_4 hN kw_2_71 (tk_X1_addRow 17 rfl) ?_
  refine on_il1 (tk_X1_addRow 18 rfl) ?_
  refine on_il2 (tk_X1_addRow 19 rfl) ?_
  refine on_iast (ltc_62 hN) sh_62 (tk_X1_addRow 20 rfl) fun σ4 => ?_
  refine on_dr2 ?_
  refine on_dr3 ?_
  exact gb_X1_addRow_33 X  hN _ _
set_option maxRecDepth 100000 in
set_option maxHeartbeats 4000000 in
theorem ct_X1_addRow {E : on_E} {z n : Nat} {p0 : Int} {p1 : Int} {p2 : Int} (hN : 100 ≤ n) {σ : on_S} : on_Sp E yX1_addRow cX1_addRow 4 none 0 0 z n [.ref (z + 59), .int (on_i p0), .int (on_i p1), .int (on_i p2)] σ (pf_X1_addRow p0 p1 p2 σ) := by
  refine on_met [some (.ref (z + 59)), some (.int (on_i p0)), some (.int (on_i p1)), some (.int (on_i p2))] (by decide) rfl rfl (fun X => ?_)
  rw [pf_X1_addRow]
  refine on_al0 (tk_X1_addRow 0 rfl) ?_
  refine fg_1_2 hN kw_2_69 (tk_X1_addRow 1 rfl) ?_
  refine on_il1 (tk_X1_addRow 2 rfl) ?_
  refine on_iald (ltc_60 hN) sh_60 (tk_X1_addRow 3 rfl) fun v1 => ?_
  refine on_if_eq (tk_X1_addRow 4 rfl) (tgt := 19) (by decide) ?_ ?_
  · refine on_il3 (tk_X1_addRow 5 rfl) ?_
    refine on_al0 (tk_X1_addRow 6 rfl) ?_
    refine fg_1_3 hN kw_2_70 (tk_X1_addRow 7 rfl) ?_
    refine on_il1 (tk_X1_addRow 8 rfl) ?_
    refine on_iald (ltc_61 hN) sh_61 (tk_X1_addRow 9 rfl) fun v2 => ?_
    refine on_icmp_ge (tk_X1_addRow 10 rfl) (tgt := 33) (by decide) ?_ ?_
    · exact gb_X1_addRow_19 X  hN _ _ _ _
    · refine on_dr2 ?_
      refine on_dr3 ?_
      exact gb_X1_addRow_33 X  hN _ _
  · exact gb_X1_addRow_19 X  hN _ _ _ _
def tb_X1_gather : List (Nat × Nat × Nat × Instr) := [(0, 1, 1, .iload_n 1), (1, 3, 4, .sipush 512), (4, 1, 5, .imul), (5, 1, 6, .istore_n 2), (6, 1, 7, .aload_n 0), (7, 3, 10, .getfield 21), (10, 1, 11, .iload_n 1), (11, 3, 14, .invokevirtual 66), (14, 3, 17, .ifCond .eq 14), (17, 1, 18, .aload_n 0), (18, 3, 21, .getfield 21), (21, 1, 22, .iload_n 1), (22, 3, 25, .invokevirtual 70), (25, 3, 28, .goto 4), (28, 1, 29, .iconst 0), (29, 1, 30, .istore_n 3), (30, 1, 31, .iload_n 3), (31, 3, 34, .ifCond .ne 9), (34, 1, 35, .aload_n 0), (35, 1, 36, .iload_n 2), (36, 3, 39, .invokevirtual 74), (39, 1, 40, .return_), (40, 1, 41, .aload_n 0), (41, 3, 44, .getfield 25), (44, 1, 45, .iload_n 1), (45, 1, 46, .aload_n 0), (46, 3, 49, .getfield 21), (49, 3, 52, .getfield 77), (52, 3, 55, .getfield 81), (55, 1, 56, .iload_n 1), (56, 1, 57, .iaload), (57, 3, 60, .invokevirtual 86), (60, 1, 61, .iconst 0), (61, 2, 63, .istore 4), (63, 2, 65, .iload 4), (65, 3, 68, .sipush 378), (68, 3, 71, .if_icmp .ge 68), (71, 1, 72, .aload_n 0), (72, 3, 75, .getfield 25), (75, 3, 78, .getfield 91), (78, 2, 80, .iload 4), (80, 1, 81, .iaload), (81, 2, 83, .istore 5), (83, 1, 84, .aload_n 0), (84, 3, 87, .getfield 25), (87, 2, 89, .iload 5), (89, 3, 92, .invokevirtual 94), (92, 3, 95, .ifCond .eq 38), (95, 1, 96, .aload_n 0), (96, 3, 99, .getfield 25), (99, 2, 101, .iload 5), (101, 3, 104, .invokevirtual 97), (104, 1, 105, .iload_n 3), (105, 3, 108, .if_icmp .lt 25), (108, 1, 109, .aload_n 0), (109, 1, 110, .iload_n 2), (110, 2, 112, .iload 5), (112, 3, 115, .invokestatic 100), (115, 1, 116, .iadd), (116, 2, 118, .iload 5), (118, 1, 119, .aload_n 0), (119, 3, 122, .getfield 25), (122, 2, 124, .iload 5), (124, 3, 127, .invokevirtual 103), (127, 3, 130, .invokevirtual 106), (130, 3, 133, .iinc 4 1), (133, 3, 136, .goto (-70)), (136, 1, 137, .return_)]
set_option maxRecDepth 100000 in
theorem tk_X1_gather (k : Nat) {pc n pc2 : Nat} {i : Instr} (hk : tb_X1_gather[k]? = some (pc, n, pc2, i)) : on_dq cX1_gather pc n pc2 i := on_ta (by decide +kernel) k hk
theorem ms_X1_gather : on_Mv yX1_gather cX1_gather 6 none 1 := ⟨kw_5_26, kw_5_24, kw_5_25, kw_1_8, by decide, by decide, by decide +kernel⟩
def pf_X1_gather_63 : Nat → Int → Int → Int → on_S → Option on_O
  | 0, _, _, _, _ => none
  | nf + 1, l2, l3, l4, σ =>
    on_Lt l4 378 (
      on_Rd σ 56 378 l4 fun v10 =>
      on_Cl (pf_X7_isThere v10 σ) fun v11 σ12 =>
      on_Eq v11 0 (
        pf_X1_gather_63 nf l2 l3 (l4 + 1) σ12) (
        on_Cl (pf_X7_carriedBy v10 σ12) fun v13 σ14 =>
        on_Lt v13 l3 (
          pf_X1_gather_63 nf l2 l3 (l4 + 1) σ14) (
          on_Cl (pf_X7_menIn v10 σ14) fun v15 σ16 =>
          on_Cl (pf_X7_quarrelsIn v10 σ16) fun v17 σ18 =>
          on_Cl (pf_X1_addRow (l2 + v15) v10 v17 σ18) fun _ σ20 =>
          pf_X1_gather_63 nf l2 l3 (l4 + 1) σ20))) (
      some (0, σ))
def pf_X1_gather_29 (l1 : Int) (l2 : Int) (s0 : Int) (σ : on_S) : Option on_O :=
  on_Eq s0 0 (
    on_Cl (pf_X1_leaveEmpty l2 σ) fun _ σ6 =>
    some (0, σ6)) (
    on_Rd σ (2 + 15) 2 l1 fun v7 =>
    on_Cl (pf_X7_prepare l1 v7 σ) fun _ σ9 =>
    pf_X1_gather_63 on_N l2 s0 0 σ9)
def pf_X1_gather (p0 : Int) (σ : on_S) : Option on_O :=
  on_Cl (pf_X9_hasNet 2 p0 σ) fun v1 σ2 =>
  on_Eq v1 0 (
    pf_X1_gather_29 p0 (p0 * 512) 0 σ2) (
    on_Cl (pf_X9_needOf 2 p0 σ2) fun v3 σ4 =>
    pf_X1_gather_29 p0 (p0 * 512) v3 σ4)
set_option maxRecDepth 100000 in
set_option maxHeartbeats 4000000 in
theorem gl_X1_gather_63 {E : on_E} {z n : Nat} (X : on_X) (hN : 100 ≤ n) : ∀ (nf : Nat) (l2 : Int) (l3 : Int) (l4 : Int) (σ : on_S), on_G X E cX1_gather RX1 none 2 53 6 z n σ (pf_X1_gather_63 nf l2 l3 l4 σ) 63 [some (.ref (z + 59)), none, some (.int (on_i l2)), some (.int (on_i l3)), some (.int (on_i l4)), none] [] := by
  intro nf
  induction nf with
  | zero => intro l2 l3 l4 σ; exact on_none
  | succ nf ih =>
    intro l2 l3 l4 σ
    rw [pf_X1_gather_63]
    refine on_il4 (tk_X1_gather 34 rfl) ?_
    refine on_sipush (tk_X1_gather 35 rfl) sp_378 ?_
    refine on_icmp_ge (tk_X1_gather 36 rfl) (tgt := 136) (by decide) ?_ ?_
    · refine on_al0 (tk_X1_gather 37 rfl) ?_
      refine fg_1_1 hN kw_2_68 (tk_X1_gather 38 rfl) ?_
      refine fg_7_1 hN kw_2_43 (tk_X1_gather 39 rfl) ?_
      refine on_il4 (tk_X1_gather 40 rfl) ?_
      refine on_iald (ltc_56 hN) sh_56 (tk_X1_gather 41 rfl) fun v10 => ?_
      refine on_is5 rfl (tk_X1_gather 42 rfl) ?_
      refine on_al0 (tk_X1_gather 43 rfl) ?_
      refine fg_1_1 hN kw_2_68 (tk_X1_gather 44 rfl) ?_
      refine on_il5 (tk_X1_gather 45 rfl) ?_
      refine on_cV1z 7 ms_X7_isThere kw_5_34 rfl rfl (ltc_55 hN) sh_55 (ct_X7_isThere hN) rfl (tk_X1_gather 46 rfl) fun v11 σ12 => ?_
      refine on_if_eq (tk_X1_gather 47 rfl) (tgt := 130) (by decide) ?_ ?_
      · refine on_al0 (tk_X1_gather 48 rfl) ?_
        refine fg_1_1 hN kw_2_68 (tk_X1_gather 49 rfl) ?_
        refine on_il5 (tk_X1_gather 50 rfl) ?_
        refine on_cV1i 7 ms_X7_carriedBy kw_5_35 rfl rfl (ltc_55 hN) sh_55 (ct_X7_carriedBy hN) rfl (tk_X1_gather 51 rfl) fun v13 σ14 => ?_
        refine on_il3 (tk_X1_gather 52 rfl) ?_
        refine on_icmp_lt (tk_X1_gather 53 rfl) (tgt := 130) (by decide) ?_ ?_
        · refine on_al0 (tk_X1_gather 54 rfl) ?_
          refine on_il2 (tk_X1_gather 55 rfl) ?_
          refine on_il5 (tk_X1_gather 56 rfl) ?_
          refine on_cS1i ms_X7_menIn kw_5_36 (ct_X7_menIn hN) rfl (tk_X1_gather 57 rfl) fun v15 σ16 => ?_
          refine on_iadd (tk_X1_gather 58 rfl) ?_
          refine on_il5 (tk_X1_gather 59 rfl) ?_
          refine on_al0 (tk_X1_gather 60 rfl) ?_
          refine fg_1_1 hN kw_2_68 (tk_X1_gather 61 rfl) ?_
          refine on_il5 (tk_X1_gather 62 rfl) ?_
          refine on_cV1i 7 ms_X7_quarrelsIn kw_5_39 rfl rfl (ltc_55 hN) sh_55 (ct_X7_quarrelsIn hN) rfl (tk_X1_gather 63 rfl) fun v17 σ18 => ?_
          refine on_cV3v 1 ms_X1_addRow kw_5_43 rfl rfl (ltc_59 hN) sh_59 (ct_X1_addRow hN) rfl (tk_X1_gather 64 rfl) fun v19 σ20 => ?_
          refine on_inc4 rfl (tk_X1_gather 65 rfl) ?_
          refine on_goto (tk_X1_gather 66 rfl) (tgt := 63) (by decide) ?_
          refine on_dr5 ?_
          exact ih _ _ _ _
        · refine on_inc4 rfl (tk_X1_gather 65 rfl) ?_
          refine on_goto (tk_X1_gather 66 rfl) (tgt := 63) (by decide) ?_
          refine on_dr5 ?_
          exact ih _ _ _ _
      · refine on_inc4 rfl (tk_X1_gather 65 rfl) ?_
        refine on_goto (tk_X1_gather 66 rfl) (tgt := 63) (by decide) ?_
        refine on_dr5 ?_
        exact ih _ _ _ _
    · exact on_vret (tk_X1_gather 67 rfl)
set_option maxRecDepth 100000 in
set_option maxHeartbeats 4000000 in
theorem gb_X1_gather_29 {E : on_E} {z n : Nat} (X : on_X) (hN : 100 ≤ n) (l1 : Int) (l2 : Int) (s0 : Int) (σ : on_S) : on_G X E cX1_gather RX1 none 2 53 6 z n σ (pf_X1_gather_29 l1 l2 s0 σ) 29 [some (.ref (z + 59)), some (.int (on_i l1)), some (.int (on_i l2)), none, none, none] [.int (on_i s0)] := by
  rw [pf_X1_gather_29]
  refine on_is3 rfl (tk_X1_gather 15 rfl) ?_
  refine on_il3 (tk_X1_gather 16 rfl) ?_
  refine on_if_ne (tk_X1_gather 17 rfl) (tgt := 40) (by decide) ?_ ?_
  · refine on_al0 (tk_X1_gather 18 rfl) ?_
    refine on_il2 (tk_X1_gather 19 rfl) ?_
    refine on_cV1v 1 ms_X1_leaveEmpty kw_5_29 rfl rfl (ltc_59 hN) sh_59 (ct_X1_leaveEmpty hN) rfl (tk_X1_gather 20 rfl) fun v5 σ6 => ?_
    exact on_vret (tk_X1_gather 21 rfl)
  · refine on_al0 (tk_X1_gather 22 rfl) ?_
    refine fg_1_1 hN kw_2_68 (tk_X1_gather 23 rfl) ?_
    refine on_il1 (tk_X1_gather 24 rfl) ?_
    refine on_al0 (tk_X1_gather 25 rfl) ?_
    refine fg_1_0 hN kw_2_67 (tk_X1_gather 26 rfl) ?_
    refine fg_9_13 (on_Sb2 hN) kw_1_193 (tk_X1_gather 27 rfl) ?_
    refine fg_4_1 (on_Sb2 hN) kw_1_92 (tk_X1_gather 28 rfl) ?_
    refine on_il1 (tk_X1_gather 29 rfl) ?_
    refine on_iald (ltS_15 (on_Sb2 hN)) (shS_15 (on_Sb2 hN)) (tk_X1_gather 30 rfl) fun v7 => ?_
    refine on_cV2v 7 ms_X7_prepare kw_5_33 rfl rfl (ltc_55 hN) sh_55 (ct_X7_prepare hN) rfl (tk_X1_gather 31 rfl) fun v8 σ9 => ?_
    refine on_iconst (tk_X1_gather 32 rfl) ?_
    refine on_is4 rfl (tk_X1_gather 33 rfl) ?_
    refine on_dr1 ?_
    exact gl_X1_gather_63 X  hN on_N _ _ _ _
set_option maxRecDepth 100000 in
set_option maxHeartbeats 4000000 in
theorem ct_X1_gather {E : on_E} {z n : Nat} {p0 : Int} (hN : 100 ≤ n) {σ : on_S} : on_Sp E yX1_gather cX1_gather 6 none 2 53 z n [.ref (z + 59), .int (on_i p0)] σ (pf_X1_gather p0 σ) := by
  refine on_met [some (.ref (z + 59)), some (.int (on_i p0)), none, none, none, none] (by decide) rfl rfl (fun X => ?_)
  rw [pf_X1_gather]
  refine on_il1 (tk_X1_gather 0 rfl) ?_
  refine on_sipush (tk_X1_gather 1 rfl) sp_512 ?_
  refine on_imul (tk_X1_gather 2 rfl) ?_
  refine on_is2 rfl (tk_X1_gather 3 rfl) ?_
  refine on_al0 (tk_X1_gather 4 rfl) ?_
  refine fg_1_0 hN kw_2_67 (tk_X1_gather 5 rfl) ?_
  refine on_il1 (tk_X1_gather 6 rfl) ?_
  refine on_cV1z 9 ms_X9_hasNet kw_5_27 rfl rfl (ltS_0 (on_Sb2 hN)) (shS_0 (on_Sb2 hN)) (ct_X9_hasNet hN (on_Sb2 hN)) rfl (tk_X1_gather 7 rfl) fun v1 σ2 => ?_
  refine on_if_eq (tk_X1_gather 8 rfl) (tgt := 28) (by decide) ?_ ?_
  · refine on_al0 (tk_X1_gather 9 rfl) ?_
    refine fg_1_0 hN kw_2_67 (tk_X1_gather 10 rfl) ?_
    refine on_il1 (tk_X1_gather 11 rfl) ?_
    refine on_cV1i 9 ms_X9_needOf kw_5_28 rfl rfl (ltS_0 (on_Sb2 hN)) (shS_0 (on_Sb2 hN)) (ct_X9_needOf hN (on_Sb2 hN)) rfl (tk_X1_gather 12 rfl) fun v3 σ4 => ?_
    refine on_goto (tk_X1_gather 13 rfl) (tgt := 29) (by decide) ?_
    exact gb_X1_gather_29 X  hN _ _ _ _
  · refine on_iconst (tk_X1_gather 14 rfl) ?_
    exact gb_X1_gather_29 X  hN _ _ _ _
def tb_X1_comesFirst : List (Nat × Nat × Nat × Instr) := [(0, 1, 1, .iload_n 1), (1, 1, 2, .aload_n 0), (2, 3, 5, .getfield 46), (5, 3, 8, .if_icmp .lt 19), (8, 1, 9, .iload_n 1), (9, 1, 10, .aload_n 0), (10, 3, 13, .getfield 46), (13, 3, 16, .if_icmp .ne 15), (16, 1, 17, .iload_n 2), (17, 1, 18, .aload_n 0), (18, 3, 21, .getfield 49), (21, 3, 24, .if_icmp .ge 7), (24, 1, 25, .iconst 1), (25, 3, 28, .goto 4), (28, 1, 29, .iconst 0), (29, 1, 30, .ireturn)]
set_option maxRecDepth 100000 in
theorem tk_X1_comesFirst (k : Nat) {pc n pc2 : Nat} {i : Instr} (hk : tb_X1_comesFirst[k]? = some (pc, n, pc2, i)) : on_dq cX1_comesFirst pc n pc2 i := on_ta (by decide +kernel) k hk
theorem ms_X1_comesFirst : on_Mv yX1_comesFirst cX1_comesFirst 3 (some .boolean) 2 := ⟨kw_5_58, kw_5_56, kw_5_57, kw_1_8, by decide, by decide, by decide +kernel⟩
def pf_X1_comesFirst_24 (σ : on_S) : Option on_O :=
  some (1, σ)
def pf_X1_comesFirst_28 (σ : on_S) : Option on_O :=
  some (0, σ)
def pf_X1_comesFirst (p0 : Int) (p1 : Int) (σ : on_S) : Option on_O :=
  on_Gt σ 59 7 fun v1 =>
  on_Lt p0 v1 (
    pf_X1_comesFirst_24 σ) (
    on_Gt σ 59 7 fun v2 =>
    on_Eq p0 v2 (
      on_Gt σ 59 8 fun v3 =>
      on_Lt p1 v3 (
        pf_X1_comesFirst_24 σ) (
        pf_X1_comesFirst_28 σ)) (
      pf_X1_comesFirst_28 σ))
set_option maxRecDepth 100000 in
set_option maxHeartbeats 4000000 in
theorem gb_X1_comesFirst_24 {E : on_E} {z n : Nat} (X : on_X) (hN : 100 ≤ n) (σ : on_S) : on_G X E cX1_comesFirst RX1 (some .boolean) 0 0 3 z n σ (pf_X1_comesFirst_24  σ) 24 [none, none, none] [] := by
  rw [pf_X1_comesFirst_24]
  refine on_iconst (tk_X1_comesFirst 12 rfl) ?_
  refine on_goto (tk_X1_comesFirst 13 rfl) (tgt := 29) (by decide) ?_
  exact on_zret1 (tk_X1_comesFirst 15 rfl)
set_option maxRecDepth 100000 in
set_option maxHeartbeats 4000000 in
theorem gb_X1_comesFirst_28 {E : on_E} {z n : Nat} (X : on_X) (hN : 100 ≤ n) (σ : on_S) : on_G X E cX1_comesFirst RX1 (some .boolean) 0 0 3 z n σ (pf_X1_comesFirst_28  σ) 28 [none, none, none] [] := by
  rw [pf_X1_comesFirst_28]
  refine on_iconst (tk_X1_comesFirst 14 rfl) ?_
  exact on_zret0 (tk_X1_comesFirst 15 rfl)
set_option maxRecDepth 100000 in
set_option maxHeartbeats 4000000 in
theorem ct_X1_comesFirst {E : on_E} {z n : Nat} {p0 : Int} {p1 : Int} (hN : 100 ≤ n) {σ : on_S} : on_Sp E yX1_comesFirst cX1_comesFirst 3 (some .boolean) 0 0 z n [.ref (z + 59), .int (on_i p0), .int (on_i p1)] σ (pf_X1_comesFirst p0 p1 σ) := by
  refine on_met [some (.ref (z + 59)), some (.int (on_i p0)), some (.int (on_i p1))] (by decide) rfl rfl (fun X => ?_)
  rw [pf_X1_comesFirst]
  refine on_il1 (tk_X1_comesFirst 0 rfl) ?_
  refine on_al0 (tk_X1_comesFirst 1 rfl) ?_
  refine fg_1_7 hN kw_2_76 (tk_X1_comesFirst 2 rfl) fun v1 => ?_
  refine on_icmp_lt (tk_X1_comesFirst 3 rfl) (tgt := 24) (by decide) ?_ ?_
  · refine on_il1 (tk_X1_comesFirst 4 rfl) ?_
    refine on_al0 (tk_X1_comesFirst 5 rfl) ?_
    refine fg_1_7 hN kw_2_76 (tk_X1_comesFirst 6 rfl) fun v2 => ?_
    refine on_icmp_ne (tk_X1_comesFirst 7 rfl) (tgt := 28) (by decide) ?_ ?_
    · refine on_il2 (tk_X1_comesFirst 8 rfl) ?_
      refine on_al0 (tk_X1_comesFirst 9 rfl) ?_
      refine fg_1_8 hN kw_2_78 (tk_X1_comesFirst 10 rfl) fun v3 => ?_
      refine on_icmp_ge (tk_X1_comesFirst 11 rfl) (tgt := 28) (by decide) ?_ ?_
      · refine on_dr0 ?_
        refine on_dr1 ?_
        refine on_dr2 ?_
        exact gb_X1_comesFirst_24 X  hN _
      · refine on_dr0 ?_
        refine on_dr1 ?_
        refine on_dr2 ?_
        exact gb_X1_comesFirst_28 X  hN _
    · refine on_dr0 ?_
      refine on_dr1 ?_
      refine on_dr2 ?_
      exact gb_X1_comesFirst_28 X  hN _
  · refine on_dr0 ?_
    refine on_dr1 ?_
    refine on_dr2 ?_
    exact gb_X1_comesFirst_24 X  hN _
def tb_X1_weighPair : List (Nat × Nat × Nat × Instr) := [(0, 1, 1, .aload_n 0), (1, 3, 4, .getfield 15), (4, 1, 5, .iload_n 1), (5, 1, 6, .iaload), (6, 1, 7, .aload_n 0), (7, 3, 10, .getfield 15), (10, 1, 11, .iload_n 2), (11, 1, 12, .iaload), (12, 1, 13, .iadd), (13, 1, 14, .istore_n 3), (14, 1, 15, .aload_n 0), (15, 3, 18, .getfield 39), (18, 1, 19, .iconst (-1)), (19, 3, 22, .if_icmp .eq 38), (22, 1, 23, .iload_n 3), (23, 1, 24, .aload_n 0), (24, 3, 27, .getfield 39), (27, 3, 30, .if_icmp .lt 30), (30, 1, 31, .iload_n 3), (31, 1, 32, .aload_n 0), (32, 3, 35, .getfield 39), (35, 3, 38, .if_icmp .ne 47), (38, 1, 39, .aload_n 0), (39, 1, 40, .aload_n 0), (40, 3, 43, .getfield 18), (43, 1, 44, .iload_n 1), (44, 1, 45, .iaload), (45, 1, 46, .aload_n 0), (46, 3, 49, .getfield 18), (49, 1, 50, .iload_n 2), (50, 1, 51, .iaload), (51, 3, 54, .invokevirtual 113), (54, 3, 57, .ifCond .eq 28), (57, 1, 58, .aload_n 0), (58, 1, 59, .iload_n 3), (59, 3, 62, .putfield 39), (62, 1, 63, .aload_n 0), (63, 1, 64, .aload_n 0), (64, 3, 67, .getfield 18), (67, 1, 68, .iload_n 1), (68, 1, 69, .iaload), (69, 3, 72, .putfield 46), (72, 1, 73, .aload_n 0), (73, 1, 74, .aload_n 0), (74, 3, 77, .getfield 18), (77, 1, 78, .iload_n 2), (78, 1, 79, .iaload), (79, 3, 82, .putfield 49), (82, 1, 83, .return_)]
set_option maxRecDepth 100000 in
theorem tk_X1_weighPair (k : Nat) {pc n pc2 : Nat} {i : Instr} (hk : tb_X1_weighPair[k]? = some (pc, n, pc2, i)) : on_dq cX1_weighPair pc n pc2 i := on_ta (by decide +kernel) k hk
theorem ms_X1_weighPair : on_Mv yX1_weighPair cX1_weighPair 4 none 2 := ⟨kw_5_54, kw_5_52, kw_5_53, kw_1_8, by decide, by decide, by decide +kernel⟩
def pf_X1_weighPair_57 (l1 : Int) (l2 : Int) (l3 : Int) (σ : on_S) : Option on_O :=
  on_Pt σ 59 5 l3 fun σ10 =>
  on_Rd σ10 62 1024 l1 fun v11 =>
  on_Pt σ10 59 7 v11 fun σ12 =>
  on_Rd σ12 62 1024 l2 fun v13 =>
  on_Pt σ12 59 8 v13 fun σ14 =>
  some (0, σ14)
def pf_X1_weighPair (p0 : Int) (p1 : Int) (σ : on_S) : Option on_O :=
  on_Rd σ 61 1024 p0 fun v1 =>
  on_Rd σ 61 1024 p1 fun v2 =>
  on_Gt σ 59 5 fun v3 =>
  on_Eq v3 (-1) (
    pf_X1_weighPair_57 p0 p1 (v1 + v2) σ) (
    on_Gt σ 59 5 fun v4 =>
    on_Lt (v1 + v2) v4 (
      pf_X1_weighPair_57 p0 p1 (v1 + v2) σ) (
      on_Gt σ 59 5 fun v5 =>
      on_Eq (v1 + v2) v5 (
        on_Rd σ 62 1024 p0 fun v6 =>
        on_Rd σ 62 1024 p1 fun v7 =>
        on_Cl (pf_X1_comesFirst v6 v7 σ) fun v8 σ9 =>
        on_Eq v8 0 (
          some (0, σ9)) (
          pf_X1_weighPair_57 p0 p1 (v1 + v2) σ9)) (
        some (0, σ))))
set_option maxRecDepth 100000 in
set_option maxHeartbeats 4000000 in
theorem gb_X1_weighPair_57 {E : on_E} {z n : Nat} (X : on_X) (hN : 100 ≤ n) (l1 : Int) (l2 : Int) (l3 : Int) (σ : on_S) : on_G X E cX1_weighPair RX1 none 1 22 4 z n σ (pf_X1_weighPair_57 l1 l2 l3 σ) 57 [some (.ref (z + 59)), some (.int (on_i l1)), some (.int (on_i l2)), some (.int (on_i l3))] [] := by
  rw [pf_X1_weighPair_57]
  refine on_al0 (tk_X1_weighPair 33 rfl) ?_
  refine on_il3 (tk_X1_weighPair 34 rfl) ?_
  refine fp_1_5 hN kw_2_72 (tk_X1_weighPair 35 rfl) fun σ10 => ?_
  refine on_al0 (tk_X1_weighPair 36 rfl) ?_
  refine on_al0 (tk_X1_weighPair 37 rfl) ?_
  refine fg_1_4 hN kw_2_71 (tk_X1_weighPair 38 rfl) ?_
  refine on_il1 (tk_X1_weighPair 39 rfl) ?_
  refine on_iald (ltc_62 hN) sh_62 (tk_X1_weighPair 40 rfl) fun v11 => ?_
  refine fp_1_7 hN kw_2_76 (tk_X1_weighPair 41 rfl) fun σ12 => ?_
  refine on_al0 (tk_X1_weighPair 42 rfl) ?_
  refine on_al0 (tk_X1_weighPair 43 rfl) ?_
  refine fg_1_4 hN kw_2_71 (tk_X1_weighPair 44 rfl) ?_
  refine on_il2 (tk_X1_weighPair 45 rfl) ?_
  refine on_iald (ltc_62 hN) sh_62 (tk_X1_weighPair 46 rfl) fun v13 => ?_
  refine fp_1_8 hN kw_2_78 (tk_X1_weighPair 47 rfl) fun σ14 => ?_
  exact on_vret (tk_X1_weighPair 48 rfl)
set_option maxRecDepth 100000 in
set_option maxHeartbeats 4000000 in
theorem ct_X1_weighPair {E : on_E} {z n : Nat} {p0 : Int} {p1 : Int} (hN : 100 ≤ n) {σ : on_S} : on_Sp E yX1_weighPair cX1_weighPair 4 none 1 22 z n [.ref (z + 59), .int (on_i p0), .int (on_i p1)] σ (pf_X1_weighPair p0 p1 σ) := by
  refine on_met [some (.ref (z + 59)), some (.int (on_i p0)), some (.int (on_i p1)), none] (by decide) rfl rfl (fun X => ?_)
  rw [pf_X1_weighPair]
  refine on_al0 (tk_X1_weighPair 0 rfl) ?_
  refine fg_1_3 hN kw_2_70 (tk_X1_weighPair 1 rfl) ?_
  refine on_il1 (tk_X1_weighPair 2 rfl) ?_
  refine on_iald (ltc_61 hN) sh_61 (tk_X1_weighPair 3 rfl) fun v1 => ?_
  refine on_al0 (tk_X1_weighPair 4 rfl) ?_
  refine fg_1_3 hN kw_2_70 (tk_X1_weighPair 5 rfl) ?_
  refine on_il2 (tk_X1_weighPair 6 rfl) ?_
  refine on_iald (ltc_61 hN) sh_61 (tk_X1_weighPair 7 rfl) fun v2 => ?_
  refine on_iadd (tk_X1_weighPair 8 rfl) ?_
  refine on_is3 rfl (tk_X1_weighPair 9 rfl) ?_
  refine on_al0 (tk_X1_weighPair 10 rfl) ?_
  refine fg_1_5 hN kw_2_72 (tk_X1_weighPair 11 rfl) fun v3 => ?_
  refine on_iconst (tk_X1_weighPair 12 rfl) ?_
  refine on_icmp_eq (tk_X1_weighPair 13 rfl) (tgt := 57) (by decide) ?_ ?_
  · refine on_il3 (tk_X1_weighPair 14 rfl) ?_
    refine on_al0 (tk_X1_weighPair 15 rfl) ?_
    refine fg_1_5 hN kw_2_72 (tk_X1_weighPair 16 rfl) fun v4 => ?_
    refine on_icmp_lt (tk_X1_weighPair 17 rfl) (tgt := 57) (by decide) ?_ ?_
    · refine on_il3 (tk_X1_weighPair 18 rfl) ?_
      refine on_al0 (tk_X1_weighPair 19 rfl) ?_
      refine fg_1_5 hN kw_2_72 (tk_X1_weighPair 20 rfl) fun v5 => ?_
      refine on_icmp_ne (tk_X1_weighPair 21 rfl) (tgt := 82) (by decide) ?_ ?_
      · refine on_al0 (tk_X1_weighPair 22 rfl) ?_
        refine on_al0 (tk_X1_weighPair 23 rfl) ?_
        refine fg_1_4 hN kw_2_71 (tk_X1_weighPair 24 rfl) ?_
        refine on_il1 (tk_X1_weighPair 25 rfl) ?_
        refine on_iald (ltc_62 hN) sh_62 (tk_X1_weighPair 26 rfl) fun v6 => ?_
        refine on_al0 (tk_X1_weighPair 27 rfl) ?_
        refine fg_1_4 hN kw_2_71 (tk_X1_weighPair 28 rfl) ?_
        refine on_il2 (tk_X1_weighPair 29 rfl) ?_
        refine on_iald (ltc_62 hN) sh_62 (tk_X1_weighPair 30 rfl) fun v7 => ?_
        refine on_cV2z 1 ms_X1_comesFirst kw_5_55 rfl rfl (ltc_59 hN) sh_59 (ct_X1_comesFirst hN) rfl (tk_X1_weighPair 31 rfl) fun v8 σ9 => ?_
        refine on_if_eq (tk_X1_weighPair 32 rfl) (tgt := 82) (by decide) ?_ ?_
        · exact gb_X1_weighPair_57 X  hN _ _ _ _
        · exact on_vret (tk_X1_weighPair 48 rfl)
      · exact on_vret (tk_X1_weighPair 48 rfl)
    · exact gb_X1_weighPair_57 X  hN _ _ _ _
  · exact gb_X1_weighPair_57 X  hN _ _ _ _
def tb_X1_pairUp : List (Nat × Nat × Nat × Instr) := [(0, 1, 1, .iload_n 2), (1, 1, 2, .istore_n 3), (2, 1, 3, .iconst 0), (3, 2, 5, .istore 4), (5, 2, 7, .iload 4), (7, 3, 10, .sipush 512), (10, 3, 13, .if_icmp .ge 71), (13, 1, 14, .aload_n 0), (14, 3, 17, .getfield 11), (17, 3, 20, .sipush 512), (20, 1, 21, .iload_n 3), (21, 1, 22, .iadd), (22, 1, 23, .iaload), (23, 3, 26, .ifCond .le 39), (26, 1, 27, .aload_n 0), (27, 1, 28, .dup), (28, 3, 31, .getfield 43), (31, 1, 32, .aload_n 0), (32, 3, 35, .getfield 11), (35, 1, 36, .iload_n 1), (36, 1, 37, .iaload), (37, 1, 38, .aload_n 0), (38, 3, 41, .getfield 11), (41, 3, 44, .sipush 512), (44, 1, 45, .iload_n 3), (45, 1, 46, .iadd), (46, 1, 47, .iaload), (47, 1, 48, .imul), (48, 1, 49, .iadd), (49, 3, 52, .putfield 43), (52, 1, 53, .aload_n 0), (53, 1, 54, .iload_n 1), (54, 3, 57, .sipush 512), (57, 1, 58, .iload_n 3), (58, 1, 59, .iadd), (59, 3, 62, .invokevirtual 110), (62, 1, 63, .iload_n 3), (63, 3, 66, .ifCond .ne 6), (66, 3, 69, .goto 15), (69, 1, 70, .iload_n 3), (70, 1, 71, .iconst 1), (71, 1, 72, .isub), (72, 1, 73, .iload_n 2), (73, 1, 74, .iand), (74, 1, 75, .istore_n 3), (75, 3, 78, .iinc 4 1), (78, 3, 81, .goto (-73)), (81, 1, 82, .return_)]
set_option maxRecDepth 100000 in
theorem tk_X1_pairUp (k : Nat) {pc n pc2 : Nat} {i : Instr} (hk : tb_X1_pairUp[k]? = some (pc, n, pc2, i)) : on_dq cX1_pairUp pc n pc2 i := on_ta (by decide +kernel) k hk
theorem ms_X1_pairUp : on_Mv yX1_pairUp cX1_pairUp 5 none 2 := ⟨kw_5_50, kw_5_48, kw_5_49, kw_1_8, by decide, by decide, by decide +kernel⟩
def pf_X1_pairUp_62 (k5 : Int → Int → Int → Int → on_S → Option on_O) (l1 : Int) (l2 : Int) (l3 : Int) (l4 : Int) (σ : on_S) : Option on_O :=
  on_Eq l3 0 (
    some (0, σ)) (
    k5 l1 l2 (on_and (l3 - 1) l2) (l4 + 1) σ)
def pf_X1_pairUp_5 : Nat → Int → Int → Int → Int → on_S → Option on_O
  | 0, _, _, _, _, _ => none
  | nf + 1, l1, l2, l3, l4, σ =>
    on_Lt l4 512 (
      on_Rd σ 60 1024 (512 + l3) fun v1 =>
      on_Le v1 0 (
        pf_X1_pairUp_62 (pf_X1_pairUp_5 nf) l1 l2 l3 l4 σ) (
        on_Gt σ 59 6 fun v2 =>
        on_Rd σ 60 1024 l1 fun v3 =>
        on_Rd σ 60 1024 (512 + l3) fun v4 =>
        on_Pt σ 59 6 (v2 + (v3 * v4)) fun σ5 =>
        on_Cl (pf_X1_weighPair l1 (512 + l3) σ5) fun _ σ7 =>
        pf_X1_pairUp_62 (pf_X1_pairUp_5 nf) l1 l2 l3 l4 σ7)) (
      some (0, σ))
def pf_X1_pairUp (p0 : Int) (p1 : Int) (σ : on_S) : Option on_O :=
  pf_X1_pairUp_5 on_N p0 p1 p1 0 σ
set_option maxRecDepth 100000 in
set_option maxHeartbeats 4000000 in
theorem gb_X1_pairUp_62 {E : on_E} {z n : Nat} (X : on_X) (k5 : Int → Int → Int → Int → on_S → Option on_O) (hN : 100 ≤ n) (hk5 : ∀ (l1 : Int) (l2 : Int) (l3 : Int) (l4 : Int) (σ : on_S), on_G X E cX1_pairUp RX1 none 2 45 5 z n σ (k5 l1 l2 l3 l4 σ) 5 [some (.ref (z + 59)), some (.int (on_i l1)), some (.int (on_i l2)), some (.int (on_i l3)), some (.int (on_i l4))] []) (l1 : Int) (l2 : Int) (l3 : Int) (l4 : Int) (σ : on_S) : on_G X E cX1_pairUp RX1 none 2 45 5 z n σ (pf_X1_pairUp_62 k5 l1 l2 l3 l4 σ) 62 [some (.ref (z + 59)), some (.int (on_i l1)), some (.int (on_i l2)), some (.int (on_i l3)), some (.int (on_i l4))] [] := by
  rw [pf_X1_pairUp_62]
  refine on_il3 (tk_X1_pairUp 36 rfl) ?_
  refine on_if_ne (tk_X1_pairUp 37 rfl) (tgt := 69) (by decide) ?_ ?_
  · refine on_goto (tk_X1_pairUp 38 rfl) (tgt := 81) (by decide) ?_
    exact on_vret (tk_X1_pairUp 47 rfl)
  · refine on_il3 (tk_X1_pairUp 39 rfl) ?_
    refine on_iconst (tk_X1_pairUp 40 rfl) ?_
    refine on_isub (tk_X1_pairUp 41 rfl) ?_
    refine on_il2 (tk_X1_pairUp 42 rfl) ?_
    refine on_iand (tk_X1_pairUp 43 rfl) ?_
    refine on_is3 rfl (tk_X1_pairUp 44 rfl) ?_
    refine on_inc4 rfl (tk_X1_pairUp 45 rfl) ?_
    refine on_goto (tk_X1_pairUp 46 rfl) (tgt := 5) (by decide) ?_
    exact hk5 _ _ _ _ _
set_option maxRecDepth 100000 in
set_option maxHeartbeats 4000000 in
theorem gl_X1_pairUp_5 {E : on_E} {z n : Nat} (X : on_X) (hN : 100 ≤ n) : ∀ (nf : Nat) (l1 : Int) (l2 : Int) (l3 : Int) (l4 : Int) (σ : on_S), on_G X E cX1_pairUp RX1 none 2 45 5 z n σ (pf_X1_pairUp_5 nf l1 l2 l3 l4 σ) 5 [some (.ref (z + 59)), some (.int (on_i l1)), some (.int (on_i l2)), some (.int (on_i l3)), some (.int (on_i l4))] [] := by
  intro nf
  induction nf with
  | zero => intro l1 l2 l3 l4 σ; exact on_none
  | succ nf ih =>
    intro l1 l2 l3 l4 σ
    rw [pf_X1_pairUp_5]
    refine on_il4 (tk_X1_pairUp 4 rfl) ?_
    refine on_sipush (tk_X1_pairUp 5 rfl) sp_512 ?_
    refine on_icmp_ge (tk_X1_pairUp 6 rfl) (tgt := 81) (by decide) ?_ ?_
    · refine on_al0 (tk_X1_pairUp 7 rfl) ?_
      refine fg_1_2 hN kw_2_69 (tk_X1_pairUp 8 rfl) ?_
      refine on_sipush (tk_X1_pairUp 9 rfl) sp_512 ?_
      refine on_il3 (tk_X1_pairUp 10 rfl) ?_
      refine on_iadd (tk_X1_pairUp 11 rfl) ?_
      refine on_iald (ltc_60 hN) sh_60 (tk_X1_pairUp 12 rfl) fun v1 => ?_
      refine on_if_le (tk_X1_pairUp 13 rfl) (tgt := 62) (by decide) ?_ ?_
      · refine on_al0 (tk_X1_pairUp 14 rfl) ?_
        refine on_dup rfl (tk_X1_pairUp 15 rfl) ?_
        refine fg_1_6 hN kw_2_74 (tk_X1_pairUp 16 rfl) fun v2 => ?_
        refine on_al0 (tk_X1_pairUp 17 rfl) ?_
        refine fg_1_2 hN kw_2_69 (tk_X1_pairUp 18 rfl) ?_
        refine on_il1 (tk_X1_pairUp 19 rfl) ?_
        refine on_iald (ltc_60 hN) sh_60 (tk_X1_pairUp 20 rfl) fun v3 => ?_
        refine on_al0 (tk_X1_pairUp 21 rfl) ?_
        refine fg_1_2 hN kw_2_69 (tk_X1_pairUp 22 rfl) ?_
        refine on_sipush (tk_X1_pairUp 23 rfl) sp_512 ?_
        refine on_il3 (tk_X1_pairUp 24 rfl) ?_
        refine on_iadd (tk_X1_pairUp 25 rfl) ?_
        refine on_iald (ltc_60 hN) sh_60 (tk_X1_pairUp 26 rfl) fun v4 => ?_
        refine on_imul (tk_X1_pairUp 27 rfl) ?_
        refine on_iadd (tk_X1_pairUp 28 rfl) ?_
        refine fp_1_6 hN kw_2_74 (tk_X1_pairUp 29 rfl) fun σ5 => ?_
        refine on_al0 (tk_X1_pairUp 30 rfl) ?_
        refine on_il1 (tk_X1_pairUp 31 rfl) ?_
        refine on_sipush (tk_X1_pairUp 32 rfl) sp_512 ?_
        refine on_il3 (tk_X1_pairUp 33 rfl) ?_
        refine on_iadd (tk_X1_pairUp 34 rfl) ?_
        refine on_cV2v 1 ms_X1_weighPair kw_5_51 rfl rfl (ltc_59 hN) sh_59 (ct_X1_weighPair hN) rfl (tk_X1_pairUp 35 rfl) fun v6 σ7 => ?_
        exact gb_X1_pairUp_62 X _ hN ih _ _ _ _ _
      · exact gb_X1_pairUp_62 X _ hN ih _ _ _ _ _
    · exact on_vret (tk_X1_pairUp 47 rfl)
set_option maxRecDepth 100000 in
set_option maxHeartbeats 4000000 in
theorem ct_X1_pairUp {E : on_E} {z n : Nat} {p0 : Int} {p1 : Int} (hN : 100 ≤ n) {σ : on_S} : on_Sp E yX1_pairUp cX1_pairUp 5 none 2 45 z n [.ref (z + 59), .int (on_i p0), .int (on_i p1)] σ (pf_X1_pairUp p0 p1 σ) := by
  refine on_met [some (.ref (z + 59)), some (.int (on_i p0)), some (.int (on_i p1)), none, none] (by decide) rfl rfl (fun X => ?_)
  rw [pf_X1_pairUp]
  refine on_il2 (tk_X1_pairUp 0 rfl) ?_
  refine on_is3 rfl (tk_X1_pairUp 1 rfl) ?_
  refine on_iconst (tk_X1_pairUp 2 rfl) ?_
  refine on_is4 rfl (tk_X1_pairUp 3 rfl) ?_
  exact gl_X1_pairUp_5 X  hN on_N _ _ _ _ _
def tb_X1_seek : List (Nat × Nat × Nat × Instr) := [(0, 1, 1, .aload_n 0), (1, 3, 4, .getfield 11), (4, 1, 5, .iconst 0), (5, 3, 8, .invokestatic 29), (8, 1, 9, .aload_n 0), (9, 1, 10, .iconst 0), (10, 3, 13, .invokevirtual 35), (13, 1, 14, .aload_n 0), (14, 1, 15, .iconst 1), (15, 3, 18, .invokevirtual 35), (18, 1, 19, .aload_n 0), (19, 1, 20, .iconst (-1)), (20, 3, 23, .putfield 39), (23, 1, 24, .aload_n 0), (24, 1, 25, .iconst 0), (25, 3, 28, .putfield 43), (28, 1, 29, .aload_n 0), (29, 1, 30, .iconst (-1)), (30, 3, 33, .putfield 46), (33, 1, 34, .aload_n 0), (34, 1, 35, .iconst (-1)), (35, 3, 38, .putfield 49), (38, 1, 39, .iconst 1), (39, 1, 40, .aload_n 0), (40, 3, 43, .getfield 21), (43, 3, 46, .getfield 52), (46, 3, 49, .getfield 58), (49, 1, 50, .ishl), (50, 1, 51, .iconst 1), (51, 1, 52, .isub), (52, 1, 53, .istore_n 1), (53, 1, 54, .iconst 0), (54, 1, 55, .istore_n 2), (55, 1, 56, .iload_n 2), (56, 1, 57, .iload_n 1), (57, 3, 60, .if_icmp .gt 28), (60, 1, 61, .aload_n 0), (61, 3, 64, .getfield 11), (64, 1, 65, .iload_n 2), (65, 1, 66, .iaload), (66, 3, 69, .ifCond .le 13), (69, 1, 70, .aload_n 0), (70, 1, 71, .iload_n 2), (71, 1, 72, .iload_n 1), (72, 1, 73, .iload_n 2), (73, 1, 74, .iconst (-1)), (74, 1, 75, .ixor), (75, 1, 76, .iand), (76, 3, 79, .invokevirtual 62), (79, 3, 82, .iinc 2 1), (82, 3, 85, .goto (-27)), (85, 1, 86, .return_)]
set_option maxRecDepth 100000 in
theorem tk_X1_seek (k : Nat) {pc n pc2 : Nat} {i : Instr} (hk : tb_X1_seek[k]? = some (pc, n, pc2, i)) : on_dq cX1_seek pc n pc2 i := on_ta (by decide +kernel) k hk
theorem ms_X1_seek : on_Mv yX1_seek cX1_seek 3 none 0 := ⟨kw_5_21, kw_5_19, kw_5_20, kw_1_8, by decide, by decide, by decide +kernel⟩
def pf_X1_seek_55 : Nat → Int → Int → on_S → Option on_O
  | 0, _, _, _ => none
  | nf + 1, l1, l2, σ =>
    on_Le l2 l1 (
      on_Rd σ 60 1024 l2 fun v12 =>
      on_Le v12 0 (
        pf_X1_seek_55 nf l1 (l2 + 1) σ) (
        on_Cl (pf_X1_pairUp l2 (on_and l1 (on_xor l2 (-1))) σ) fun _ σ14 =>
        pf_X1_seek_55 nf l1 (l2 + 1) σ14)) (
      some (0, σ))
def pf_X1_seek (σ : on_S) : Option on_O :=
  on_Cl (pf_J7_fill_53178 60 1024 0 σ) fun _ σ2 =>
  on_Cl (pf_X1_gather 0 σ2) fun _ σ4 =>
  on_Cl (pf_X1_gather 1 σ4) fun _ σ6 =>
  on_Pt σ6 59 5 (-1) fun σ7 =>
  on_Pt σ7 59 6 0 fun σ8 =>
  on_Pt σ8 59 7 (-1) fun σ9 =>
  on_Pt σ9 59 8 (-1) fun σ10 =>
  on_Gt σ10 (2 + 8) 0 fun v11 =>
  pf_X1_seek_55 on_N ((on_shl 1 v11) - 1) 0 σ10
set_option maxRecDepth 100000 in
set_option maxHeartbeats 4000000 in
theorem gl_X1_seek_55 {E : on_E} {z n : Nat} (X : on_X) (hN : 100 ≤ n) : ∀ (nf : Nat) (l1 : Int) (l2 : Int) (σ : on_S), on_G X E cX1_seek RX1 none 3 78 3 z n σ (pf_X1_seek_55 nf l1 l2 σ) 55 [some (.ref (z + 59)), some (.int (on_i l1)), some (.int (on_i l2))] [] := by
  intro nf
  induction nf with
  | zero => intro l1 l2 σ; exact on_none
  | succ nf ih =>
    intro l1 l2 σ
    rw [pf_X1_seek_55]
    refine on_il2 (tk_X1_seek 33 rfl) ?_
    refine on_il1 (tk_X1_seek 34 rfl) ?_
    refine on_icmp_gt (tk_X1_seek 35 rfl) (tgt := 85) (by decide) ?_ ?_
    · refine on_al0 (tk_X1_seek 36 rfl) ?_
      refine fg_1_2 hN kw_2_69 (tk_X1_seek 37 rfl) ?_
      refine on_il2 (tk_X1_seek 38 rfl) ?_
      refine on_iald (ltc_60 hN) sh_60 (tk_X1_seek 39 rfl) fun v12 => ?_
      refine on_if_le (tk_X1_seek 40 rfl) (tgt := 79) (by decide) ?_ ?_
      · refine on_al0 (tk_X1_seek 41 rfl) ?_
        refine on_il2 (tk_X1_seek 42 rfl) ?_
        refine on_il1 (tk_X1_seek 43 rfl) ?_
        refine on_il2 (tk_X1_seek 44 rfl) ?_
        refine on_iconst (tk_X1_seek 45 rfl) ?_
        refine on_ixor (tk_X1_seek 46 rfl) ?_
        refine on_iand (tk_X1_seek 47 rfl) ?_
        refine on_cV2v 1 ms_X1_pairUp kw_5_47 rfl rfl (ltc_59 hN) sh_59 (ct_X1_pairUp hN) rfl (tk_X1_seek 48 rfl) fun v13 σ14 => ?_
        refine on_inc2 rfl (tk_X1_seek 49 rfl) ?_
        refine on_goto (tk_X1_seek 50 rfl) (tgt := 55) (by decide) ?_
        exact ih _ _ _
      · refine on_inc2 rfl (tk_X1_seek 49 rfl) ?_
        refine on_goto (tk_X1_seek 50 rfl) (tgt := 55) (by decide) ?_
        exact ih _ _ _
    · exact on_vret (tk_X1_seek 51 rfl)
set_option maxRecDepth 100000 in
set_option maxHeartbeats 4000000 in
theorem ct_X1_seek {E : on_E} {z n : Nat} (hN : 100 ≤ n) {σ : on_S} : on_Sp E yX1_seek cX1_seek 3 none 3 78 z n [.ref (z + 59)] σ (pf_X1_seek  σ) := by
  refine on_met [some (.ref (z + 59)), none, none] (by decide) rfl rfl (fun X => ?_)
  rw [pf_X1_seek]
  refine on_al0 (tk_X1_seek 0 rfl) ?_
  refine fg_1_2 hN kw_2_69 (tk_X1_seek 1 rfl) ?_
  refine on_iconst (tk_X1_seek 2 rfl) ?_
  refine on_cS2v ms_J7_fill_53178 kw_5_22 (ct_J7_fill_53178 hN (ltc_60 hN) sh_60) rfl (tk_X1_seek 3 rfl) fun v1 σ2 => ?_
  refine on_al0 (tk_X1_seek 4 rfl) ?_
  refine on_iconst (tk_X1_seek 5 rfl) ?_
  refine on_cV1v 1 ms_X1_gather kw_5_23 rfl rfl (ltc_59 hN) sh_59 (ct_X1_gather hN) rfl (tk_X1_seek 6 rfl) fun v3 σ4 => ?_
  refine on_al0 (tk_X1_seek 7 rfl) ?_
  refine on_iconst (tk_X1_seek 8 rfl) ?_
  refine on_cV1v 1 ms_X1_gather kw_5_23 rfl rfl (ltc_59 hN) sh_59 (ct_X1_gather hN) rfl (tk_X1_seek 9 rfl) fun v5 σ6 => ?_
  refine on_al0 (tk_X1_seek 10 rfl) ?_
  refine on_iconst (tk_X1_seek 11 rfl) ?_
  refine fp_1_5 hN kw_2_72 (tk_X1_seek 12 rfl) fun σ7 => ?_
  refine on_al0 (tk_X1_seek 13 rfl) ?_
  refine on_iconst (tk_X1_seek 14 rfl) ?_
  refine fp_1_6 hN kw_2_74 (tk_X1_seek 15 rfl) fun σ8 => ?_
  refine on_al0 (tk_X1_seek 16 rfl) ?_
  refine on_iconst (tk_X1_seek 17 rfl) ?_
  refine fp_1_7 hN kw_2_76 (tk_X1_seek 18 rfl) fun σ9 => ?_
  refine on_al0 (tk_X1_seek 19 rfl) ?_
  refine on_iconst (tk_X1_seek 20 rfl) ?_
  refine fp_1_8 hN kw_2_78 (tk_X1_seek 21 rfl) fun σ10 => ?_
  refine on_iconst (tk_X1_seek 22 rfl) ?_
  refine on_al0 (tk_X1_seek 23 rfl) ?_
  refine fg_1_0 hN kw_2_67 (tk_X1_seek 24 rfl) ?_
  refine fg_9_12 (on_Sb2 hN) kw_1_186 (tk_X1_seek 25 rfl) ?_
  refine fg_3_0 (on_Sb2 hN) kw_1_43 (tk_X1_seek 26 rfl) fun v11 => ?_
  refine on_ishl (tk_X1_seek 27 rfl) ?_
  refine on_iconst (tk_X1_seek 28 rfl) ?_
  refine on_isub (tk_X1_seek 29 rfl) ?_
  refine on_is1 rfl (tk_X1_seek 30 rfl) ?_
  refine on_iconst (tk_X1_seek 31 rfl) ?_
  refine on_is2 rfl (tk_X1_seek 32 rfl) ?_
  exact gl_X1_seek_55 X  hN on_N _ _ _
def tb_X7_firstBest : List (Nat × Nat × Nat × Instr) := [(0, 1, 1, .iconst (-1)), (1, 1, 2, .istore_n 1), (2, 1, 3, .aload_n 0), (3, 1, 4, .iconst 0), (4, 3, 7, .putfield 75), (7, 1, 8, .iconst 0), (8, 1, 9, .istore_n 2), (9, 1, 10, .iload_n 2), (10, 3, 13, .sipush 378), (13, 3, 16, .if_icmp .ge 58), (16, 1, 17, .aload_n 0), (17, 1, 18, .aload_n 0), (18, 3, 21, .getfield 11), (21, 1, 22, .iload_n 2), (22, 1, 23, .iaload), (23, 3, 26, .invokevirtual 78), (26, 3, 29, .ifCond .eq 39), (29, 1, 30, .aload_n 0), (30, 1, 31, .aload_n 0), (31, 3, 34, .getfield 11), (34, 1, 35, .iload_n 2), (35, 1, 36, .iaload), (36, 3, 39, .invokevirtual 82), (39, 1, 40, .istore_n 3), (40, 1, 41, .iload_n 1), (41, 1, 42, .iconst (-1)), (42, 3, 45, .if_icmp .eq 11), (45, 1, 46, .iload_n 3), (46, 1, 47, .aload_n 0), (47, 3, 50, .getfield 75), (50, 3, 53, .if_icmp .le 15), (53, 1, 54, .aload_n 0), (54, 3, 57, .getfield 11), (57, 1, 58, .iload_n 2), (58, 1, 59, .iaload), (59, 1, 60, .istore_n 1), (60, 1, 61, .aload_n 0), (61, 1, 62, .iload_n 3), (62, 3, 65, .putfield 75), (65, 3, 68, .iinc 2 1), (68, 3, 71, .goto (-59)), (71, 1, 72, .iload_n 1), (72, 1, 73, .ireturn)]
set_option maxRecDepth 100000 in
theorem tk_X7_firstBest (k : Nat) {pc n pc2 : Nat} {i : Instr} (hk : tb_X7_firstBest[k]? = some (pc, n, pc2, i)) : on_dq cX7_firstBest pc n pc2 i := on_ta (by decide +kernel) k hk
theorem ms_X7_firstBest : on_Mv yX7_firstBest cX7_firstBest 4 (some .int) 0 := ⟨kw_4_226, kw_4_224, kw_4_225, kw_1_7, by decide, by decide, by decide +kernel⟩
def pf_X7_firstBest_53 (k9 : Int → Int → on_S → Option on_O) (l2 : Int) (l3 : Int) (σ : on_S) : Option on_O :=
  on_Rd σ 56 378 l2 fun v9 =>
  on_Pt σ 55 5 l3 fun σ10 =>
  k9 v9 (l2 + 1) σ10
def pf_X7_firstBest_9 : Nat → Int → Int → on_S → Option on_O
  | 0, _, _, _ => none
  | nf + 1, l1, l2, σ =>
    on_Lt l2 378 (
      on_Rd σ 56 378 l2 fun v2 =>
      on_Cl (pf_X7_isThere v2 σ) fun v3 σ4 =>
      on_Eq v3 0 (
        pf_X7_firstBest_9 nf l1 (l2 + 1) σ4) (
        on_Rd σ4 56 378 l2 fun v5 =>
        on_Cl (pf_X7_carriedBy v5 σ4) fun v6 σ7 =>
        on_Eq l1 (-1) (
          pf_X7_firstBest_53 (pf_X7_firstBest_9 nf) l2 v6 σ7) (
          on_Gt σ7 55 5 fun v8 =>
          on_Le v6 v8 (
            pf_X7_firstBest_9 nf l1 (l2 + 1) σ7) (
            pf_X7_firstBest_53 (pf_X7_firstBest_9 nf) l2 v6 σ7)))) (
      some (l1, σ))
def pf_X7_firstBest (σ : on_S) : Option on_O :=
  on_Pt σ 55 5 0 fun σ1 =>
  pf_X7_firstBest_9 on_N (-1) 0 σ1
set_option maxRecDepth 100000 in
set_option maxHeartbeats 4000000 in
theorem gb_X7_firstBest_53 {E : on_E} {z n : Nat} (X : on_X) (k9 : Int → Int → on_S → Option on_O) (hN : 100 ≤ n) (hk9 : ∀ (l1 : Int) (l2 : Int) (σ : on_S), on_G X E cX7_firstBest RX7 (some .int) 2 53 4 z n σ (k9 l1 l2 σ) 9 [some (.ref (z + 55)), some (.int (on_i l1)), some (.int (on_i l2)), none] []) (l2 : Int) (l3 : Int) (σ : on_S) : on_G X E cX7_firstBest RX7 (some .int) 2 53 4 z n σ (pf_X7_firstBest_53 k9 l2 l3 σ) 53 [some (.ref (z + 55)), none, some (.int (on_i l2)), some (.int (on_i l3))] [] := by
  rw [pf_X7_firstBest_53]
  refine on_al0 (tk_X7_firstBest 31 rfl) ?_
  refine fg_7_1 hN kw_2_42 (tk_X7_firstBest 32 rfl) ?_
  refine on_il2 (tk_X7_firstBest 33 rfl) ?_
  refine on_iald (ltc_56 hN) sh_56 (tk_X7_firstBest 34 rfl) fun v9 => ?_
  refine on_is1 rfl (tk_X7_firstBest 35 rfl) ?_
  refine on_al0 (tk_X7_firstBest 36 rfl) ?_
  refine on_il3 (tk_X7_firstBest 37 rfl) ?_
  refine fp_7_5 hN kw_2_47 (tk_X7_firstBest 38 rfl) fun σ10 => ?_
  refine on_inc2 rfl (tk_X7_firstBest 39 rfl) ?_
  refine on_goto (tk_X7_firstBest 40 rfl) (tgt := 9) (by decide) ?_
  refine on_dr3 ?_
  exact hk9 _ _ _
set_option maxRecDepth 100000 in
set_option maxHeartbeats 4000000 in
theorem gl_X7_firstBest_9 {E : on_E} {z n : Nat} (X : on_X) (hN : 100 ≤ n) : ∀ (nf : Nat) (l1 : Int) (l2 : Int) (σ : on_S), on_G X E cX7_firstBest RX7 (some .int) 2 53 4 z n σ (pf_X7_firstBest_9 nf l1 l2 σ) 9 [some (.ref (z + 55)), some (.int (on_i l1)), some (.int (on_i l2)), none] [] := by
  intro nf
  induction nf with
  | zero => intro l1 l2 σ; exact on_none
  | succ nf ih =>
    intro l1 l2 σ
    rw [pf_X7_firstBest_9]
    refine on_il2 (tk_X7_firstBest 7 rfl) ?_
    refine on_sipush (tk_X7_firstBest 8 rfl) sp_378 ?_
    refine on_icmp_ge (tk_X7_firstBest 9 rfl) (tgt := 71) (by decide) ?_ ?_
    · refine on_al0 (tk_X7_firstBest 10 rfl) ?_
      refine on_al0 (tk_X7_firstBest 11 rfl) ?_
      refine fg_7_1 hN kw_2_42 (tk_X7_firstBest 12 rfl) ?_
      refine on_il2 (tk_X7_firstBest 13 rfl) ?_
      refine on_iald (ltc_56 hN) sh_56 (tk_X7_firstBest 14 rfl) fun v2 => ?_
      refine on_cV1z 7 ms_X7_isThere kw_4_227 rfl rfl (ltc_55 hN) sh_55 (ct_X7_isThere hN) rfl (tk_X7_firstBest 15 rfl) fun v3 σ4 => ?_
      refine on_if_eq (tk_X7_firstBest 16 rfl) (tgt := 65) (by decide) ?_ ?_
      · refine on_al0 (tk_X7_firstBest 17 rfl) ?_
        refine on_al0 (tk_X7_firstBest 18 rfl) ?_
        refine fg_7_1 hN kw_2_42 (tk_X7_firstBest 19 rfl) ?_
        refine on_il2 (tk_X7_firstBest 20 rfl) ?_
        refine on_iald (ltc_56 hN) sh_56 (tk_X7_firstBest 21 rfl) fun v5 => ?_
        refine on_cV1i 7 ms_X7_carriedBy kw_4_231 rfl rfl (ltc_55 hN) sh_55 (ct_X7_carriedBy hN) rfl (tk_X7_firstBest 22 rfl) fun v6 σ7 => ?_
        refine on_is3 rfl (tk_X7_firstBest 23 rfl) ?_
        refine on_il1 (tk_X7_firstBest 24 rfl) ?_
        refine on_iconst (tk_X7_firstBest 25 rfl) ?_
        refine on_icmp_eq (tk_X7_firstBest 26 rfl) (tgt := 53) (by decide) ?_ ?_
        · refine on_il3 (tk_X7_firstBest 27 rfl) ?_
          refine on_al0 (tk_X7_firstBest 28 rfl) ?_
          refine fg_7_5 hN kw_2_47 (tk_X7_firstBest 29 rfl) fun v8 => ?_
          refine on_icmp_le (tk_X7_firstBest 30 rfl) (tgt := 65) (by decide) ?_ ?_
          · refine on_dr1 ?_
            exact gb_X7_firstBest_53 X _ hN ih _ _ _
          · refine on_inc2 rfl (tk_X7_firstBest 39 rfl) ?_
            refine on_goto (tk_X7_firstBest 40 rfl) (tgt := 9) (by decide) ?_
            refine on_dr3 ?_
            exact ih _ _ _
        · refine on_dr1 ?_
          exact gb_X7_firstBest_53 X _ hN ih _ _ _
      · refine on_inc2 rfl (tk_X7_firstBest 39 rfl) ?_
        refine on_goto (tk_X7_firstBest 40 rfl) (tgt := 9) (by decide) ?_
        exact ih _ _ _
    · refine on_il1 (tk_X7_firstBest 41 rfl) ?_
      exact on_iret (tk_X7_firstBest 42 rfl)
set_option maxRecDepth 100000 in
set_option maxHeartbeats 4000000 in
theorem ct_X7_firstBest {E : on_E} {z n : Nat} (hN : 100 ≤ n) {σ : on_S} : on_Sp E yX7_firstBest cX7_firstBest 4 (some .int) 2 53 z n [.ref (z + 55)] σ (pf_X7_firstBest  σ) := by
  refine on_met [some (.ref (z + 55)), none, none, none] (by decide) rfl rfl (fun X => ?_)
  rw [pf_X7_firstBest]
  refine on_iconst (tk_X7_firstBest 0 rfl) ?_
  refine on_is1 rfl (tk_X7_firstBest 1 rfl) ?_
  refine on_al0 (tk_X7_firstBest 2 rfl) ?_
  refine on_iconst (tk_X7_firstBest 3 rfl) ?_
  refine fp_7_5 hN kw_2_47 (tk_X7_firstBest 4 rfl) fun σ1 => ?_
  refine on_iconst (tk_X7_firstBest 5 rfl) ?_
  refine on_is2 rfl (tk_X7_firstBest 6 rfl) ?_
  exact gl_X7_firstBest_9 X  hN on_N _ _ _
def tb_X7_mostCarried : List (Nat × Nat × Nat × Instr) := [(0, 1, 1, .aload_n 0), (1, 3, 4, .invokevirtual 86), (4, 1, 5, .pop), (5, 1, 6, .aload_n 0), (6, 3, 9, .getfield 75), (9, 1, 10, .ireturn)]
set_option maxRecDepth 100000 in
theorem tk_X7_mostCarried (k : Nat) {pc n pc2 : Nat} {i : Instr} (hk : tb_X7_mostCarried[k]? = some (pc, n, pc2, i)) : on_dq cX7_mostCarried pc n pc2 i := on_ta (by decide +kernel) k hk
theorem ms_X7_mostCarried : on_Mv yX7_mostCarried cX7_mostCarried 1 (some .int) 0 := ⟨kw_4_222, kw_4_220, kw_4_221, kw_1_7, by decide, by decide, by decide +kernel⟩
def pf_X7_mostCarried (σ : on_S) : Option on_O :=
  on_Cl (pf_X7_firstBest σ) fun v1 σ2 =>
  on_Gt σ2 55 5 fun v3 =>
  some (v3, σ2)
set_option maxRecDepth 100000 in
set_option maxHeartbeats 4000000 in
theorem ct_X7_mostCarried {E : on_E} {z n : Nat} (hN : 100 ≤ n) {σ : on_S} : on_Sp E yX7_mostCarried cX7_mostCarried 1 (some .int) 3 76 z n [.ref (z + 55)] σ (pf_X7_mostCarried  σ) := by
  refine on_met [some (.ref (z + 55))] (by decide) rfl rfl (fun X => ?_)
  rw [pf_X7_mostCarried]
  refine on_al0 (tk_X7_mostCarried 0 rfl) ?_
  refine on_cV0i 7 ms_X7_firstBest kw_4_223 rfl rfl (ltc_55 hN) sh_55 (ct_X7_firstBest hN) rfl (tk_X7_mostCarried 1 rfl) fun v1 σ2 => ?_
  refine on_pop rfl (tk_X7_mostCarried 2 rfl) ?_
  refine on_al0 (tk_X7_mostCarried 3 rfl) ?_
  refine fg_7_5 hN kw_2_47 (tk_X7_mostCarried 4 rfl) fun v3 => ?_
  exact on_iret (tk_X7_mostCarried 5 rfl)
def tb_X7_rowsCarrying : List (Nat × Nat × Nat × Instr) := [(0, 1, 1, .iconst 0), (1, 1, 2, .istore_n 2), (2, 1, 3, .iconst 0), (3, 1, 4, .istore_n 3), (4, 1, 5, .iload_n 3), (5, 3, 8, .sipush 378), (8, 3, 11, .if_icmp .ge 39), (11, 1, 12, .aload_n 0), (12, 1, 13, .aload_n 0), (13, 3, 16, .getfield 11), (16, 1, 17, .iload_n 3), (17, 1, 18, .iaload), (18, 3, 21, .invokevirtual 78), (21, 3, 24, .ifCond .eq 20), (24, 1, 25, .aload_n 0), (25, 1, 26, .aload_n 0), (26, 3, 29, .getfield 11), (29, 1, 30, .iload_n 3), (30, 1, 31, .iaload), (31, 3, 34, .invokevirtual 82), (34, 1, 35, .iload_n 1), (35, 3, 38, .if_icmp .lt 6), (38, 3, 41, .iinc 2 8), (41, 3, 44, .iinc 3 1), (44, 3, 47, .goto (-40)), (47, 1, 48, .iload_n 2), (48, 1, 49, .ireturn)]
set_option maxRecDepth 100000 in
theorem tk_X7_rowsCarrying (k : Nat) {pc n pc2 : Nat} {i : Instr} (hk : tb_X7_rowsCarrying[k]? = some (pc, n, pc2, i)) : on_dq cX7_rowsCarrying pc n pc2 i := on_ta (by decide +kernel) k hk
theorem ms_X7_rowsCarrying : on_Mv yX7_rowsCarrying cX7_rowsCarrying 4 (some .int) 1 := ⟨kw_5_13, kw_5_11, kw_5_12, kw_1_7, by decide, by decide, by decide +kernel⟩
def pf_X7_rowsCarrying_4 : Nat → Int → Int → Int → on_S → Option on_O
  | 0, _, _, _, _ => none
  | nf + 1, l1, l2, l3, σ =>
    on_Lt l3 378 (
      on_Rd σ 56 378 l3 fun v1 =>
      on_Cl (pf_X7_isThere v1 σ) fun v2 σ3 =>
      on_Eq v2 0 (
        pf_X7_rowsCarrying_4 nf l1 l2 (l3 + 1) σ3) (
        on_Rd σ3 56 378 l3 fun v4 =>
        on_Cl (pf_X7_carriedBy v4 σ3) fun v5 σ6 =>
        on_Lt v5 l1 (
          pf_X7_rowsCarrying_4 nf l1 l2 (l3 + 1) σ6) (
          pf_X7_rowsCarrying_4 nf l1 (l2 + 8) (l3 + 1) σ6))) (
      some (l2, σ))
def pf_X7_rowsCarrying (p0 : Int) (σ : on_S) : Option on_O :=
  pf_X7_rowsCarrying_4 on_N p0 0 0 σ
set_option maxRecDepth 100000 in
set_option maxHeartbeats 4000000 in
theorem gl_X7_rowsCarrying_4 {E : on_E} {z n : Nat} (X : on_X) (hN : 100 ≤ n) : ∀ (nf : Nat) (l1 : Int) (l2 : Int) (l3 : Int) (σ : on_S), on_G X E cX7_rowsCarrying RX7 (some .int) 2 53 4 z n σ (pf_X7_rowsCarrying_4 nf l1 l2 l3 σ) 4 [some (.ref (z + 55)), some (.int (on_i l1)), some (.int (on_i l2)), some (.int (on_i l3))] [] := by
  intro nf
  induction nf with
  | zero => intro l1 l2 l3 σ; exact on_none
  | succ nf ih =>
    intro l1 l2 l3 σ
    rw [pf_X7_rowsCarrying_4]
    refine on_il3 (tk_X7_rowsCarrying 4 rfl) ?_
    refine on_sipush (tk_X7_rowsCarrying 5 rfl) sp_378 ?_
    refine on_icmp_ge (tk_X7_rowsCarrying 6 rfl) (tgt := 47) (by decide) ?_ ?_
    · refine on_al0 (tk_X7_rowsCarrying 7 rfl) ?_
      refine on_al0 (tk_X7_rowsCarrying 8 rfl) ?_
      refine fg_7_1 hN kw_2_42 (tk_X7_rowsCarrying 9 rfl) ?_
      refine on_il3 (tk_X7_rowsCarrying 10 rfl) ?_
      refine on_iald (ltc_56 hN) sh_56 (tk_X7_rowsCarrying 11 rfl) fun v1 => ?_
      refine on_cV1z 7 ms_X7_isThere kw_4_227 rfl rfl (ltc_55 hN) sh_55 (ct_X7_isThere hN) rfl (tk_X7_rowsCarrying 12 rfl) fun v2 σ3 => ?_
      refine on_if_eq (tk_X7_rowsCarrying 13 rfl) (tgt := 41) (by decide) ?_ ?_
      · refine on_al0 (tk_X7_rowsCarrying 14 rfl) ?_
        refine on_al0 (tk_X7_rowsCarrying 15 rfl) ?_
        refine fg_7_1 hN kw_2_42 (tk_X7_rowsCarrying 16 rfl) ?_
        refine on_il3 (tk_X7_rowsCarrying 17 rfl) ?_
        refine on_iald (ltc_56 hN) sh_56 (tk_X7_rowsCarrying 18 rfl) fun v4 => ?_
        refine on_cV1i 7 ms_X7_carriedBy kw_4_231 rfl rfl (ltc_55 hN) sh_55 (ct_X7_carriedBy hN) rfl (tk_X7_rowsCarrying 19 rfl) fun v5 σ6 => ?_
        refine on_il1 (tk_X7_rowsCarrying 20 rfl) ?_
        refine on_icmp_lt (tk_X7_rowsCarrying 21 rfl) (tgt := 41) (by decide) ?_ ?_
        · refine on_inc2 rfl (tk_X7_rowsCarrying 22 rfl) ?_
          refine on_inc3 rfl (tk_X7_rowsCarrying 23 rfl) ?_
          refine on_goto (tk_X7_rowsCarrying 24 rfl) (tgt := 4) (by decide) ?_
          exact ih _ _ _ _
        · refine on_inc3 rfl (tk_X7_rowsCarrying 23 rfl) ?_
          refine on_goto (tk_X7_rowsCarrying 24 rfl) (tgt := 4) (by decide) ?_
          exact ih _ _ _ _
      · refine on_inc3 rfl (tk_X7_rowsCarrying 23 rfl) ?_
        refine on_goto (tk_X7_rowsCarrying 24 rfl) (tgt := 4) (by decide) ?_
        exact ih _ _ _ _
    · refine on_il2 (tk_X7_rowsCarrying 25 rfl) ?_
      exact on_iret (tk_X7_rowsCarrying 26 rfl)
set_option maxRecDepth 100000 in
set_option maxHeartbeats 4000000 in
theorem ct_X7_rowsCarrying {E : on_E} {z n : Nat} {p0 : Int} (hN : 100 ≤ n) {σ : on_S} : on_Sp E yX7_rowsCarrying cX7_rowsCarrying 4 (some .int) 2 53 z n [.ref (z + 55), .int (on_i p0)] σ (pf_X7_rowsCarrying p0 σ) := by
  refine on_met [some (.ref (z + 55)), some (.int (on_i p0)), none, none] (by decide) rfl rfl (fun X => ?_)
  rw [pf_X7_rowsCarrying]
  refine on_iconst (tk_X7_rowsCarrying 0 rfl) ?_
  refine on_is2 rfl (tk_X7_rowsCarrying 1 rfl) ?_
  refine on_iconst (tk_X7_rowsCarrying 2 rfl) ?_
  refine on_is3 rfl (tk_X7_rowsCarrying 3 rfl) ?_
  exact gl_X7_rowsCarrying_4 X  hN on_N _ _ _ _
def tb_X7_housesIn : List (Nat × Nat × Nat × Instr) := [(0, 1, 1, .iconst 0), (1, 1, 2, .istore_n 2), (2, 1, 3, .iconst 0), (3, 1, 4, .istore_n 3), (4, 1, 5, .iload_n 3), (5, 1, 6, .iconst 4), (6, 3, 9, .if_icmp .ge 30), (9, 1, 10, .iload_n 2), (10, 1, 11, .iconst 1), (11, 1, 12, .aload_n 0), (12, 3, 15, .getfield 21), (15, 3, 18, .getfield 25), (18, 3, 21, .getfield 90), (21, 1, 22, .iload_n 1), (22, 1, 23, .iload_n 3), (23, 3, 26, .invokestatic 66), (26, 1, 27, .iaload), (27, 1, 28, .ishl), (28, 1, 29, .ior), (29, 1, 30, .istore_n 2), (30, 3, 33, .iinc 3 1), (33, 3, 36, .goto (-29)), (36, 1, 37, .iload_n 2), (37, 1, 38, .ireturn)]
set_option maxRecDepth 100000 in
theorem tk_X7_housesIn (k : Nat) {pc n pc2 : Nat} {i : Instr} (hk : tb_X7_housesIn[k]? = some (pc, n, pc2, i)) : on_dq cX7_housesIn pc n pc2 i := on_ta (by decide +kernel) k hk
theorem ms_X7_housesIn : on_Mv yX7_housesIn cX7_housesIn 4 (some .int) 1 := ⟨kw_6_30, kw_6_28, kw_6_29, kw_1_7, by decide, by decide, by decide +kernel⟩
def pf_X7_housesIn_4 : Nat → Int → Int → Int → on_S → Option on_O
  | 0, _, _, _, _ => none
  | nf + 1, l1, l2, l3, σ =>
    on_Lt l3 4 (
      on_Cl (pf_X7_manOf l1 l3 σ) fun v1 σ2 =>
      on_Rd σ2 (2 + 9) 9 v1 fun v3 =>
      pf_X7_housesIn_4 nf l1 (on_or l2 (on_shl 1 v3)) (l3 + 1) σ2) (
      some (l2, σ))
def pf_X7_housesIn (p0 : Int) (σ : on_S) : Option on_O :=
  pf_X7_housesIn_4 on_N p0 0 0 σ
set_option maxRecDepth 100000 in
set_option maxHeartbeats 4000000 in
theorem gl_X7_housesIn_4 {E : on_E} {z n : Nat} (X : on_X) (hN : 100 ≤ n) : ∀ (nf : Nat) (l1 : Int) (l2 : Int) (l3 : Int) (σ : on_S), on_G X E cX7_housesIn RX7 (some .int) 1 21 4 z n σ (pf_X7_housesIn_4 nf l1 l2 l3 σ) 4 [some (.ref (z + 55)), some (.int (on_i l1)), some (.int (on_i l2)), some (.int (on_i l3))] [] := by
  intro nf
  induction nf with
  | zero => intro l1 l2 l3 σ; exact on_none
  | succ nf ih =>
    intro l1 l2 l3 σ
    rw [pf_X7_housesIn_4]
    refine on_il3 (tk_X7_housesIn 4 rfl) ?_
    refine on_iconst (tk_X7_housesIn 5 rfl) ?_
    refine on_icmp_ge (tk_X7_housesIn 6 rfl) (tgt := 36) (by decide) ?_ ?_
    · refine on_il2 (tk_X7_housesIn 7 rfl) ?_
      refine on_iconst (tk_X7_housesIn 8 rfl) ?_
      refine on_al0 (tk_X7_housesIn 9 rfl) ?_
      refine fg_7_0 hN kw_2_41 (tk_X7_housesIn 10 rfl) ?_
      refine fg_9_12 (on_Sb2 hN) kw_1_187 (tk_X7_housesIn 11 rfl) ?_
      refine fg_3_1 (on_Sb2 hN) kw_1_50 (tk_X7_housesIn 12 rfl) ?_
      refine on_il1 (tk_X7_housesIn 13 rfl) ?_
      refine on_il3 (tk_X7_housesIn 14 rfl) ?_
      refine on_cS2i ms_X7_manOf kw_4_235 (ct_X7_manOf hN) rfl (tk_X7_housesIn 15 rfl) fun v1 σ2 => ?_
      refine on_iald (ltS_9 (on_Sb2 hN)) (shS_9 (on_Sb2 hN)) (tk_X7_housesIn 16 rfl) fun v3 => ?_
      refine on_ishl (tk_X7_housesIn 17 rfl) ?_
      refine on_ior (tk_X7_housesIn 18 rfl) ?_
      refine on_is2 rfl (tk_X7_housesIn 19 rfl) ?_
      refine on_inc3 rfl (tk_X7_housesIn 20 rfl) ?_
      refine on_goto (tk_X7_housesIn 21 rfl) (tgt := 4) (by decide) ?_
      exact ih _ _ _ _
    · refine on_il2 (tk_X7_housesIn 22 rfl) ?_
      exact on_iret (tk_X7_housesIn 23 rfl)
set_option maxRecDepth 100000 in
set_option maxHeartbeats 4000000 in
theorem ct_X7_housesIn {E : on_E} {z n : Nat} {p0 : Int} (hN : 100 ≤ n) {σ : on_S} : on_Sp E yX7_housesIn cX7_housesIn 4 (some .int) 1 21 z n [.ref (z + 55), .int (on_i p0)] σ (pf_X7_housesIn p0 σ) := by
  refine on_met [some (.ref (z + 55)), some (.int (on_i p0)), none, none] (by decide) rfl rfl (fun X => ?_)
  rw [pf_X7_housesIn]
  refine on_iconst (tk_X7_housesIn 0 rfl) ?_
  refine on_is2 rfl (tk_X7_housesIn 1 rfl) ?_
  refine on_iconst (tk_X7_housesIn 2 rfl) ?_
  refine on_is3 rfl (tk_X7_housesIn 3 rfl) ?_
  exact gl_X7_housesIn_4 X  hN on_N _ _ _ _
def tb_X7_sumByHouses : List (Nat × Nat × Nat × Instr) := [(0, 1, 1, .aload_n 0), (1, 3, 4, .getfield 18), (4, 1, 5, .iconst 0), (5, 3, 8, .invokestatic 93), (8, 1, 9, .iconst 0), (9, 1, 10, .istore_n 1), (10, 1, 11, .iload_n 1), (11, 3, 14, .sipush 378), (14, 3, 17, .if_icmp .ge 58), (17, 1, 18, .aload_n 0), (18, 1, 19, .aload_n 0), (19, 3, 22, .getfield 11), (22, 1, 23, .iload_n 1), (23, 1, 24, .iaload), (24, 3, 27, .invokevirtual 78), (27, 3, 30, .ifCond .eq 39), (30, 1, 31, .aload_n 0), (31, 1, 32, .aload_n 0), (32, 3, 35, .getfield 11), (35, 1, 36, .iload_n 1), (36, 1, 37, .iaload), (37, 3, 40, .invokevirtual 99), (40, 1, 41, .istore_n 2), (41, 1, 42, .aload_n 0), (42, 3, 45, .getfield 18), (45, 1, 46, .iload_n 2), (46, 1, 47, .aload_n 0), (47, 3, 50, .getfield 18), (50, 1, 51, .iload_n 2), (51, 1, 52, .iaload), (52, 1, 53, .aload_n 0), (53, 1, 54, .aload_n 0), (54, 3, 57, .getfield 11), (57, 1, 58, .iload_n 1), (58, 1, 59, .iaload), (59, 3, 62, .invokevirtual 82), (62, 3, 65, .invokestatic 72), (65, 1, 66, .iastore), (66, 3, 69, .iinc 1 1), (69, 3, 72, .goto (-59)), (72, 1, 73, .return_)]
set_option maxRecDepth 100000 in
theorem tk_X7_sumByHouses (k : Nat) {pc n pc2 : Nat} {i : Instr} (hk : tb_X7_sumByHouses[k]? = some (pc, n, pc2, i)) : on_dq cX7_sumByHouses pc n pc2 i := on_ta (by decide +kernel) k hk
theorem ms_X7_sumByHouses : on_Mv yX7_sumByHouses cX7_sumByHouses 3 none 0 := ⟨kw_6_25, kw_6_23, kw_6_24, kw_1_7, by decide, by decide, by decide +kernel⟩
def pf_X7_sumByHouses_10 : Nat → Int → on_S → Option on_O
  | 0, _, _ => none
  | nf + 1, l1, σ =>
    on_Lt l1 378 (
      on_Rd σ 56 378 l1 fun v3 =>
      on_Cl (pf_X7_isThere v3 σ) fun v4 σ5 =>
      on_Eq v4 0 (
        pf_X7_sumByHouses_10 nf (l1 + 1) σ5) (
        on_Rd σ5 56 378 l1 fun v6 =>
        on_Cl (pf_X7_housesIn v6 σ5) fun v7 σ8 =>
        on_Rd σ8 58 16 v7 fun v9 =>
        on_Rd σ8 56 378 l1 fun v10 =>
        on_Cl (pf_X7_carriedBy v10 σ8) fun v11 σ12 =>
        on_Mx v9 v11 fun v13 =>
        on_Wr σ12 58 16 v7 v13 fun σ14 =>
        pf_X7_sumByHouses_10 nf (l1 + 1) σ14)) (
      some (0, σ))
def pf_X7_sumByHouses (σ : on_S) : Option on_O :=
  on_Cl (pf_J7_fill_53178 58 16 0 σ) fun _ σ2 =>
  pf_X7_sumByHouses_10 on_N 0 σ2
set_option maxRecDepth 100000 in
set_option maxHeartbeats 4000000 in
theorem gl_X7_sumByHouses_10 {E : on_E} {z n : Nat} (X : on_X) (hN : 100 ≤ n) : ∀ (nf : Nat) (l1 : Int) (σ : on_S), on_G X E cX7_sumByHouses RX7 none 2 53 3 z n σ (pf_X7_sumByHouses_10 nf l1 σ) 10 [some (.ref (z + 55)), some (.int (on_i l1)), none] [] := by
  intro nf
  induction nf with
  | zero => intro l1 σ; exact on_none
  | succ nf ih =>
    intro l1 σ
    rw [pf_X7_sumByHouses_10]
    refine on_il1 (tk_X7_sumByHouses 6 rfl) ?_
    refine on_sipush (tk_X7_sumByHouses 7 rfl) sp_378 ?_
    refine on_icmp_ge (tk_X7_sumByHouses 8 rfl) (tgt := 72) (by decide) ?_ ?_
    · refine on_al0 (tk_X7_sumByHouses 9 rfl) ?_
      refine on_al0 (tk_X7_sumByHouses 10 rfl) ?_
      refine fg_7_1 hN kw_2_42 (tk_X7_sumByHouses 11 rfl) ?_
      refine on_il1 (tk_X7_sumByHouses 12 rfl) ?_
      refine on_iald (ltc_56 hN) sh_56 (tk_X7_sumByHouses 13 rfl) fun v3 => ?_
      refine on_cV1z 7 ms_X7_isThere kw_4_227 rfl rfl (ltc_55 hN) sh_55 (ct_X7_isThere hN) rfl (tk_X7_sumByHouses 14 rfl) fun v4 σ5 => ?_
      refine on_if_eq (tk_X7_sumByHouses 15 rfl) (tgt := 66) (by decide) ?_ ?_
      · refine on_al0 (tk_X7_sumByHouses 16 rfl) ?_
        refine on_al0 (tk_X7_sumByHouses 17 rfl) ?_
        refine fg_7_1 hN kw_2_42 (tk_X7_sumByHouses 18 rfl) ?_
        refine on_il1 (tk_X7_sumByHouses 19 rfl) ?_
        refine on_iald (ltc_56 hN) sh_56 (tk_X7_sumByHouses 20 rfl) fun v6 => ?_
        refine on_cV1i 7 ms_X7_housesIn kw_6_27 rfl rfl (ltc_55 hN) sh_55 (ct_X7_housesIn hN) rfl (tk_X7_sumByHouses 21 rfl) fun v7 σ8 => ?_
        refine on_is2 rfl (tk_X7_sumByHouses 22 rfl) ?_
        refine on_al0 (tk_X7_sumByHouses 23 rfl) ?_
        refine fg_7_3 hN kw_2_45 (tk_X7_sumByHouses 24 rfl) ?_
        refine on_il2 (tk_X7_sumByHouses 25 rfl) ?_
        refine on_al0 (tk_X7_sumByHouses 26 rfl) ?_
        refine fg_7_3 hN kw_2_45 (tk_X7_sumByHouses 27 rfl) ?_
        refine on_il2 (tk_X7_sumByHouses 28 rfl) ?_
        refine on_iald (ltc_58 hN) sh_58 (tk_X7_sumByHouses 29 rfl) fun v9 => ?_
        refine on_al0 (tk_X7_sumByHouses 30 rfl) ?_
        refine on_al0 (tk_X7_sumByHouses 31 rfl) ?_
        refine fg_7_1 hN kw_2_42 (tk_X7_sumByHouses 32 rfl) ?_
        refine on_il1 (tk_X7_sumByHouses 33 rfl) ?_
        refine on_iald (ltc_56 hN) sh_56 (tk_X7_sumByHouses 34 rfl) fun v10 => ?_
        refine on_cV1i 7 ms_X7_carriedBy kw_4_231 rfl rfl (ltc_55 hN) sh_55 (ct_X7_carriedBy hN) rfl (tk_X7_sumByHouses 35 rfl) fun v11 σ12 => ?_
        refine on_max kw_4_239 kwM_max_s kwM_i kwM_max_c rfl (tk_X7_sumByHouses 36 rfl) fun v13 => ?_
        refine on_iast (ltc_58 hN) sh_58 (tk_X7_sumByHouses 37 rfl) fun σ14 => ?_
        refine on_inc1 rfl (tk_X7_sumByHouses 38 rfl) ?_
        refine on_goto (tk_X7_sumByHouses 39 rfl) (tgt := 10) (by decide) ?_
        refine on_dr2 ?_
        exact ih _ _
      · refine on_inc1 rfl (tk_X7_sumByHouses 38 rfl) ?_
        refine on_goto (tk_X7_sumByHouses 39 rfl) (tgt := 10) (by decide) ?_
        exact ih _ _
    · exact on_vret (tk_X7_sumByHouses 40 rfl)
set_option maxRecDepth 100000 in
set_option maxHeartbeats 4000000 in
theorem ct_X7_sumByHouses {E : on_E} {z n : Nat} (hN : 100 ≤ n) {σ : on_S} : on_Sp E yX7_sumByHouses cX7_sumByHouses 3 none 2 53 z n [.ref (z + 55)] σ (pf_X7_sumByHouses  σ) := by
  refine on_met [some (.ref (z + 55)), none, none] (by decide) rfl rfl (fun X => ?_)
  rw [pf_X7_sumByHouses]
  refine on_al0 (tk_X7_sumByHouses 0 rfl) ?_
  refine fg_7_3 hN kw_2_45 (tk_X7_sumByHouses 1 rfl) ?_
  refine on_iconst (tk_X7_sumByHouses 2 rfl) ?_
  refine on_cS2v ms_J7_fill_53178 kw_6_26 (ct_J7_fill_53178 hN (ltc_58 hN) sh_58) rfl (tk_X7_sumByHouses 3 rfl) fun v1 σ2 => ?_
  refine on_iconst (tk_X7_sumByHouses 4 rfl) ?_
  refine on_is1 rfl (tk_X7_sumByHouses 5 rfl) ?_
  exact gl_X7_sumByHouses_10 X  hN on_N _ _
def tb_X7_worthOf : List (Nat × Nat × Nat × Instr) := [(0, 1, 1, .iconst 0), (1, 1, 2, .istore_n 2), (2, 1, 3, .iconst 0), (3, 1, 4, .istore_n 3), (4, 1, 5, .iload_n 3), (5, 1, 6, .aload_n 0), (6, 3, 9, .getfield 18), (9, 1, 10, .arraylength), (10, 3, 13, .if_icmp .ge 28), (13, 1, 14, .iload_n 3), (14, 1, 15, .iload_n 1), (15, 1, 16, .iconst (-1)), (16, 1, 17, .ixor), (17, 1, 18, .iand), (18, 3, 21, .ifCond .ne 14), (21, 1, 22, .iload_n 2), (22, 1, 23, .aload_n 0), (23, 3, 26, .getfield 18), (26, 1, 27, .iload_n 3), (27, 1, 28, .iaload), (28, 3, 31, .invokestatic 72), (31, 1, 32, .istore_n 2), (32, 3, 35, .iinc 3 1), (35, 3, 38, .goto (-31)), (38, 1, 39, .iload_n 2), (39, 1, 40, .ireturn)]
set_option maxRecDepth 100000 in
theorem tk_X7_worthOf (k : Nat) {pc n pc2 : Nat} {i : Instr} (hk : tb_X7_worthOf[k]? = some (pc, n, pc2, i)) : on_dq cX7_worthOf pc n pc2 i := on_ta (by decide +kernel) k hk
theorem ms_X7_worthOf : on_Mv yX7_worthOf cX7_worthOf 4 (some .int) 1 := ⟨kw_6_42, kw_6_40, kw_6_41, kw_1_7, by decide, by decide, by decide +kernel⟩
def pf_X7_worthOf_4 : Nat → Int → Int → Int → on_S → Option on_O
  | 0, _, _, _, _ => none
  | nf + 1, l1, l2, l3, σ =>
    on_Lt l3 ((16 : Nat) : Int) (
      on_Eq (on_and l3 (on_xor l1 (-1))) 0 (
        on_Rd σ 58 16 l3 fun v1 =>
        on_Mx l2 v1 fun v2 =>
        pf_X7_worthOf_4 nf l1 v2 (l3 + 1) σ) (
        pf_X7_worthOf_4 nf l1 l2 (l3 + 1) σ)) (
      some (l2, σ))
def pf_X7_worthOf (p0 : Int) (σ : on_S) : Option on_O :=
  pf_X7_worthOf_4 on_N p0 0 0 σ
set_option maxRecDepth 100000 in
set_option maxHeartbeats 4000000 in
theorem gl_X7_worthOf_4 {E : on_E} {z n : Nat} (X : on_X) (hN : 100 ≤ n) : ∀ (nf : Nat) (l1 : Int) (l2 : Int) (l3 : Int) (σ : on_S), on_G X E cX7_worthOf RX7 (some .int) 1 21 4 z n σ (pf_X7_worthOf_4 nf l1 l2 l3 σ) 4 [some (.ref (z + 55)), some (.int (on_i l1)), some (.int (on_i l2)), some (.int (on_i l3))] [] := by
  intro nf
  induction nf with
  | zero => intro l1 l2 l3 σ; exact on_none
  | succ nf ih =>
    intro l1 l2 l3 σ
    rw [pf_X7_worthOf_4]
    refine on_il3 (tk_X7_worthOf 4 rfl) ?_
    refine on_al0 (tk_X7_worthOf 5 rfl) ?_
    refine fg_7_3 hN kw_2_45 (tk_X7_worthOf 6 rfl) ?_
    refine on_alen1 (N := 16) (ltc_58 hN) sh_58 (tk_X7_worthOf 7 rfl) ?_
    refine on_icmp_ge (tk_X7_worthOf 8 rfl) (tgt := 38) (by decide) ?_ ?_
    · refine on_il3 (tk_X7_worthOf 9 rfl) ?_
      refine on_il1 (tk_X7_worthOf 10 rfl) ?_
      refine on_iconst (tk_X7_worthOf 11 rfl) ?_
      refine on_ixor (tk_X7_worthOf 12 rfl) ?_
      refine on_iand (tk_X7_worthOf 13 rfl) ?_
      refine on_if_ne (tk_X7_worthOf 14 rfl) (tgt := 32) (by decide) ?_ ?_
      · refine on_il2 (tk_X7_worthOf 15 rfl) ?_
        refine on_al0 (tk_X7_worthOf 16 rfl) ?_
        refine fg_7_3 hN kw_2_45 (tk_X7_worthOf 17 rfl) ?_
        refine on_il3 (tk_X7_worthOf 18 rfl) ?_
        refine on_iald (ltc_58 hN) sh_58 (tk_X7_worthOf 19 rfl) fun v1 => ?_
        refine on_max kw_4_239 kwM_max_s kwM_i kwM_max_c rfl (tk_X7_worthOf 20 rfl) fun v2 => ?_
        refine on_is2 rfl (tk_X7_worthOf 21 rfl) ?_
        refine on_inc3 rfl (tk_X7_worthOf 22 rfl) ?_
        refine on_goto (tk_X7_worthOf 23 rfl) (tgt := 4) (by decide) ?_
        exact ih _ _ _ _
      · refine on_inc3 rfl (tk_X7_worthOf 22 rfl) ?_
        refine on_goto (tk_X7_worthOf 23 rfl) (tgt := 4) (by decide) ?_
        exact ih _ _ _ _
    · refine on_il2 (tk_X7_worthOf 24 rfl) ?_
      exact on_iret (tk_X7_worthOf 25 rfl)
set_option maxRecDepth 100000 in
set_option maxHeartbeats 4000000 in
theorem ct_X7_worthOf {E : on_E} {z n : Nat} {p0 : Int} (hN : 100 ≤ n) {σ : on_S} : on_Sp E yX7_worthOf cX7_worthOf 4 (some .int) 1 21 z n [.ref (z + 55), .int (on_i p0)] σ (pf_X7_worthOf p0 σ) := by
  refine on_met [some (.ref (z + 55)), some (.int (on_i p0)), none, none] (by decide) rfl rfl (fun X => ?_)
  rw [pf_X7_worthOf]
  refine on_iconst (tk_X7_worthOf 0 rfl) ?_
  refine on_is2 rfl (tk_X7_worthOf 1 rfl) ?_
  refine on_iconst (tk_X7_worthOf 2 rfl) ?_
  refine on_is3 rfl (tk_X7_worthOf 3 rfl) ?_
  exact gl_X7_worthOf_4 X  hN on_N _ _ _ _
