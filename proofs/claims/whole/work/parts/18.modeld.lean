def tb_X12_mostBy : List (Nat × Nat × Nat × Instr) := [(0, 1, 1, .aload_n 0), (1, 1, 2, .iload_n 3), (2, 3, 5, .putfield 352), (5, 1, 6, .iconst (-1)), (6, 2, 8, .istore 4), (8, 1, 9, .aload_n 0), (9, 3, 12, .invokevirtual 363), (12, 2, 14, .istore 5), (14, 2, 16, .iload 5), (16, 3, 19, .ifCond .eq 72), (19, 1, 20, .aload_n 0), (20, 1, 21, .iload_n 1), (21, 1, 22, .iload_n 2), (22, 1, 23, .aload_n 0), (23, 1, 24, .iload_n 1), (24, 1, 25, .iconst 2), (25, 3, 28, .invokevirtual 94), (28, 3, 31, .invokevirtual 283), (31, 2, 33, .istore 6), (33, 2, 35, .iload 6), (35, 2, 37, .iload 4), (37, 3, 40, .if_icmp .le 32), (40, 1, 41, .iconst 0), (41, 2, 43, .istore 7), (43, 2, 45, .iload 7), (45, 1, 46, .iconst 4), (46, 3, 49, .if_icmp .ge 23), (49, 1, 50, .aload_n 0), (50, 3, 53, .getfield 40), (53, 2, 55, .iload 7), (55, 1, 56, .aload_n 0), (56, 3, 59, .getfield 34), (59, 2, 61, .iload 7), (61, 1, 62, .iaload), (62, 1, 63, .iastore), (63, 3, 66, .iinc 7 1), (66, 3, 69, .goto (-23)), (69, 2, 71, .iload 4), (71, 2, 73, .iload 6), (73, 3, 76, .invokestatic 266), (76, 2, 78, .istore 4), (78, 1, 79, .aload_n 0), (79, 1, 80, .iconst 3), (80, 3, 83, .invokevirtual 360), (83, 2, 85, .istore 5), (85, 3, 88, .goto (-71)), (88, 2, 90, .iload 4), (90, 1, 91, .ireturn)]
set_option maxRecDepth 100000 in
theorem tk_X12_mostBy (k : Nat) {pc n pc2 : Nat} {i : Instr} (hk : tb_X12_mostBy[k]? = some (pc, n, pc2, i)) : on_dq cX12_mostBy pc n pc2 i := on_ta (by decide +kernel) k hk
theorem ms_X12_mostBy : on_Mv yX12_mostBy cX12_mostBy 8 (some .int) 3 := ⟨kw_8_128, kw_8_127, (on_mp (q := (yX12_mostBy, 37)) (by decide +kernel)), kw_1_13, by decide, by decide, by decide +kernel⟩
def pf_X12_mostBy_69 (k14 : Int → Int → Int → Int → on_S → Option on_O) (l1 : Int) (l2 : Int) (l4 : Int) (l6 : Int) (σ : on_S) : Option on_O :=
  on_Mx l4 l6 fun v10 =>
  on_Cl (pf_X12_nextRow 3 σ) fun v11 σ12 =>
  k14 l1 l2 v10 v11 σ12
def pf_X12_mostBy_43 (k14 : Int → Int → Int → Int → on_S → Option on_O) : Nat → Int → Int → Int → Int → Int → on_S → Option on_O
  | 0, _, _, _, _, _, _ => none
  | nf + 1, l1, l2, l4, l6, l7, σ =>
    on_Lt l7 4 (
      on_Rd σ 84 4 l7 fun v8 =>
      on_Wr σ 86 4 l7 v8 fun σ9 =>
      pf_X12_mostBy_43 k14 nf l1 l2 l4 l6 (l7 + 1) σ9) (
      pf_X12_mostBy_69 k14 l1 l2 l4 l6 σ)
def pf_X12_mostBy_14 : Nat → Int → Int → Int → Int → on_S → Option on_O
  | 0, _, _, _, _, _ => none
  | nf + 1, l1, l2, l4, l5, σ =>
    on_Eq l5 0 (
      some (l4, σ)) (
      on_Cl (pf_X12_ofNet l1 2 σ) fun v4 σ5 =>
      on_Cl (pf_X12_carriesBy l1 l2 v4 σ5) fun v6 σ7 =>
      on_Le v6 l4 (
        pf_X12_mostBy_69 (pf_X12_mostBy_14 nf) l1 l2 l4 v6 σ7) (
        pf_X12_mostBy_43 (pf_X12_mostBy_14 nf) on_N l1 l2 l4 v6 0 σ7))
def pf_X12_mostBy (p0 : Int) (p1 : Int) (p2 : Int) (σ : on_S) : Option on_O :=
  on_Pt σ 77 18 p2 fun σ1 =>
  on_Cl (pf_X12_firstRow σ1) fun v2 σ3 =>
  pf_X12_mostBy_14 on_N p0 p1 (-1) v2 σ3
set_option maxRecDepth 100000 in
set_option maxHeartbeats 4000000 in
theorem gb_X12_mostBy_69 {E : on_E} {z n : Nat} (X : on_X) (k14 : Int → Int → Int → Int → on_S → Option on_O) (hN : 100 ≤ n) (hk14 : ∀ (l1 : Int) (l2 : Int) (l4 : Int) (l5 : Int) (σ : on_S), on_G X E cX12_mostBy RX12 (some .int) 5 121 8 z n σ (k14 l1 l2 l4 l5 σ) 14 [some (.ref (z + 77)), some (.int (on_i l1)), some (.int (on_i l2)), none, some (.int (on_i l4)), some (.int (on_i l5)), none, none] []) (l1 : Int) (l2 : Int) (l4 : Int) (l6 : Int) (σ : on_S) : on_G X E cX12_mostBy RX12 (some .int) 5 121 8 z n σ (pf_X12_mostBy_69 k14 l1 l2 l4 l6 σ) 69 [some (.ref (z + 77)), some (.int (on_i l1)), some (.int (on_i l2)), none, some (.int (on_i l4)), none, some (.int (on_i l6)), none] [] := by
  rw [pf_X12_mostBy_69]
  refine on_il4 (tk_X12_mostBy 37 rfl) ?_
  refine on_il6 (tk_X12_mostBy 38 rfl) ?_
  refine on_max kw_7_204 kwM_max_s kwM_i kwM_max_c rfl (tk_X12_mostBy 39 rfl) fun v10 => ?_
  refine on_is4 rfl (tk_X12_mostBy 40 rfl) ?_
  refine on_al0 (tk_X12_mostBy 41 rfl) ?_
  refine on_iconst (tk_X12_mostBy 42 rfl) ?_
  refine on_cV1z 12 ms_X12_nextRow kw_8_133 rfl rfl (ltc_77 hN) sh_77 (ct_X12_nextRow hN) rfl (tk_X12_mostBy 43 rfl) fun v11 σ12 => ?_
  refine on_is5 rfl (tk_X12_mostBy 44 rfl) ?_
  refine on_goto (tk_X12_mostBy 45 rfl) (tgt := 14) (by decide) ?_
  refine on_dr6 ?_
  exact hk14 _ _ _ _ _
set_option maxRecDepth 100000 in
set_option maxHeartbeats 4000000 in
theorem gl_X12_mostBy_43 {E : on_E} {z n : Nat} (X : on_X) (k14 : Int → Int → Int → Int → on_S → Option on_O) (hN : 100 ≤ n) (hk14 : ∀ (l1 : Int) (l2 : Int) (l4 : Int) (l5 : Int) (σ : on_S), on_G X E cX12_mostBy RX12 (some .int) 5 121 8 z n σ (k14 l1 l2 l4 l5 σ) 14 [some (.ref (z + 77)), some (.int (on_i l1)), some (.int (on_i l2)), none, some (.int (on_i l4)), some (.int (on_i l5)), none, none] []) : ∀ (nf : Nat) (l1 : Int) (l2 : Int) (l4 : Int) (l6 : Int) (l7 : Int) (σ : on_S), on_G X E cX12_mostBy RX12 (some .int) 5 121 8 z n σ (pf_X12_mostBy_43 k14 nf l1 l2 l4 l6 l7 σ) 43 [some (.ref (z + 77)), some (.int (on_i l1)), some (.int (on_i l2)), none, some (.int (on_i l4)), none, some (.int (on_i l6)), some (.int (on_i l7))] [] := by
  intro nf
  induction nf with
  | zero => intro l1 l2 l4 l6 l7 σ; exact on_none
  | succ nf ih =>
    intro l1 l2 l4 l6 l7 σ
    rw [pf_X12_mostBy_43]
    refine on_il7 (tk_X12_mostBy 24 rfl) ?_
    refine on_iconst (tk_X12_mostBy 25 rfl) ?_
    refine on_icmp_ge (tk_X12_mostBy 26 rfl) (tgt := 69) (by decide) ?_ ?_
    · refine on_al0 (tk_X12_mostBy 27 rfl) ?_
      refine fg_12_19 hN kw_6_159 (tk_X12_mostBy 28 rfl) ?_
      refine on_il7 (tk_X12_mostBy 29 rfl) ?_
      refine on_al0 (tk_X12_mostBy 30 rfl) ?_
      refine fg_12_15 hN kw_6_155 (tk_X12_mostBy 31 rfl) ?_
      refine on_il7 (tk_X12_mostBy 32 rfl) ?_
      refine on_iald (ltc_84 hN) sh_84 (tk_X12_mostBy 33 rfl) fun v8 => ?_
      refine on_iast (ltc_86 hN) sh_86 (tk_X12_mostBy 34 rfl) fun σ9 => ?_
      refine on_inc7 rfl (tk_X12_mostBy 35 rfl) ?_
      refine on_goto (tk_X12_mostBy 36 rfl) (tgt := 43) (by decide) ?_
      exact ih _ _ _ _ _ _
    · refine on_dr7 ?_
      exact gb_X12_mostBy_69 X _ hN hk14 _ _ _ _ _
set_option maxRecDepth 100000 in
set_option maxHeartbeats 4000000 in
theorem gl_X12_mostBy_14 {E : on_E} {z n : Nat} (X : on_X) (hN : 100 ≤ n) : ∀ (nf : Nat) (l1 : Int) (l2 : Int) (l4 : Int) (l5 : Int) (σ : on_S), on_G X E cX12_mostBy RX12 (some .int) 5 121 8 z n σ (pf_X12_mostBy_14 nf l1 l2 l4 l5 σ) 14 [some (.ref (z + 77)), some (.int (on_i l1)), some (.int (on_i l2)), none, some (.int (on_i l4)), some (.int (on_i l5)), none, none] [] := by
  intro nf
  induction nf with
  | zero => intro l1 l2 l4 l5 σ; exact on_none
  | succ nf ih =>
    intro l1 l2 l4 l5 σ
    rw [pf_X12_mostBy_14]
    refine on_il5 (tk_X12_mostBy 8 rfl) ?_
    refine on_if_eq (tk_X12_mostBy 9 rfl) (tgt := 88) (by decide) ?_ ?_
    · refine on_al0 (tk_X12_mostBy 10 rfl) ?_
      refine on_il1 (tk_X12_mostBy 11 rfl) ?_
      refine on_il2 (tk_X12_mostBy 12 rfl) ?_
      refine on_al0 (tk_X12_mostBy 13 rfl) ?_
      refine on_il1 (tk_X12_mostBy 14 rfl) ?_
      refine on_iconst (tk_X12_mostBy 15 rfl) ?_
      refine on_cV2i 12 ms_X12_ofNet kw_7_162 rfl rfl (ltc_77 hN) sh_77 (ct_X12_ofNet hN) rfl (tk_X12_mostBy 16 rfl) fun v4 σ5 => ?_
      refine on_cV3i 12 ms_X12_carriesBy kw_7_217 rfl rfl (ltc_77 hN) sh_77 (ct_X12_carriesBy hN) rfl (tk_X12_mostBy 17 rfl) fun v6 σ7 => ?_
      refine on_is6 rfl (tk_X12_mostBy 18 rfl) ?_
      refine on_il6 (tk_X12_mostBy 19 rfl) ?_
      refine on_il4 (tk_X12_mostBy 20 rfl) ?_
      refine on_icmp_le (tk_X12_mostBy 21 rfl) (tgt := 69) (by decide) ?_ ?_
      · refine on_iconst (tk_X12_mostBy 22 rfl) ?_
        refine on_is7 rfl (tk_X12_mostBy 23 rfl) ?_
        refine on_dr5 ?_
        exact gl_X12_mostBy_43 X _ hN ih on_N _ _ _ _ _ _
      · refine on_dr5 ?_
        exact gb_X12_mostBy_69 X _ hN ih _ _ _ _ _
    · refine on_il4 (tk_X12_mostBy 46 rfl) ?_
      exact on_iret (tk_X12_mostBy 47 rfl)
set_option maxRecDepth 100000 in
set_option maxHeartbeats 4000000 in
theorem ct_X12_mostBy {E : on_E} {z n : Nat} {p0 : Int} {p1 : Int} {p2 : Int} (hN : 100 ≤ n) {σ : on_S} : on_Sp E yX12_mostBy cX12_mostBy 8 (some .int) 5 121 z n [.ref (z + 77), .int (on_i p0), .int (on_i p1), .int (on_i p2)] σ (pf_X12_mostBy p0 p1 p2 σ) := by
  refine on_met [some (.ref (z + 77)), some (.int (on_i p0)), some (.int (on_i p1)), some (.int (on_i p2)), none, none, none, none] (by decide) rfl rfl (fun X => ?_)
  rw [pf_X12_mostBy]
  refine on_al0 (tk_X12_mostBy 0 rfl) ?_
  refine on_il3 (tk_X12_mostBy 1 rfl) ?_
  refine fp_12_18 hN kw_6_158 (tk_X12_mostBy 2 rfl) fun σ1 => ?_
  refine on_iconst (tk_X12_mostBy 3 rfl) ?_
  refine on_is4 rfl (tk_X12_mostBy 4 rfl) ?_
  refine on_al0 (tk_X12_mostBy 5 rfl) ?_
  refine on_cV0z 12 ms_X12_firstRow kw_8_129 rfl rfl (ltc_77 hN) sh_77 (ct_X12_firstRow hN) rfl (tk_X12_mostBy 6 rfl) fun v2 σ3 => ?_
  refine on_is5 rfl (tk_X12_mostBy 7 rfl) ?_
  refine on_dr3 ?_
  exact gl_X12_mostBy_14 X  hN on_N _ _ _ _ _
def tb_X12_allHouses : List (Nat × Nat × Nat × Instr) := [(0, 2, 2, .bipush 15), (2, 1, 3, .ireturn)]
set_option maxRecDepth 100000 in
theorem tk_X12_allHouses (k : Nat) {pc n pc2 : Nat} {i : Instr} (hk : tb_X12_allHouses[k]? = some (pc, n, pc2, i)) : on_dq cX12_allHouses pc n pc2 i := on_ta (by decide +kernel) k hk
theorem ms_X12_allHouses : on_Mv yX12_allHouses cX12_allHouses 1 (some .int) 0 := ⟨kw_8_124, kw_8_123, (on_mp (q := (yX12_allHouses, 37)) (by decide +kernel)), kw_1_13, by decide, by decide, by decide +kernel⟩
def pf_X12_allHouses (σ : on_S) : Option on_O :=
  some (15, σ)
set_option maxRecDepth 100000 in
set_option maxHeartbeats 4000000 in
theorem ct_X12_allHouses {E : on_E} {z n : Nat} (hN : 100 ≤ n) {σ : on_S} : on_Sp E yX12_allHouses cX12_allHouses 1 (some .int) 0 0 z n [.ref (z + 77)] σ (pf_X12_allHouses  σ) := by
  refine on_met [some (.ref (z + 77))] (by decide) rfl rfl (fun X => ?_)
  rw [pf_X12_allHouses]
  refine on_bipush (tk_X12_allHouses 0 rfl) bp_15 ?_
  exact on_iret (tk_X12_allHouses 1 rfl)
def tb_X12_most : List (Nat × Nat × Nat × Instr) := [(0, 1, 1, .aload_n 0), (1, 1, 2, .iload_n 1), (2, 1, 3, .aload_n 0), (3, 1, 4, .iload_n 1), (4, 1, 5, .iconst 0), (5, 3, 8, .invokevirtual 94), (8, 1, 9, .aload_n 0), (9, 3, 12, .invokevirtual 366), (12, 3, 15, .invokevirtual 369), (15, 1, 16, .ireturn)]
set_option maxRecDepth 100000 in
theorem tk_X12_most (k : Nat) {pc n pc2 : Nat} {i : Instr} (hk : tb_X12_most[k]? = some (pc, n, pc2, i)) : on_dq cX12_most pc n pc2 i := on_ta (by decide +kernel) k hk
theorem ms_X12_most : on_Mv yX12_most cX12_most 2 (some .int) 1 := ⟨kw_8_120, kw_8_119, (on_mp (q := (yX12_most, 37)) (by decide +kernel)), kw_1_13, by decide, by decide, by decide +kernel⟩
def pf_X12_most (p0 : Int) (σ : on_S) : Option on_O :=
  on_Cl (pf_X12_ofNet p0 0 σ) fun v1 σ2 =>
  on_Cl (pf_X12_allHouses σ2) fun v3 σ4 =>
  on_Cl (pf_X12_mostBy p0 v1 v3 σ4) fun v5 σ6 =>
  some (v5, σ6)
set_option maxRecDepth 100000 in
set_option maxHeartbeats 4000000 in
theorem ct_X12_most {E : on_E} {z n : Nat} {p0 : Int} (hN : 100 ≤ n) {σ : on_S} : on_Sp E yX12_most cX12_most 2 (some .int) 6 148 z n [.ref (z + 77), .int (on_i p0)] σ (pf_X12_most p0 σ) := by
  refine on_met [some (.ref (z + 77)), some (.int (on_i p0))] (by decide) rfl rfl (fun X => ?_)
  rw [pf_X12_most]
  refine on_al0 (tk_X12_most 0 rfl) ?_
  refine on_il1 (tk_X12_most 1 rfl) ?_
  refine on_al0 (tk_X12_most 2 rfl) ?_
  refine on_il1 (tk_X12_most 3 rfl) ?_
  refine on_iconst (tk_X12_most 4 rfl) ?_
  refine on_cV2i 12 ms_X12_ofNet kw_7_162 rfl rfl (ltc_77 hN) sh_77 (ct_X12_ofNet hN) rfl (tk_X12_most 5 rfl) fun v1 σ2 => ?_
  refine on_al0 (tk_X12_most 6 rfl) ?_
  refine on_cV0i 12 ms_X12_allHouses kw_8_121 rfl rfl (ltc_77 hN) sh_77 (ct_X12_allHouses hN) rfl (tk_X12_most 7 rfl) fun v3 σ4 => ?_
  refine on_cV3i 12 ms_X12_mostBy kw_8_125 rfl rfl (ltc_77 hN) sh_77 (ct_X12_mostBy hN) rfl (tk_X12_most 8 rfl) fun v5 σ6 => ?_
  exact on_iret (tk_X12_most 9 rfl)
def tb_X12_asksFour : List (Nat × Nat × Nat × Instr) := [(0, 1, 1, .iload_n 1), (1, 3, 4, .ifCond .ne 8), (4, 2, 6, .bipush (-2)), (6, 3, 9, .goto 19), (9, 1, 10, .aload_n 0), (10, 3, 13, .getfield 9), (13, 1, 14, .iconst 3), (14, 1, 15, .iaload), (15, 1, 16, .iconst 4), (16, 3, 19, .if_icmp .ge 8), (19, 2, 21, .bipush (-6)), (21, 3, 24, .goto 4), (24, 1, 25, .iconst 0), (25, 1, 26, .ireturn)]
set_option maxRecDepth 100000 in
theorem tk_X12_asksFour (k : Nat) {pc n pc2 : Nat} {i : Instr} (hk : tb_X12_asksFour[k]? = some (pc, n, pc2, i)) : on_dq cX12_asksFour pc n pc2 i := on_ta (by decide +kernel) k hk
theorem ms_X12_asksFour : on_Mv yX12_asksFour cX12_asksFour 2 (some .int) 1 := ⟨kw_8_116, kw_8_115, (on_mp (q := (yX12_asksFour, 37)) (by decide +kernel)), kw_1_13, by decide, by decide, by decide +kernel⟩
def pf_X12_asksFour (p0 : Int) (σ : on_S) : Option on_O :=
  on_Eq p0 0 (
    some ((-2), σ)) (
    on_Rd σ 78 687 3 fun v1 =>
    on_Lt v1 4 (
      some ((-6), σ)) (
      some (0, σ)))
set_option maxRecDepth 100000 in
set_option maxHeartbeats 4000000 in
theorem ct_X12_asksFour {E : on_E} {z n : Nat} {p0 : Int} (hN : 100 ≤ n) {σ : on_S} : on_Sp E yX12_asksFour cX12_asksFour 2 (some .int) 0 0 z n [.ref (z + 77), .int (on_i p0)] σ (pf_X12_asksFour p0 σ) := by
  refine on_met [some (.ref (z + 77)), some (.int (on_i p0))] (by decide) rfl rfl (fun X => ?_)
  rw [pf_X12_asksFour]
  refine on_il1 (tk_X12_asksFour 0 rfl) ?_
  refine on_if_ne (tk_X12_asksFour 1 rfl) (tgt := 9) (by decide) ?_ ?_
  · refine on_bipush (tk_X12_asksFour 2 rfl) bp_m2 ?_
    refine on_goto (tk_X12_asksFour 3 rfl) (tgt := 25) (by decide) ?_
    exact on_iret (tk_X12_asksFour 13 rfl)
  · refine on_al0 (tk_X12_asksFour 4 rfl) ?_
    refine fg_12_1 hN kw_6_141 (tk_X12_asksFour 5 rfl) ?_
    refine on_iconst (tk_X12_asksFour 6 rfl) ?_
    refine on_iald (ltc_78 hN) sh_78 (tk_X12_asksFour 7 rfl) fun v1 => ?_
    refine on_iconst (tk_X12_asksFour 8 rfl) ?_
    refine on_icmp_ge (tk_X12_asksFour 9 rfl) (tgt := 24) (by decide) ?_ ?_
    · refine on_bipush (tk_X12_asksFour 10 rfl) bp_m6 ?_
      refine on_goto (tk_X12_asksFour 11 rfl) (tgt := 25) (by decide) ?_
      exact on_iret (tk_X12_asksFour 13 rfl)
    · refine on_iconst (tk_X12_asksFour 12 rfl) ?_
      exact on_iret (tk_X12_asksFour 13 rfl)
def tb_X12_best : List (Nat × Nat × Nat × Instr) := [(0, 1, 1, .aload_n 0), (1, 1, 2, .aload_n 0), (2, 1, 3, .iload_n 1), (3, 1, 4, .i2l), (4, 3, 7, .invokevirtual 301), (7, 3, 10, .invokevirtual 372), (10, 1, 11, .istore_n 2), (11, 1, 12, .iload_n 2), (12, 3, 15, .ifCond .ge 7), (15, 1, 16, .iload_n 2), (16, 3, 19, .goto 8), (19, 1, 20, .aload_n 0), (20, 1, 21, .iload_n 1), (21, 3, 24, .invokevirtual 376), (24, 1, 25, .ireturn)]
set_option maxRecDepth 100000 in
theorem tk_X12_best (k : Nat) {pc n pc2 : Nat} {i : Instr} (hk : tb_X12_best[k]? = some (pc, n, pc2, i)) : on_dq cX12_best pc n pc2 i := on_ta (by decide +kernel) k hk
theorem ms_X12_best : on_Mv yX12_best cX12_best 3 (some .int) 1 := ⟨kw_8_112, kw_8_110, kw_8_111, kw_1_13, by decide, by decide, by decide +kernel⟩
def pf_X12_best (p0 : Int) (σ : on_S) : Option on_O :=
  on_Ck p0 <|
  on_Cl (pf_X12_isNet p0 σ) fun v1 σ2 =>
  on_Cl (pf_X12_asksFour v1 σ2) fun v3 σ4 =>
  on_Lt v3 0 (
    some (v3, σ4)) (
    on_Cl (pf_X12_most p0 σ4) fun v5 σ6 =>
    some (v5, σ6))
set_option maxRecDepth 100000 in
set_option maxHeartbeats 4000000 in
theorem ct_X12_best {E : on_E} {z n : Nat} {p0 : Int} (hN : 100 ≤ n) {σ : on_S} : on_Sp E yX12_best cX12_best 3 (some .int) 7 169 z n [.ref (z + 77), .int (on_i p0)] σ (pf_X12_best p0 σ) := by
  refine on_met [some (.ref (z + 77)), some (.int (on_i p0)), none] (by decide) rfl rfl (fun X => ?_)
  rw [pf_X12_best]
  refine on_al0 (tk_X12_best 0 rfl) ?_
  refine on_al0 (tk_X12_best 1 rfl) ?_
  refine on_il1 (tk_X12_best 2 rfl) ?_
  refine on_xi2l (tk_X12_best 3 rfl) ?_
  refine on_cV1z 12 ms_X12_isNet kw_7_183 rfl rfl (ltc_77 hN) sh_77 (ct_X12_isNet hN) rfl (tk_X12_best 4 rfl) fun v1 σ2 => ?_
  refine on_cV1i 12 ms_X12_asksFour kw_8_113 rfl rfl (ltc_77 hN) sh_77 (ct_X12_asksFour hN) rfl (tk_X12_best 5 rfl) fun v3 σ4 => ?_
  refine on_is2 rfl (tk_X12_best 6 rfl) ?_
  refine on_il2 (tk_X12_best 7 rfl) ?_
  refine on_if_ge (tk_X12_best 8 rfl) (tgt := 19) (by decide) ?_ ?_
  · refine on_il2 (tk_X12_best 9 rfl) ?_
    refine on_goto (tk_X12_best 10 rfl) (tgt := 24) (by decide) ?_
    exact on_iret (tk_X12_best 14 rfl)
  · refine on_al0 (tk_X12_best 11 rfl) ?_
    refine on_il1 (tk_X12_best 12 rfl) ?_
    refine on_cV1i 12 ms_X12_most kw_8_117 rfl rfl (ltc_77 hN) sh_77 (ct_X12_most hN) rfl (tk_X12_best 13 rfl) fun v5 σ6 => ?_
    exact on_iret (tk_X12_best 14 rfl)
def tb_X12_post : List (Nat × Nat × Nat × Instr) := [(0, 1, 1, .aload_n 0), (1, 1, 2, .aload_n 0), (2, 1, 3, .iload_n 1), (3, 1, 4, .i2l), (4, 3, 7, .invokevirtual 301), (7, 3, 10, .ifCond .eq 14), (10, 1, 11, .iload_n 2), (11, 3, 14, .invokestatic 310), (14, 3, 17, .ifCond .eq 7), (17, 1, 18, .iconst 1), (18, 3, 21, .goto 4), (21, 1, 22, .iconst 0), (22, 3, 25, .invokevirtual 372), (25, 1, 26, .istore_n 3), (26, 1, 27, .iload_n 3), (27, 3, 30, .ifCond .ge 5), (30, 1, 31, .iload_n 3), (31, 1, 32, .ireturn), (32, 1, 33, .aload_n 0), (33, 1, 34, .iload_n 1), (34, 3, 37, .invokevirtual 376), (37, 1, 38, .pop), (38, 1, 39, .aload_n 0), (39, 3, 42, .getfield 40), (42, 1, 43, .iload_n 2), (43, 1, 44, .iaload), (44, 1, 45, .ireturn)]
set_option maxRecDepth 100000 in
theorem tk_X12_post (k : Nat) {pc n pc2 : Nat} {i : Instr} (hk : tb_X12_post[k]? = some (pc, n, pc2, i)) : on_dq cX12_post pc n pc2 i := on_ta (by decide +kernel) k hk
theorem ms_X12_post : on_Mv yX12_post cX12_post 4 (some .int) 2 := ⟨kw_8_148, kw_8_146, kw_8_147, kw_1_13, by decide, by decide, by decide +kernel⟩
def pf_X12_post_22 (l1 : Int) (l2 : Int) (s1 : Int) (σ : on_S) : Option on_O :=
  on_Cl (pf_X12_asksFour s1 σ) fun v5 σ6 =>
  on_Lt v5 0 (
    some (v5, σ6)) (
    on_Cl (pf_X12_most l1 σ6) fun v7 σ8 =>
    on_Rd σ8 86 4 l2 fun v9 =>
    some (v9, σ8))
def pf_X12_post_21 (l1 : Int) (l2 : Int) (σ : on_S) : Option on_O :=
  pf_X12_post_22 l1 l2 0 σ
def pf_X12_post (p0 : Int) (p1 : Int) (σ : on_S) : Option on_O :=
  on_Ck p0 <|
  on_Cl (pf_X12_isNet p0 σ) fun v1 σ2 =>
  on_Eq v1 0 (
    pf_X12_post_21 p0 p1 σ2) (
    on_Cl (pf_X12_isCorner p1 σ2) fun v3 σ4 =>
    on_Eq v3 0 (
      pf_X12_post_21 p0 p1 σ4) (
      pf_X12_post_22 p0 p1 1 σ4))
set_option maxRecDepth 100000 in
set_option maxHeartbeats 4000000 in
theorem gb_X12_post_22 {E : on_E} {z n : Nat} (X : on_X) (hN : 100 ≤ n) (l1 : Int) (l2 : Int) (s1 : Int) (σ : on_S) : on_G X E cX12_post RX12 (some .int) 7 169 4 z n σ (pf_X12_post_22 l1 l2 s1 σ) 22 [some (.ref (z + 77)), some (.int (on_i l1)), some (.int (on_i l2)), none] [.int (on_i s1), .ref (z + 77)] := by
  rw [pf_X12_post_22]
  refine on_cV1i 12 ms_X12_asksFour kw_8_113 rfl rfl (ltc_77 hN) sh_77 (ct_X12_asksFour hN) rfl (tk_X12_post 12 rfl) fun v5 σ6 => ?_
  refine on_is3 rfl (tk_X12_post 13 rfl) ?_
  refine on_il3 (tk_X12_post 14 rfl) ?_
  refine on_if_ge (tk_X12_post 15 rfl) (tgt := 32) (by decide) ?_ ?_
  · refine on_il3 (tk_X12_post 16 rfl) ?_
    exact on_iret (tk_X12_post 17 rfl)
  · refine on_al0 (tk_X12_post 18 rfl) ?_
    refine on_il1 (tk_X12_post 19 rfl) ?_
    refine on_cV1i 12 ms_X12_most kw_8_117 rfl rfl (ltc_77 hN) sh_77 (ct_X12_most hN) rfl (tk_X12_post 20 rfl) fun v7 σ8 => ?_
    refine on_pop rfl (tk_X12_post 21 rfl) ?_
    refine on_al0 (tk_X12_post 22 rfl) ?_
    refine fg_12_19 hN kw_6_159 (tk_X12_post 23 rfl) ?_
    refine on_il2 (tk_X12_post 24 rfl) ?_
    refine on_iald (ltc_86 hN) sh_86 (tk_X12_post 25 rfl) fun v9 => ?_
    exact on_iret (tk_X12_post 26 rfl)
set_option maxRecDepth 100000 in
set_option maxHeartbeats 4000000 in
theorem gb_X12_post_21 {E : on_E} {z n : Nat} (X : on_X) (hN : 100 ≤ n) (l1 : Int) (l2 : Int) (σ : on_S) : on_G X E cX12_post RX12 (some .int) 7 169 4 z n σ (pf_X12_post_21 l1 l2 σ) 21 [some (.ref (z + 77)), some (.int (on_i l1)), some (.int (on_i l2)), none] [.ref (z + 77)] := by
  rw [pf_X12_post_21]
  refine on_iconst (tk_X12_post 11 rfl) ?_
  exact gb_X12_post_22 X  hN _ _ _ _
set_option maxRecDepth 100000 in
set_option maxHeartbeats 4000000 in
theorem ct_X12_post {E : on_E} {z n : Nat} {p0 : Int} {p1 : Int} (hN : 100 ≤ n) {σ : on_S} : on_Sp E yX12_post cX12_post 4 (some .int) 7 169 z n [.ref (z + 77), .int (on_i p0), .int (on_i p1)] σ (pf_X12_post p0 p1 σ) := by
  refine on_met [some (.ref (z + 77)), some (.int (on_i p0)), some (.int (on_i p1)), none] (by decide) rfl rfl (fun X => ?_)
  rw [pf_X12_post]
  refine on_al0 (tk_X12_post 0 rfl) ?_
  refine on_al0 (tk_X12_post 1 rfl) ?_
  refine on_il1 (tk_X12_post 2 rfl) ?_
  refine on_xi2l (tk_X12_post 3 rfl) ?_
  refine on_cV1z 12 ms_X12_isNet kw_7_183 rfl rfl (ltc_77 hN) sh_77 (ct_X12_isNet hN) rfl (tk_X12_post 4 rfl) fun v1 σ2 => ?_
  refine on_if_eq (tk_X12_post 5 rfl) (tgt := 21) (by decide) ?_ ?_
  · refine on_il2 (tk_X12_post 6 rfl) ?_
    refine on_cS1z ms_X12_isCorner kw_8_5 (ct_X12_isCorner hN) rfl (tk_X12_post 7 rfl) fun v3 σ4 => ?_
    refine on_if_eq (tk_X12_post 8 rfl) (tgt := 21) (by decide) ?_ ?_
    · refine on_iconst (tk_X12_post 9 rfl) ?_
      refine on_goto (tk_X12_post 10 rfl) (tgt := 22) (by decide) ?_
      exact gb_X12_post_22 X  hN _ _ _ _
    · exact gb_X12_post_21 X  hN _ _ _
  · exact gb_X12_post_21 X  hN _ _ _
def tb_X12_rows : List (Nat × Nat × Nat × Instr) := [(0, 1, 1, .aload_n 0), (1, 1, 2, .aload_n 0), (2, 1, 3, .iload_n 1), (3, 1, 4, .i2l), (4, 3, 7, .invokevirtual 301), (7, 3, 10, .ifCond .eq 11), (10, 1, 11, .iload_n 2), (11, 3, 14, .ifCond .lt 7), (14, 1, 15, .iconst 1), (15, 3, 18, .goto 4), (18, 1, 19, .iconst 0), (19, 3, 22, .invokevirtual 372), (22, 1, 23, .istore_n 3), (23, 1, 24, .iload_n 3), (24, 3, 27, .ifCond .ge 5), (27, 1, 28, .iload_n 3), (28, 1, 29, .ireturn), (29, 1, 30, .aload_n 0), (30, 1, 31, .aload_n 0), (31, 3, 34, .invokevirtual 366), (34, 3, 37, .putfield 352), (37, 1, 38, .iconst 0), (38, 2, 40, .istore 4), (40, 1, 41, .aload_n 0), (41, 3, 44, .invokevirtual 363), (44, 2, 46, .istore 5), (46, 2, 48, .iload 5), (48, 3, 51, .ifCond .eq 44), (51, 2, 53, .iload 4), (53, 1, 54, .aload_n 0), (54, 1, 55, .iload_n 1), (55, 1, 56, .aload_n 0), (56, 1, 57, .iload_n 1), (57, 1, 58, .iconst 0), (58, 3, 61, .invokevirtual 94), (61, 1, 62, .aload_n 0), (62, 1, 63, .iload_n 1), (63, 1, 64, .iconst 2), (64, 3, 67, .invokevirtual 94), (67, 3, 70, .invokevirtual 283), (70, 1, 71, .iload_n 2), (71, 3, 74, .if_icmp .lt 7), (74, 1, 75, .iconst 1), (75, 3, 78, .goto 4), (78, 1, 79, .iconst 0), (79, 1, 80, .iadd), (80, 2, 82, .istore 4), (82, 1, 83, .aload_n 0), (83, 1, 84, .iconst 3), (84, 3, 87, .invokevirtual 360), (87, 2, 89, .istore 5), (89, 3, 92, .goto (-43)), (92, 2, 94, .iload 4), (94, 1, 95, .ireturn)]
set_option maxRecDepth 100000 in
theorem tk_X12_rows (k : Nat) {pc n pc2 : Nat} {i : Instr} (hk : tb_X12_rows[k]? = some (pc, n, pc2, i)) : on_dq cX12_rows pc n pc2 i := on_ta (by decide +kernel) k hk
theorem ms_X12_rows : on_Mv yX12_rows cX12_rows 6 (some .int) 2 := ⟨kw_8_152, kw_8_150, kw_8_151, kw_1_13, by decide, by decide, by decide +kernel⟩
def pf_X12_rows_79 (k46 : Int → Int → Int → Int → on_S → Option on_O) (l1 : Int) (l2 : Int) (s0 : Int) (s1 : Int) (σ : on_S) : Option on_O :=
  on_Cl (pf_X12_nextRow 3 σ) fun v16 σ17 =>
  k46 l1 l2 (s0 + s1) v16 σ17
def pf_X12_rows_46 : Nat → Int → Int → Int → Int → on_S → Option on_O
  | 0, _, _, _, _, _ => none
  | nf + 1, l1, l2, l4, l5, σ =>
    on_Eq l5 0 (
      some (l4, σ)) (
      on_Cl (pf_X12_ofNet l1 0 σ) fun v10 σ11 =>
      on_Cl (pf_X12_ofNet l1 2 σ11) fun v12 σ13 =>
      on_Cl (pf_X12_carriesBy l1 v10 v12 σ13) fun v14 σ15 =>
      on_Lt v14 l2 (
        pf_X12_rows_79 (pf_X12_rows_46 nf) l1 l2 l4 0 σ15) (
        pf_X12_rows_79 (pf_X12_rows_46 nf) l1 l2 l4 1 σ15))
def pf_X12_rows_19 (l1 : Int) (l2 : Int) (s1 : Int) (σ : on_S) : Option on_O :=
  on_Cl (pf_X12_asksFour s1 σ) fun v3 σ4 =>
  on_Lt v3 0 (
    some (v3, σ4)) (
    on_Cl (pf_X12_allHouses σ4) fun v5 σ6 =>
    on_Pt σ6 77 18 v5 fun σ7 =>
    on_Cl (pf_X12_firstRow σ7) fun v8 σ9 =>
    pf_X12_rows_46 on_N l1 l2 0 v8 σ9)
def pf_X12_rows_18 (l1 : Int) (l2 : Int) (σ : on_S) : Option on_O :=
  pf_X12_rows_19 l1 l2 0 σ
def pf_X12_rows (p0 : Int) (p1 : Int) (σ : on_S) : Option on_O :=
  on_Ck p0 <|
  on_Cl (pf_X12_isNet p0 σ) fun v1 σ2 =>
  on_Eq v1 0 (
    pf_X12_rows_18 p0 p1 σ2) (
    on_Lt p1 0 (
      pf_X12_rows_18 p0 p1 σ2) (
      pf_X12_rows_19 p0 p1 1 σ2))
set_option maxRecDepth 100000 in
set_option maxHeartbeats 4000000 in
theorem gb_X12_rows_79 {E : on_E} {z n : Nat} (X : on_X) (k46 : Int → Int → Int → Int → on_S → Option on_O) (hN : 100 ≤ n) (hk46 : ∀ (l1 : Int) (l2 : Int) (l4 : Int) (l5 : Int) (σ : on_S), on_G X E cX12_rows RX12 (some .int) 5 121 6 z n σ (k46 l1 l2 l4 l5 σ) 46 [some (.ref (z + 77)), some (.int (on_i l1)), some (.int (on_i l2)), none, some (.int (on_i l4)), some (.int (on_i l5))] []) (l1 : Int) (l2 : Int) (s0 : Int) (s1 : Int) (σ : on_S) : on_G X E cX12_rows RX12 (some .int) 5 121 6 z n σ (pf_X12_rows_79 k46 l1 l2 s0 s1 σ) 79 [some (.ref (z + 77)), some (.int (on_i l1)), some (.int (on_i l2)), none, none, none] [.int (on_i s1), .int (on_i s0)] := by
  rw [pf_X12_rows_79]
  refine on_iadd (tk_X12_rows 45 rfl) ?_
  refine on_is4 rfl (tk_X12_rows 46 rfl) ?_
  refine on_al0 (tk_X12_rows 47 rfl) ?_
  refine on_iconst (tk_X12_rows 48 rfl) ?_
  refine on_cV1z 12 ms_X12_nextRow kw_8_133 rfl rfl (ltc_77 hN) sh_77 (ct_X12_nextRow hN) rfl (tk_X12_rows 49 rfl) fun v16 σ17 => ?_
  refine on_is5 rfl (tk_X12_rows 50 rfl) ?_
  refine on_goto (tk_X12_rows 51 rfl) (tgt := 46) (by decide) ?_
  exact hk46 _ _ _ _ _
set_option maxRecDepth 100000 in
set_option maxHeartbeats 4000000 in
theorem gl_X12_rows_46 {E : on_E} {z n : Nat} (X : on_X) (hN : 100 ≤ n) : ∀ (nf : Nat) (l1 : Int) (l2 : Int) (l4 : Int) (l5 : Int) (σ : on_S), on_G X E cX12_rows RX12 (some .int) 5 121 6 z n σ (pf_X12_rows_46 nf l1 l2 l4 l5 σ) 46 [some (.ref (z + 77)), some (.int (on_i l1)), some (.int (on_i l2)), none, some (.int (on_i l4)), some (.int (on_i l5))] [] := by
  intro nf
  induction nf with
  | zero => intro l1 l2 l4 l5 σ; exact on_none
  | succ nf ih =>
    intro l1 l2 l4 l5 σ
    rw [pf_X12_rows_46]
    refine on_il5 (tk_X12_rows 26 rfl) ?_
    refine on_if_eq (tk_X12_rows 27 rfl) (tgt := 92) (by decide) ?_ ?_
    · refine on_il4 (tk_X12_rows 28 rfl) ?_
      refine on_al0 (tk_X12_rows 29 rfl) ?_
      refine on_il1 (tk_X12_rows 30 rfl) ?_
      refine on_al0 (tk_X12_rows 31 rfl) ?_
      refine on_il1 (tk_X12_rows 32 rfl) ?_
      refine on_iconst (tk_X12_rows 33 rfl) ?_
      refine on_cV2i 12 ms_X12_ofNet kw_7_162 rfl rfl (ltc_77 hN) sh_77 (ct_X12_ofNet hN) rfl (tk_X12_rows 34 rfl) fun v10 σ11 => ?_
      refine on_al0 (tk_X12_rows 35 rfl) ?_
      refine on_il1 (tk_X12_rows 36 rfl) ?_
      refine on_iconst (tk_X12_rows 37 rfl) ?_
      refine on_cV2i 12 ms_X12_ofNet kw_7_162 rfl rfl (ltc_77 hN) sh_77 (ct_X12_ofNet hN) rfl (tk_X12_rows 38 rfl) fun v12 σ13 => ?_
      refine on_cV3i 12 ms_X12_carriesBy kw_7_217 rfl rfl (ltc_77 hN) sh_77 (ct_X12_carriesBy hN) rfl (tk_X12_rows 39 rfl) fun v14 σ15 => ?_
      refine on_il2 (tk_X12_rows 40 rfl) ?_
      refine on_icmp_lt (tk_X12_rows 41 rfl) (tgt := 78) (by decide) ?_ ?_
      · refine on_iconst (tk_X12_rows 42 rfl) ?_
        refine on_goto (tk_X12_rows 43 rfl) (tgt := 79) (by decide) ?_
        refine on_dr4 ?_
        refine on_dr5 ?_
        exact gb_X12_rows_79 X _ hN ih _ _ _ _ _
      · refine on_iconst (tk_X12_rows 44 rfl) ?_
        refine on_dr4 ?_
        refine on_dr5 ?_
        exact gb_X12_rows_79 X _ hN ih _ _ _ _ _
    · refine on_il4 (tk_X12_rows 52 rfl) ?_
      exact on_iret (tk_X12_rows 53 rfl)
set_option maxRecDepth 100000 in
set_option maxHeartbeats 4000000 in
theorem gb_X12_rows_19 {E : on_E} {z n : Nat} (X : on_X) (hN : 100 ≤ n) (l1 : Int) (l2 : Int) (s1 : Int) (σ : on_S) : on_G X E cX12_rows RX12 (some .int) 5 121 6 z n σ (pf_X12_rows_19 l1 l2 s1 σ) 19 [some (.ref (z + 77)), some (.int (on_i l1)), some (.int (on_i l2)), none, none, none] [.int (on_i s1), .ref (z + 77)] := by
  rw [pf_X12_rows_19]
  refine on_cV1i 12 ms_X12_asksFour kw_8_113 rfl rfl (ltc_77 hN) sh_77 (ct_X12_asksFour hN) rfl (tk_X12_rows 11 rfl) fun v3 σ4 => ?_
  refine on_is3 rfl (tk_X12_rows 12 rfl) ?_
  refine on_il3 (tk_X12_rows 13 rfl) ?_
  refine on_if_ge (tk_X12_rows 14 rfl) (tgt := 29) (by decide) ?_ ?_
  · refine on_il3 (tk_X12_rows 15 rfl) ?_
    exact on_iret (tk_X12_rows 16 rfl)
  · refine on_al0 (tk_X12_rows 17 rfl) ?_
    refine on_al0 (tk_X12_rows 18 rfl) ?_
    refine on_cV0i 12 ms_X12_allHouses kw_8_121 rfl rfl (ltc_77 hN) sh_77 (ct_X12_allHouses hN) rfl (tk_X12_rows 19 rfl) fun v5 σ6 => ?_
    refine fp_12_18 hN kw_6_158 (tk_X12_rows 20 rfl) fun σ7 => ?_
    refine on_iconst (tk_X12_rows 21 rfl) ?_
    refine on_is4 rfl (tk_X12_rows 22 rfl) ?_
    refine on_al0 (tk_X12_rows 23 rfl) ?_
    refine on_cV0z 12 ms_X12_firstRow kw_8_129 rfl rfl (ltc_77 hN) sh_77 (ct_X12_firstRow hN) rfl (tk_X12_rows 24 rfl) fun v8 σ9 => ?_
    refine on_is5 rfl (tk_X12_rows 25 rfl) ?_
    refine on_dr3 ?_
    exact gl_X12_rows_46 X  hN on_N _ _ _ _ _
set_option maxRecDepth 100000 in
set_option maxHeartbeats 4000000 in
theorem gb_X12_rows_18 {E : on_E} {z n : Nat} (X : on_X) (hN : 100 ≤ n) (l1 : Int) (l2 : Int) (σ : on_S) : on_G X E cX12_rows RX12 (some .int) 5 121 6 z n σ (pf_X12_rows_18 l1 l2 σ) 18 [some (.ref (z + 77)), some (.int (on_i l1)), some (.int (on_i l2)), none, none, none] [.ref (z + 77)] := by
  rw [pf_X12_rows_18]
  refine on_iconst (tk_X12_rows 10 rfl) ?_
  exact gb_X12_rows_19 X  hN _ _ _ _
set_option maxRecDepth 100000 in
set_option maxHeartbeats 4000000 in
theorem ct_X12_rows {E : on_E} {z n : Nat} {p0 : Int} {p1 : Int} (hN : 100 ≤ n) {σ : on_S} : on_Sp E yX12_rows cX12_rows 6 (some .int) 5 121 z n [.ref (z + 77), .int (on_i p0), .int (on_i p1)] σ (pf_X12_rows p0 p1 σ) := by
  refine on_met [some (.ref (z + 77)), some (.int (on_i p0)), some (.int (on_i p1)), none, none, none] (by decide) rfl rfl (fun X => ?_)
  rw [pf_X12_rows]
  refine on_al0 (tk_X12_rows 0 rfl) ?_
  refine on_al0 (tk_X12_rows 1 rfl) ?_
  refine on_il1 (tk_X12_rows 2 rfl) ?_
  refine on_xi2l (tk_X12_rows 3 rfl) ?_
  refine on_cV1z 12 ms_X12_isNet kw_7_183 rfl rfl (ltc_77 hN) sh_77 (ct_X12_isNet hN) rfl (tk_X12_rows 4 rfl) fun v1 σ2 => ?_
  refine on_if_eq (tk_X12_rows 5 rfl) (tgt := 18) (by decide) ?_ ?_
  · refine on_il2 (tk_X12_rows 6 rfl) ?_
    refine on_if_lt (tk_X12_rows 7 rfl) (tgt := 18) (by decide) ?_ ?_
    · refine on_iconst (tk_X12_rows 8 rfl) ?_
      refine on_goto (tk_X12_rows 9 rfl) (tgt := 19) (by decide) ?_
      exact gb_X12_rows_19 X  hN _ _ _ _
    · exact gb_X12_rows_18 X  hN _ _ _
  · exact gb_X12_rows_18 X  hN _ _ _
def tb_X12_quarrelsOfPosts : List (Nat × Nat × Nat × Instr) := [(0, 1, 1, .iconst 0), (1, 1, 2, .istore_n 1), (2, 1, 3, .iconst 0), (3, 1, 4, .istore_n 2), (4, 1, 5, .iload_n 2), (5, 1, 6, .iconst 4), (6, 3, 9, .if_icmp .ge 53), (9, 1, 10, .aload_n 0), (10, 3, 13, .getfield 34), (13, 1, 14, .iload_n 2), (14, 1, 15, .iaload), (15, 1, 16, .istore_n 3), (16, 1, 17, .aload_n 0), (17, 3, 20, .getfield 34), (20, 1, 21, .iload_n 2), (21, 1, 22, .iconst 1), (22, 1, 23, .iadd), (23, 1, 24, .iconst 4), (24, 1, 25, .irem), (25, 1, 26, .iaload), (26, 2, 28, .istore 4), (28, 1, 29, .iload_n 1), (29, 1, 30, .iload_n 3), (30, 1, 31, .iconst (-1)), (31, 3, 34, .if_icmp .eq 9), (34, 2, 36, .iload 4), (36, 1, 37, .iconst (-1)), (37, 3, 40, .if_icmp .ne 7), (40, 1, 41, .iconst 0), (41, 3, 44, .goto 10), (44, 1, 45, .aload_n 0), (45, 1, 46, .iload_n 3), (46, 2, 48, .iload 4), (48, 3, 51, .invokevirtual 263), (51, 1, 52, .iadd), (52, 1, 53, .istore_n 1), (53, 3, 56, .iinc 2 1), (56, 3, 59, .goto (-52)), (59, 1, 60, .iload_n 1), (60, 1, 61, .ireturn)]
set_option maxRecDepth 100000 in
theorem tk_X12_quarrelsOfPosts (k : Nat) {pc n pc2 : Nat} {i : Instr} (hk : tb_X12_quarrelsOfPosts[k]? = some (pc, n, pc2, i)) : on_dq cX12_quarrelsOfPosts pc n pc2 i := on_ta (by decide +kernel) k hk
theorem ms_X12_quarrelsOfPosts : on_Mv yX12_quarrelsOfPosts cX12_quarrelsOfPosts 5 (some .int) 0 := ⟨kw_8_172, kw_8_171, (on_mp (q := (yX12_quarrelsOfPosts, 37)) (by decide +kernel)), kw_1_13, by decide, by decide, by decide +kernel⟩
def pf_X12_quarrelsOfPosts_40 (k4 : Int → Int → on_S → Option on_O) (l2 : Int) (s0 : Int) (σ : on_S) : Option on_O :=
  k4 (s0 + 0) (l2 + 1) σ
def pf_X12_quarrelsOfPosts_4 : Nat → Int → Int → on_S → Option on_O
  | 0, _, _, _ => none
  | nf + 1, l1, l2, σ =>
    on_Lt l2 4 (
      on_Rd σ 84 4 l2 fun v1 =>
      on_Rm (l2 + 1) 4 fun v2 =>
      on_Rd σ 84 4 v2 fun v3 =>
      on_Eq v1 (-1) (
        pf_X12_quarrelsOfPosts_40 (pf_X12_quarrelsOfPosts_4 nf) l2 l1 σ) (
        on_Eq v3 (-1) (
          pf_X12_quarrelsOfPosts_40 (pf_X12_quarrelsOfPosts_4 nf) l2 l1 σ) (
          on_Cl (pf_X12_quarrelOf v1 v3 σ) fun v4 σ5 =>
          pf_X12_quarrelsOfPosts_4 nf (l1 + v4) (l2 + 1) σ5))) (
      some (l1, σ))
def pf_X12_quarrelsOfPosts (σ : on_S) : Option on_O :=
  pf_X12_quarrelsOfPosts_4 on_N 0 0 σ
set_option maxRecDepth 100000 in
set_option maxHeartbeats 4000000 in
theorem gb_X12_quarrelsOfPosts_40 {E : on_E} {z n : Nat} (X : on_X) (k4 : Int → Int → on_S → Option on_O) (hN : 100 ≤ n) (hk4 : ∀ (l1 : Int) (l2 : Int) (σ : on_S), on_G X E cX12_quarrelsOfPosts RX12 (some .int) 1 22 5 z n σ (k4 l1 l2 σ) 4 [some (.ref (z + 77)), some (.int (on_i l1)), some (.int (on_i l2)), none, none] []) (l2 : Int) (s0 : Int) (σ : on_S) : on_G X E cX12_quarrelsOfPosts RX12 (some .int) 1 22 5 z n σ (pf_X12_quarrelsOfPosts_40 k4 l2 s0 σ) 40 [some (.ref (z + 77)), none, some (.int (on_i l2)), none, none] [.int (on_i s0)] := by
  rw [pf_X12_quarrelsOfPosts_40]
  refine on_iconst (tk_X12_quarrelsOfPosts 28 rfl) ?_
  refine on_goto (tk_X12_quarrelsOfPosts 29 rfl) (tgt := 51) (by decide) ?_
  refine on_iadd (tk_X12_quarrelsOfPosts 34 rfl) ?_
  refine on_is1 rfl (tk_X12_quarrelsOfPosts 35 rfl) ?_
  refine on_inc2 rfl (tk_X12_quarrelsOfPosts 36 rfl) ?_
  refine on_goto (tk_X12_quarrelsOfPosts 37 rfl) (tgt := 4) (by decide) ?_
  exact hk4 _ _ _
set_option maxRecDepth 100000 in
set_option maxHeartbeats 4000000 in
theorem gl_X12_quarrelsOfPosts_4 {E : on_E} {z n : Nat} (X : on_X) (hN : 100 ≤ n) : ∀ (nf : Nat) (l1 : Int) (l2 : Int) (σ : on_S), on_G X E cX12_quarrelsOfPosts RX12 (some .int) 1 22 5 z n σ (pf_X12_quarrelsOfPosts_4 nf l1 l2 σ) 4 [some (.ref (z + 77)), some (.int (on_i l1)), some (.int (on_i l2)), none, none] [] := by
  intro nf
  induction nf with
  | zero => intro l1 l2 σ; exact on_none
  | succ nf ih =>
    intro l1 l2 σ
    rw [pf_X12_quarrelsOfPosts_4]
    refine on_il2 (tk_X12_quarrelsOfPosts 4 rfl) ?_
    refine on_iconst (tk_X12_quarrelsOfPosts 5 rfl) ?_
    refine on_icmp_ge (tk_X12_quarrelsOfPosts 6 rfl) (tgt := 59) (by decide) ?_ ?_
    · refine on_al0 (tk_X12_quarrelsOfPosts 7 rfl) ?_
      refine fg_12_15 hN kw_6_155 (tk_X12_quarrelsOfPosts 8 rfl) ?_
      refine on_il2 (tk_X12_quarrelsOfPosts 9 rfl) ?_
      refine on_iald (ltc_84 hN) sh_84 (tk_X12_quarrelsOfPosts 10 rfl) fun v1 => ?_
      refine on_is3 rfl (tk_X12_quarrelsOfPosts 11 rfl) ?_
      refine on_al0 (tk_X12_quarrelsOfPosts 12 rfl) ?_
      refine fg_12_15 hN kw_6_155 (tk_X12_quarrelsOfPosts 13 rfl) ?_
      refine on_il2 (tk_X12_quarrelsOfPosts 14 rfl) ?_
      refine on_iconst (tk_X12_quarrelsOfPosts 15 rfl) ?_
      refine on_iadd (tk_X12_quarrelsOfPosts 16 rfl) ?_
      refine on_iconst (tk_X12_quarrelsOfPosts 17 rfl) ?_
      refine on_irem (tk_X12_quarrelsOfPosts 18 rfl) fun v2 => ?_
      refine on_iald (ltc_84 hN) sh_84 (tk_X12_quarrelsOfPosts 19 rfl) fun v3 => ?_
      refine on_is4 rfl (tk_X12_quarrelsOfPosts 20 rfl) ?_
      refine on_il1 (tk_X12_quarrelsOfPosts 21 rfl) ?_
      refine on_il3 (tk_X12_quarrelsOfPosts 22 rfl) ?_
      refine on_iconst (tk_X12_quarrelsOfPosts 23 rfl) ?_
      refine on_icmp_eq (tk_X12_quarrelsOfPosts 24 rfl) (tgt := 40) (by decide) ?_ ?_
      · refine on_il4 (tk_X12_quarrelsOfPosts 25 rfl) ?_
        refine on_iconst (tk_X12_quarrelsOfPosts 26 rfl) ?_
        refine on_icmp_ne (tk_X12_quarrelsOfPosts 27 rfl) (tgt := 44) (by decide) ?_ ?_
        · refine on_dr1 ?_
          refine on_dr3 ?_
          refine on_dr4 ?_
          exact gb_X12_quarrelsOfPosts_40 X _ hN ih _ _ _
        · refine on_al0 (tk_X12_quarrelsOfPosts 30 rfl) ?_
          refine on_il3 (tk_X12_quarrelsOfPosts 31 rfl) ?_
          refine on_il4 (tk_X12_quarrelsOfPosts 32 rfl) ?_
          refine on_cV2i 12 ms_X12_quarrelOf kw_7_237 rfl rfl (ltc_77 hN) sh_77 (ct_X12_quarrelOf hN) rfl (tk_X12_quarrelsOfPosts 33 rfl) fun v4 σ5 => ?_
          refine on_iadd (tk_X12_quarrelsOfPosts 34 rfl) ?_
          refine on_is1 rfl (tk_X12_quarrelsOfPosts 35 rfl) ?_
          refine on_inc2 rfl (tk_X12_quarrelsOfPosts 36 rfl) ?_
          refine on_goto (tk_X12_quarrelsOfPosts 37 rfl) (tgt := 4) (by decide) ?_
          refine on_dr3 ?_
          refine on_dr4 ?_
          exact ih _ _ _
      · refine on_dr1 ?_
        refine on_dr3 ?_
        refine on_dr4 ?_
        exact gb_X12_quarrelsOfPosts_40 X _ hN ih _ _ _
    · refine on_il1 (tk_X12_quarrelsOfPosts 38 rfl) ?_
      exact on_iret (tk_X12_quarrelsOfPosts 39 rfl)
set_option maxRecDepth 100000 in
set_option maxHeartbeats 4000000 in
theorem ct_X12_quarrelsOfPosts {E : on_E} {z n : Nat} (hN : 100 ≤ n) {σ : on_S} : on_Sp E yX12_quarrelsOfPosts cX12_quarrelsOfPosts 5 (some .int) 1 22 z n [.ref (z + 77)] σ (pf_X12_quarrelsOfPosts  σ) := by
  refine on_met [some (.ref (z + 77)), none, none, none, none] (by decide) rfl rfl (fun X => ?_)
  rw [pf_X12_quarrelsOfPosts]
  refine on_iconst (tk_X12_quarrelsOfPosts 0 rfl) ?_
  refine on_is1 rfl (tk_X12_quarrelsOfPosts 1 rfl) ?_
  refine on_iconst (tk_X12_quarrelsOfPosts 2 rfl) ?_
  refine on_is2 rfl (tk_X12_quarrelsOfPosts 3 rfl) ?_
  exact gl_X12_quarrelsOfPosts_4 X  hN on_N _ _ _
def tb_X12_layRow : List (Nat × Nat × Nat × Instr) := [(0, 3, 3, .sipush 3100), (3, 1, 4, .iload_n 1), (4, 1, 5, .imul), (5, 1, 6, .aload_n 0), (6, 3, 9, .getfield 52), (9, 1, 10, .iload_n 1), (10, 1, 11, .iaload), (11, 1, 12, .iadd), (12, 1, 13, .istore_n 2), (13, 1, 14, .aload_n 0), (14, 3, 17, .getfield 43), (17, 1, 18, .iload_n 2), (18, 1, 19, .iconst 0), (19, 1, 20, .iastore), (20, 1, 21, .iconst 0), (21, 1, 22, .istore_n 3), (22, 1, 23, .iload_n 3), (23, 1, 24, .iconst 4), (24, 3, 27, .if_icmp .ge 56), (27, 1, 28, .aload_n 0), (28, 3, 31, .getfield 46), (31, 1, 32, .iconst 4), (32, 1, 33, .iload_n 2), (33, 1, 34, .imul), (34, 1, 35, .iload_n 3), (35, 1, 36, .iadd), (36, 1, 37, .aload_n 0), (37, 3, 40, .getfield 34), (40, 1, 41, .iload_n 3), (41, 1, 42, .iaload), (42, 1, 43, .iastore), (43, 1, 44, .aload_n 0), (44, 3, 47, .getfield 43), (47, 1, 48, .iload_n 2), (48, 1, 49, .dup2), (49, 1, 50, .iaload), (50, 1, 51, .aload_n 0), (51, 3, 54, .getfield 34), (54, 1, 55, .iload_n 3), (55, 1, 56, .iaload), (56, 1, 57, .iconst (-1)), (57, 3, 60, .if_icmp .ne 7), (60, 1, 61, .iconst 0), (61, 3, 64, .goto 11), (64, 1, 65, .iconst 1), (65, 1, 66, .aload_n 0), (66, 3, 69, .getfield 34), (69, 1, 70, .iload_n 3), (70, 1, 71, .iaload), (71, 1, 72, .ishl), (72, 1, 73, .ior), (73, 1, 74, .iastore), (74, 3, 77, .iinc 3 1), (77, 3, 80, .goto (-55)), (80, 1, 81, .aload_n 0), (81, 3, 84, .getfield 49), (84, 1, 85, .iload_n 2), (85, 1, 86, .aload_n 0), (86, 3, 89, .invokevirtual 379), (89, 1, 90, .iastore), (90, 1, 91, .aload_n 0), (91, 3, 94, .getfield 52), (94, 1, 95, .iload_n 1), (95, 1, 96, .dup2), (96, 1, 97, .iaload), (97, 1, 98, .iconst 1), (98, 1, 99, .iadd), (99, 1, 100, .iastore), (100, 1, 101, .return_)]
set_option maxRecDepth 100000 in
theorem tk_X12_layRow (k : Nat) {pc n pc2 : Nat} {i : Instr} (hk : tb_X12_layRow[k]? = some (pc, n, pc2, i)) : on_dq cX12_layRow pc n pc2 i := on_ta (by decide +kernel) k hk
theorem ms_X12_layRow : on_Mv yX12_layRow cX12_layRow 4 none 1 := ⟨kw_8_168, kw_8_167, (on_mp (q := (yX12_layRow, 37)) (by decide +kernel)), kw_1_13, by decide, by decide, by decide +kernel⟩
def pf_X12_layRow_72 (k22 : Int → Int → Int → on_S → Option on_O) (l1 : Int) (l2 : Int) (l3 : Int) (s1 : Int) (s2 : Int) (s3 : Int) (σ : on_S) : Option on_O :=
  on_Wr σ 87 6200 s1 (on_or s2 s3) fun σ7 =>
  k22 l1 l2 (l3 + 1) σ7
def pf_X12_layRow_22 : Nat → Int → Int → Int → on_S → Option on_O
  | 0, _, _, _, _ => none
  | nf + 1, l1, l2, l3, σ =>
    on_Lt l3 4 (
      on_Rd σ 84 4 l3 fun v3 =>
      on_Wr σ 88 24800 ((4 * l2) + l3) v3 fun σ4 =>
      on_Rd σ4 87 6200 l2 fun v5 =>
      on_Rd σ4 84 4 l3 fun v6 =>
      on_Eq v6 (-1) (
        pf_X12_layRow_72 (pf_X12_layRow_22 nf) l1 l2 l3 l2 v5 0 σ4) (
        on_Rd σ4 84 4 l3 fun v8 =>
        pf_X12_layRow_72 (pf_X12_layRow_22 nf) l1 l2 l3 l2 v5 (on_shl 1 v8) σ4)) (
      on_Cl (pf_X12_quarrelsOfPosts σ) fun v9 σ10 =>
      on_Wr σ10 89 6200 l2 v9 fun σ11 =>
      on_Rd σ11 90 2 l1 fun v12 =>
      on_Wr σ11 90 2 l1 (v12 + 1) fun σ13 =>
      some (0, σ13))
def pf_X12_layRow (p0 : Int) (σ : on_S) : Option on_O :=
  on_Rd σ 90 2 p0 fun v1 =>
  on_Wr σ 87 6200 ((3100 * p0) + v1) 0 fun σ2 =>
  pf_X12_layRow_22 on_N p0 ((3100 * p0) + v1) 0 σ2
set_option maxRecDepth 100000 in
set_option maxHeartbeats 4000000 in
theorem gb_X12_layRow_72 {E : on_E} {z n : Nat} (X : on_X) (k22 : Int → Int → Int → on_S → Option on_O) (hN : 100 ≤ n) (hk22 : ∀ (l1 : Int) (l2 : Int) (l3 : Int) (σ : on_S), on_G X E cX12_layRow RX12 none 2 46 4 z n σ (k22 l1 l2 l3 σ) 22 [some (.ref (z + 77)), some (.int (on_i l1)), some (.int (on_i l2)), some (.int (on_i l3))] []) (l1 : Int) (l2 : Int) (l3 : Int) (s1 : Int) (s2 : Int) (s3 : Int) (σ : on_S) : on_G X E cX12_layRow RX12 none 2 46 4 z n σ (pf_X12_layRow_72 k22 l1 l2 l3 s1 s2 s3 σ) 72 [some (.ref (z + 77)), some (.int (on_i l1)), some (.int (on_i l2)), some (.int (on_i l3))] [.int (on_i s3), .int (on_i s2), .int (on_i s1), .ref (z + 87)] := by
  rw [pf_X12_layRow_72]
  refine on_ior (tk_X12_layRow 50 rfl) ?_
  refine on_iast (ltc_87 hN) sh_87 (tk_X12_layRow 51 rfl) fun σ7 => ?_
  refine on_inc3 rfl (tk_X12_layRow 52 rfl) ?_
  refine on_goto (tk_X12_layRow 53 rfl) (tgt := 22) (by decide) ?_
  exact hk22 _ _ _ _
set_option maxRecDepth 100000 in
set_option maxHeartbeats 4000000 in
theorem gl_X12_layRow_22 {E : on_E} {z n : Nat} (X : on_X) (hN : 100 ≤ n) : ∀ (nf : Nat) (l1 : Int) (l2 : Int) (l3 : Int) (σ : on_S), on_G X E cX12_layRow RX12 none 2 46 4 z n σ (pf_X12_layRow_22 nf l1 l2 l3 σ) 22 [some (.ref (z + 77)), some (.int (on_i l1)), some (.int (on_i l2)), some (.int (on_i l3))] [] := by
  intro nf
  induction nf with
  | zero => intro l1 l2 l3 σ; exact on_none
  | succ nf ih =>
    intro l1 l2 l3 σ
    rw [pf_X12_layRow_22]
    refine on_il3 (tk_X12_layRow 16 rfl) ?_
    refine on_iconst (tk_X12_layRow 17 rfl) ?_
    refine on_icmp_ge (tk_X12_layRow 18 rfl) (tgt := 80) (by decide) ?_ ?_
    · refine on_al0 (tk_X12_layRow 19 rfl) ?_
      refine fg_12_21 hN kw_6_161 (tk_X12_layRow 20 rfl) ?_
      refine on_iconst (tk_X12_layRow 21 rfl) ?_
      refine on_il2 (tk_X12_layRow 22 rfl) ?_
      refine on_imul (tk_X12_layRow 23 rfl) ?_
      refine on_il3 (tk_X12_layRow 24 rfl) ?_
      refine on_iadd (tk_X12_layRow 25 rfl) ?_
      refine on_al0 (tk_X12_layRow 26 rfl) ?_
      refine fg_12_15 hN kw_6_155 (tk_X12_layRow 27 rfl) ?_
      refine on_il3 (tk_X12_layRow 28 rfl) ?_
      refine on_iald (ltc_84 hN) sh_84 (tk_X12_layRow 29 rfl) fun v3 => ?_
      refine on_iast (ltc_88 hN) sh_88 (tk_X12_layRow 30 rfl) fun σ4 => ?_
      refine on_al0 (tk_X12_layRow 31 rfl) ?_
      refine fg_12_20 hN kw_6_160 (tk_X12_layRow 32 rfl) ?_
      refine on_il2 (tk_X12_layRow 33 rfl) ?_
      refine on_dup2 rfl rfl (tk_X12_layRow 34 rfl) ?_
      refine on_iald (ltc_87 hN) sh_87 (tk_X12_layRow 35 rfl) fun v5 => ?_
      refine on_al0 (tk_X12_layRow 36 rfl) ?_
      refine fg_12_15 hN kw_6_155 (tk_X12_layRow 37 rfl) ?_
      refine on_il3 (tk_X12_layRow 38 rfl) ?_
      refine on_iald (ltc_84 hN) sh_84 (tk_X12_layRow 39 rfl) fun v6 => ?_
      refine on_iconst (tk_X12_layRow 40 rfl) ?_
      refine on_icmp_ne (tk_X12_layRow 41 rfl) (tgt := 64) (by decide) ?_ ?_
      · refine on_iconst (tk_X12_layRow 42 rfl) ?_
        refine on_goto (tk_X12_layRow 43 rfl) (tgt := 72) (by decide) ?_
        exact gb_X12_layRow_72 X _ hN ih _ _ _ _ _ _ _
      · refine on_iconst (tk_X12_layRow 44 rfl) ?_
        refine on_al0 (tk_X12_layRow 45 rfl) ?_
        refine fg_12_15 hN kw_6_155 (tk_X12_layRow 46 rfl) ?_
        refine on_il3 (tk_X12_layRow 47 rfl) ?_
        refine on_iald (ltc_84 hN) sh_84 (tk_X12_layRow 48 rfl) fun v8 => ?_
        refine on_ishl (tk_X12_layRow 49 rfl) ?_
        exact gb_X12_layRow_72 X _ hN ih _ _ _ _ _ _ _
    · refine on_al0 (tk_X12_layRow 54 rfl) ?_
      refine fg_12_22 hN kw_6_162 (tk_X12_layRow 55 rfl) ?_
      refine on_il2 (tk_X12_layRow 56 rfl) ?_
      refine on_al0 (tk_X12_layRow 57 rfl) ?_
      refine on_cV0i 12 ms_X12_quarrelsOfPosts kw_8_169 rfl rfl (ltc_77 hN) sh_77 (ct_X12_quarrelsOfPosts hN) rfl (tk_X12_layRow 58 rfl) fun v9 σ10 => ?_
      refine on_iast (ltc_89 hN) sh_89 (tk_X12_layRow 59 rfl) fun σ11 => ?_
      refine on_al0 (tk_X12_layRow 60 rfl) ?_
      refine fg_12_23 hN kw_6_163 (tk_X12_layRow 61 rfl) ?_
      refine on_il1 (tk_X12_layRow 62 rfl) ?_
      refine on_dup2 rfl rfl (tk_X12_layRow 63 rfl) ?_
      refine on_iald (ltc_90 hN) sh_90 (tk_X12_layRow 64 rfl) fun v12 => ?_
      refine on_iconst (tk_X12_layRow 65 rfl) ?_
      refine on_iadd (tk_X12_layRow 66 rfl) ?_
      refine on_iast (ltc_90 hN) sh_90 (tk_X12_layRow 67 rfl) fun σ13 => ?_
      exact on_vret (tk_X12_layRow 68 rfl)
set_option maxRecDepth 100000 in
set_option maxHeartbeats 4000000 in
theorem ct_X12_layRow {E : on_E} {z n : Nat} {p0 : Int} (hN : 100 ≤ n) {σ : on_S} : on_Sp E yX12_layRow cX12_layRow 4 none 2 46 z n [.ref (z + 77), .int (on_i p0)] σ (pf_X12_layRow p0 σ) := by
  refine on_met [some (.ref (z + 77)), some (.int (on_i p0)), none, none] (by decide) rfl rfl (fun X => ?_)
  rw [pf_X12_layRow]
  refine on_sipush (tk_X12_layRow 0 rfl) sp_3100 ?_
  refine on_il1 (tk_X12_layRow 1 rfl) ?_
  refine on_imul (tk_X12_layRow 2 rfl) ?_
  refine on_al0 (tk_X12_layRow 3 rfl) ?_
  refine fg_12_23 hN kw_6_163 (tk_X12_layRow 4 rfl) ?_
  refine on_il1 (tk_X12_layRow 5 rfl) ?_
  refine on_iald (ltc_90 hN) sh_90 (tk_X12_layRow 6 rfl) fun v1 => ?_
  refine on_iadd (tk_X12_layRow 7 rfl) ?_
  refine on_is2 rfl (tk_X12_layRow 8 rfl) ?_
  refine on_al0 (tk_X12_layRow 9 rfl) ?_
  refine fg_12_20 hN kw_6_160 (tk_X12_layRow 10 rfl) ?_
  refine on_il2 (tk_X12_layRow 11 rfl) ?_
  refine on_iconst (tk_X12_layRow 12 rfl) ?_
  refine on_iast (ltc_87 hN) sh_87 (tk_X12_layRow 13 rfl) fun σ2 => ?_
  refine on_iconst (tk_X12_layRow 14 rfl) ?_
  refine on_is3 rfl (tk_X12_layRow 15 rfl) ?_
  exact gl_X12_layRow_22 X  hN on_N _ _ _ _
def tb_X12_layRows : List (Nat × Nat × Nat × Instr) := [(0, 1, 1, .aload_n 0), (1, 3, 4, .getfield 52), (4, 1, 5, .iload_n 1), (5, 1, 6, .iconst 0), (6, 1, 7, .iastore), (7, 1, 8, .iload_n 1), (8, 1, 9, .aload_n 0), (9, 3, 12, .getfield 9), (12, 1, 13, .iconst 4), (13, 1, 14, .iaload), (14, 3, 17, .if_icmp .ge 11), (17, 1, 18, .aload_n 0), (18, 1, 19, .iload_n 1), (19, 3, 22, .invokevirtual 307), (22, 3, 25, .goto 4), (25, 1, 26, .iconst 0), (26, 1, 27, .istore_n 2), (27, 1, 28, .iload_n 2), (28, 3, 31, .ifCond .ne 29), (31, 1, 32, .iconst 0), (32, 1, 33, .istore_n 3), (33, 1, 34, .iload_n 3), (34, 1, 35, .iconst 4), (35, 3, 38, .if_icmp .ge 16), (38, 1, 39, .aload_n 0), (39, 3, 42, .getfield 34), (42, 1, 43, .iload_n 3), (43, 1, 44, .iconst (-1)), (44, 1, 45, .iastore), (45, 3, 48, .iinc 3 1), (48, 3, 51, .goto (-15)), (51, 1, 52, .aload_n 0), (52, 1, 53, .iload_n 1), (53, 3, 56, .invokevirtual 382), (56, 1, 57, .return_), (57, 1, 58, .aload_n 0), (58, 1, 59, .aload_n 0), (59, 3, 62, .invokevirtual 366), (62, 3, 65, .putfield 352), (65, 1, 66, .aload_n 0), (66, 3, 69, .invokevirtual 363), (69, 1, 70, .istore_n 3), (70, 1, 71, .iload_n 3), (71, 3, 74, .ifCond .eq 38), (74, 1, 75, .aload_n 0), (75, 1, 76, .iload_n 1), (76, 1, 77, .aload_n 0), (77, 1, 78, .iload_n 1), (78, 1, 79, .iconst 0), (79, 3, 82, .invokevirtual 94), (82, 1, 83, .aload_n 0), (83, 1, 84, .iload_n 1), (84, 1, 85, .iconst 2), (85, 3, 88, .invokevirtual 94), (88, 3, 91, .invokevirtual 283), (91, 1, 92, .iload_n 2), (92, 3, 95, .if_icmp .lt 8), (95, 1, 96, .aload_n 0), (96, 1, 97, .iload_n 1), (97, 3, 100, .invokevirtual 382), (100, 1, 101, .aload_n 0), (101, 1, 102, .iconst 3), (102, 3, 105, .invokevirtual 360), (105, 1, 106, .istore_n 3), (106, 3, 109, .goto (-36)), (109, 1, 110, .return_)]
set_option maxRecDepth 100000 in
theorem tk_X12_layRows (k : Nat) {pc n pc2 : Nat} {i : Instr} (hk : tb_X12_layRows[k]? = some (pc, n, pc2, i)) : on_dq cX12_layRows pc n pc2 i := on_ta (by decide +kernel) k hk
theorem ms_X12_layRows : on_Mv yX12_layRows cX12_layRows 4 none 1 := ⟨kw_8_164, kw_8_163, (on_mp (q := (yX12_layRows, 37)) (by decide +kernel)), kw_1_13, by decide, by decide, by decide +kernel⟩
def pf_X12_layRows_33 : Nat → Int → Int → on_S → Option on_O
  | 0, _, _, _ => none
  | nf + 1, l1, l3, σ =>
    on_Lt l3 4 (
      on_Wr σ 84 4 l3 (-1) fun σ5 =>
      pf_X12_layRows_33 nf l1 (l3 + 1) σ5) (
      on_Cl (pf_X12_layRow l1 σ) fun _ σ7 =>
      some (0, σ7))
def pf_X12_layRows_100 (k70 : Int → Int → Int → on_S → Option on_O) (l1 : Int) (l2 : Int) (σ : on_S) : Option on_O :=
  on_Cl (pf_X12_nextRow 3 σ) fun v21 σ22 =>
  k70 l1 l2 v21 σ22
def pf_X12_layRows_70 : Nat → Int → Int → Int → on_S → Option on_O
  | 0, _, _, _, _ => none
  | nf + 1, l1, l2, l3, σ =>
    on_Eq l3 0 (
      some (0, σ)) (
      on_Cl (pf_X12_ofNet l1 0 σ) fun v13 σ14 =>
      on_Cl (pf_X12_ofNet l1 2 σ14) fun v15 σ16 =>
      on_Cl (pf_X12_carriesBy l1 v13 v15 σ16) fun v17 σ18 =>
      on_Lt v17 l2 (
        pf_X12_layRows_100 (pf_X12_layRows_70 nf) l1 l2 σ18) (
        on_Cl (pf_X12_layRow l1 σ18) fun _ σ20 =>
        pf_X12_layRows_100 (pf_X12_layRows_70 nf) l1 l2 σ20))
def pf_X12_layRows_26 (l1 : Int) (s0 : Int) (σ : on_S) : Option on_O :=
  on_Eq s0 0 (
    pf_X12_layRows_33 on_N l1 0 σ) (
    on_Cl (pf_X12_allHouses σ) fun v8 σ9 =>
    on_Pt σ9 77 18 v8 fun σ10 =>
    on_Cl (pf_X12_firstRow σ10) fun v11 σ12 =>
    pf_X12_layRows_70 on_N l1 s0 v11 σ12)
def pf_X12_layRows (p0 : Int) (σ : on_S) : Option on_O :=
  on_Wr σ 90 2 p0 0 fun σ1 =>
  on_Rd σ1 78 687 4 fun v2 =>
  on_Lt p0 v2 (
    on_Cl (pf_X12_needOf p0 σ1) fun v3 σ4 =>
    pf_X12_layRows_26 p0 v3 σ4) (
    pf_X12_layRows_26 p0 0 σ1)
set_option maxRecDepth 100000 in
set_option maxHeartbeats 4000000 in
theorem gl_X12_layRows_33 {E : on_E} {z n : Nat} (X : on_X) (hN : 100 ≤ n) : ∀ (nf : Nat) (l1 : Int) (l3 : Int) (σ : on_S), on_G X E cX12_layRows RX12 none 5 121 4 z n σ (pf_X12_layRows_33 nf l1 l3 σ) 33 [some (.ref (z + 77)), some (.int (on_i l1)), none, some (.int (on_i l3))] [] := by
  intro nf
  induction nf with
  | zero => intro l1 l3 σ; exact on_none
  | succ nf ih =>
    intro l1 l3 σ
    rw [pf_X12_layRows_33]
    refine on_il3 (tk_X12_layRows 21 rfl) ?_
    refine on_iconst (tk_X12_layRows 22 rfl) ?_
    refine on_icmp_ge (tk_X12_layRows 23 rfl) (tgt := 51) (by decide) ?_ ?_
    · refine on_al0 (tk_X12_layRows 24 rfl) ?_
      refine fg_12_15 hN kw_6_155 (tk_X12_layRows 25 rfl) ?_
      refine on_il3 (tk_X12_layRows 26 rfl) ?_
      refine on_iconst (tk_X12_layRows 27 rfl) ?_
      refine on_iast (ltc_84 hN) sh_84 (tk_X12_layRows 28 rfl) fun σ5 => ?_
      refine on_inc3 rfl (tk_X12_layRows 29 rfl) ?_
      refine on_goto (tk_X12_layRows 30 rfl) (tgt := 33) (by decide) ?_
      exact ih _ _ _
    · refine on_al0 (tk_X12_layRows 31 rfl) ?_
      refine on_il1 (tk_X12_layRows 32 rfl) ?_
      refine on_cV1v 12 ms_X12_layRow kw_8_165 rfl rfl (ltc_77 hN) sh_77 (ct_X12_layRow hN) rfl (tk_X12_layRows 33 rfl) fun v6 σ7 => ?_
      exact on_vret (tk_X12_layRows 34 rfl)
set_option maxRecDepth 100000 in
set_option maxHeartbeats 4000000 in
theorem gb_X12_layRows_100 {E : on_E} {z n : Nat} (X : on_X) (k70 : Int → Int → Int → on_S → Option on_O) (hN : 100 ≤ n) (hk70 : ∀ (l1 : Int) (l2 : Int) (l3 : Int) (σ : on_S), on_G X E cX12_layRows RX12 none 5 121 4 z n σ (k70 l1 l2 l3 σ) 70 [some (.ref (z + 77)), some (.int (on_i l1)), some (.int (on_i l2)), some (.int (on_i l3))] []) (l1 : Int) (l2 : Int) (σ : on_S) : on_G X E cX12_layRows RX12 none 5 121 4 z n σ (pf_X12_layRows_100 k70 l1 l2 σ) 100 [some (.ref (z + 77)), some (.int (on_i l1)), some (.int (on_i l2)), none] [] := by
  rw [pf_X12_layRows_100]
  refine on_al0 (tk_X12_layRows 60 rfl) ?_
  refine on_iconst (tk_X12_layRows 61 rfl) ?_
  refine on_cV1z 12 ms_X12_nextRow kw_8_133 rfl rfl (ltc_77 hN) sh_77 (ct_X12_nextRow hN) rfl (tk_X12_layRows 62 rfl) fun v21 σ22 => ?_
  refine on_is3 rfl (tk_X12_layRows 63 rfl) ?_
  refine on_goto (tk_X12_layRows 64 rfl) (tgt := 70) (by decide) ?_
  exact hk70 _ _ _ _
set_option maxRecDepth 100000 in
set_option maxHeartbeats 4000000 in
theorem gl_X12_layRows_70 {E : on_E} {z n : Nat} (X : on_X) (hN : 100 ≤ n) : ∀ (nf : Nat) (l1 : Int) (l2 : Int) (l3 : Int) (σ : on_S), on_G X E cX12_layRows RX12 none 5 121 4 z n σ (pf_X12_layRows_70 nf l1 l2 l3 σ) 70 [some (.ref (z + 77)), some (.int (on_i l1)), some (.int (on_i l2)), some (.int (on_i l3))] [] := by
  intro nf
  induction nf with
  | zero => intro l1 l2 l3 σ; exact on_none
  | succ nf ih =>
    intro l1 l2 l3 σ
    rw [pf_X12_layRows_70]
    refine on_il3 (tk_X12_layRows 42 rfl) ?_
    refine on_if_eq (tk_X12_layRows 43 rfl) (tgt := 109) (by decide) ?_ ?_
    · refine on_al0 (tk_X12_layRows 44 rfl) ?_
      refine on_il1 (tk_X12_layRows 45 rfl) ?_
      refine on_al0 (tk_X12_layRows 46 rfl) ?_
      refine on_il1 (tk_X12_layRows 47 rfl) ?_
      refine on_iconst (tk_X12_layRows 48 rfl) ?_
      refine on_cV2i 12 ms_X12_ofNet kw_7_162 rfl rfl (ltc_77 hN) sh_77 (ct_X12_ofNet hN) rfl (tk_X12_layRows 49 rfl) fun v13 σ14 => ?_
      refine on_al0 (tk_X12_layRows 50 rfl) ?_
      refine on_il1 (tk_X12_layRows 51 rfl) ?_
      refine on_iconst (tk_X12_layRows 52 rfl) ?_
      refine on_cV2i 12 ms_X12_ofNet kw_7_162 rfl rfl (ltc_77 hN) sh_77 (ct_X12_ofNet hN) rfl (tk_X12_layRows 53 rfl) fun v15 σ16 => ?_
      refine on_cV3i 12 ms_X12_carriesBy kw_7_217 rfl rfl (ltc_77 hN) sh_77 (ct_X12_carriesBy hN) rfl (tk_X12_layRows 54 rfl) fun v17 σ18 => ?_
      refine on_il2 (tk_X12_layRows 55 rfl) ?_
      refine on_icmp_lt (tk_X12_layRows 56 rfl) (tgt := 100) (by decide) ?_ ?_
      · refine on_al0 (tk_X12_layRows 57 rfl) ?_
        refine on_il1 (tk_X12_layRows 58 rfl) ?_
        refine on_cV1v 12 ms_X12_layRow kw_8_165 rfl rfl (ltc_77 hN) sh_77 (ct_X12_layRow hN) rfl (tk_X12_layRows 59 rfl) fun v19 σ20 => ?_
        refine on_dr3 ?_
        exact gb_X12_layRows_100 X _ hN ih _ _ _
      · refine on_dr3 ?_
        exact gb_X12_layRows_100 X _ hN ih _ _ _
    · exact on_vret (tk_X12_layRows 65 rfl)
set_option maxRecDepth 100000 in
set_option maxHeartbeats 4000000 in
theorem gb_X12_layRows_26 {E : on_E} {z n : Nat} (X : on_X) (hN : 100 ≤ n) (l1 : Int) (s0 : Int) (σ : on_S) : on_G X E cX12_layRows RX12 none 5 121 4 z n σ (pf_X12_layRows_26 l1 s0 σ) 26 [some (.ref (z + 77)), some (.int (on_i l1)), none, none] [.int (on_i s0)] := by
  rw [pf_X12_layRows_26]
  refine on_is2 rfl (tk_X12_layRows 16 rfl) ?_
  refine on_il2 (tk_X12_layRows 17 rfl) ?_
  refine on_if_ne (tk_X12_layRows 18 rfl) (tgt := 57) (by decide) ?_ ?_
  · refine on_iconst (tk_X12_layRows 19 rfl) ?_
    refine on_is3 rfl (tk_X12_layRows 20 rfl) ?_
    refine on_dr2 ?_
    exact gl_X12_layRows_33 X  hN on_N _ _ _
  · refine on_al0 (tk_X12_layRows 35 rfl) ?_
    refine on_al0 (tk_X12_layRows 36 rfl) ?_
    refine on_cV0i 12 ms_X12_allHouses kw_8_121 rfl rfl (ltc_77 hN) sh_77 (ct_X12_allHouses hN) rfl (tk_X12_layRows 37 rfl) fun v8 σ9 => ?_
    refine fp_12_18 hN kw_6_158 (tk_X12_layRows 38 rfl) fun σ10 => ?_
    refine on_al0 (tk_X12_layRows 39 rfl) ?_
    refine on_cV0z 12 ms_X12_firstRow kw_8_129 rfl rfl (ltc_77 hN) sh_77 (ct_X12_firstRow hN) rfl (tk_X12_layRows 40 rfl) fun v11 σ12 => ?_
    refine on_is3 rfl (tk_X12_layRows 41 rfl) ?_
    exact gl_X12_layRows_70 X  hN on_N _ _ _ _
set_option maxRecDepth 100000 in
set_option maxHeartbeats 4000000 in
theorem ct_X12_layRows {E : on_E} {z n : Nat} {p0 : Int} (hN : 100 ≤ n) {σ : on_S} : on_Sp E yX12_layRows cX12_layRows 4 none 5 121 z n [.ref (z + 77), .int (on_i p0)] σ (pf_X12_layRows p0 σ) := by
  refine on_met [some (.ref (z + 77)), some (.int (on_i p0)), none, none] (by decide) rfl rfl (fun X => ?_)
  rw [pf_X12_layRows]
  refine on_al0 (tk_X12_layRows 0 rfl) ?_
  refine fg_12_23 hN kw_6_163 (tk_X12_layRows 1 rfl) ?_
  refine on_il1 (tk_X12_layRows 2 rfl) ?_
  refine on_iconst (tk_X12_layRows 3 rfl) ?_
  refine on_iast (ltc_90 hN) sh_90 (tk_X12_layRows 4 rfl) fun σ1 => ?_
  refine on_il1 (tk_X12_layRows 5 rfl) ?_
  refine on_al0 (tk_X12_layRows 6 rfl) ?_
  refine fg_12_1 hN kw_6_141 (tk_X12_layRows 7 rfl) ?_
  refine on_iconst (tk_X12_layRows 8 rfl) ?_
  refine on_iald (ltc_78 hN) sh_78 (tk_X12_layRows 9 rfl) fun v2 => ?_
  refine on_icmp_ge (tk_X12_layRows 10 rfl) (tgt := 25) (by decide) ?_ ?_
  · refine on_al0 (tk_X12_layRows 11 rfl) ?_
    refine on_il1 (tk_X12_layRows 12 rfl) ?_
    refine on_cV1i 12 ms_X12_needOf kw_7_188 rfl rfl (ltc_77 hN) sh_77 (ct_X12_needOf hN) rfl (tk_X12_layRows 13 rfl) fun v3 σ4 => ?_
    refine on_goto (tk_X12_layRows 14 rfl) (tgt := 26) (by decide) ?_
    exact gb_X12_layRows_26 X  hN _ _ _
  · refine on_iconst (tk_X12_layRows 15 rfl) ?_
    exact gb_X12_layRows_26 X  hN _ _ _
def tb_X12_findSafe : List (Nat × Nat × Nat × Instr) := [(0, 1, 1, .iconst 0), (1, 1, 2, .istore_n 1), (2, 1, 3, .iload_n 1), (3, 1, 4, .iconst 2), (4, 3, 7, .if_icmp .ge 14), (7, 1, 8, .aload_n 0), (8, 1, 9, .iload_n 1), (9, 3, 12, .invokevirtual 385), (12, 3, 15, .iinc 1 1), (15, 3, 18, .goto (-13)), (18, 1, 19, .aload_n 0), (19, 1, 20, .iconst (-1)), (20, 3, 23, .putfield 388), (23, 1, 24, .aload_n 0), (24, 1, 25, .iconst 0), (25, 3, 28, .putfield 391), (28, 1, 29, .iconst 0), (29, 1, 30, .istore_n 1), (30, 1, 31, .iload_n 1), (31, 1, 32, .aload_n 0), (32, 3, 35, .getfield 52), (35, 1, 36, .iconst 0), (36, 1, 37, .iaload), (37, 3, 40, .if_icmp .ge 116), (40, 1, 41, .iconst 0), (41, 1, 42, .istore_n 2), (42, 1, 43, .iload_n 2), (43, 1, 44, .aload_n 0), (44, 3, 47, .getfield 52), (47, 1, 48, .iconst 1), (48, 1, 49, .iaload), (49, 3, 52, .if_icmp .ge 98), (52, 1, 53, .aload_n 0), (53, 3, 56, .getfield 43), (56, 1, 57, .iload_n 1), (57, 1, 58, .iaload), (58, 1, 59, .aload_n 0), (59, 3, 62, .getfield 43), (62, 3, 65, .sipush 3100), (65, 1, 66, .iload_n 2), (66, 1, 67, .iadd), (67, 1, 68, .iaload), (68, 1, 69, .iand), (69, 3, 72, .ifCond .eq 6), (72, 3, 75, .goto 69), (75, 1, 76, .aload_n 0), (76, 1, 77, .dup), (77, 3, 80, .getfield 391), (80, 1, 81, .iconst 1), (81, 1, 82, .iadd), (82, 3, 85, .putfield 391), (85, 1, 86, .aload_n 0), (86, 3, 89, .getfield 49), (89, 1, 90, .iload_n 1), (90, 1, 91, .iaload), (91, 1, 92, .aload_n 0), (92, 3, 95, .getfield 49), (95, 3, 98, .sipush 3100), (98, 1, 99, .iload_n 2), (99, 1, 100, .iadd), (100, 1, 101, .iaload), (101, 1, 102, .iadd), (102, 1, 103, .istore_n 3), (103, 1, 104, .aload_n 0), (104, 3, 107, .getfield 388), (107, 1, 108, .iconst (-1)), (108, 3, 111, .if_icmp .eq 14), (111, 1, 112, .iload_n 3), (112, 1, 113, .aload_n 0), (113, 3, 116, .getfield 388), (116, 3, 119, .if_icmp .lt 6), (119, 3, 122, .goto 22), (122, 1, 123, .aload_n 0), (123, 1, 124, .iload_n 3), (124, 3, 127, .putfield 388), (127, 1, 128, .aload_n 0), (128, 3, 131, .getfield 55), (131, 1, 132, .iconst 0), (132, 1, 133, .iload_n 1), (133, 1, 134, .iastore), (134, 1, 135, .aload_n 0), (135, 3, 138, .getfield 55), (138, 1, 139, .iconst 1), (139, 1, 140, .iload_n 2), (140, 1, 141, .iastore), (141, 3, 144, .iinc 2 1), (144, 3, 147, .goto (-102)), (147, 3, 150, .iinc 1 1), (150, 3, 153, .goto (-120)), (153, 1, 154, .return_)]
set_option maxRecDepth 100000 in
theorem tk_X12_findSafe (k : Nat) {pc n pc2 : Nat} {i : Instr} (hk : tb_X12_findSafe[k]? = some (pc, n, pc2, i)) : on_dq cX12_findSafe pc n pc2 i := on_ta (by decide +kernel) k hk
theorem ms_X12_findSafe : on_Mv yX12_findSafe cX12_findSafe 4 none 0 := ⟨kw_8_160, kw_8_159, (on_mp (q := (yX12_findSafe, 37)) (by decide +kernel)), kw_1_13, by decide, by decide, by decide +kernel⟩
def pf_X12_findSafe_122 (k30 : Int → on_S → Option on_O) (k42 : Int → Int → on_S → Option on_O) (l1 : Int) (l2 : Int) (l3 : Int) (σ : on_S) : Option on_O :=
  on_Pt σ 77 24 l3 fun σ15 =>
  on_Wr σ15 91 2 0 l1 fun σ16 =>
  on_Wr σ16 91 2 1 l2 fun σ17 =>
  k42 l1 (l2 + 1) σ17
def pf_X12_findSafe_42 (k30 : Int → on_S → Option on_O) : Nat → Int → Int → on_S → Option on_O
  | 0, _, _, _ => none
  | nf + 1, l1, l2, σ =>
    on_Rd σ 90 2 1 fun v6 =>
    on_Lt l2 v6 (
      on_Rd σ 87 6200 l1 fun v7 =>
      on_Rd σ 87 6200 (3100 + l2) fun v8 =>
      on_Eq (on_and v7 v8) 0 (
        on_Gt σ 77 25 fun v9 =>
        on_Pt σ 77 25 (v9 + 1) fun σ10 =>
        on_Rd σ10 89 6200 l1 fun v11 =>
        on_Rd σ10 89 6200 (3100 + l2) fun v12 =>
        on_Gt σ10 77 24 fun v13 =>
        on_Eq v13 (-1) (
          pf_X12_findSafe_122 k30 (pf_X12_findSafe_42 k30 nf) l1 l2 (v11 + v12) σ10) (
          on_Gt σ10 77 24 fun v14 =>
          on_Lt (v11 + v12) v14 (
            pf_X12_findSafe_122 k30 (pf_X12_findSafe_42 k30 nf) l1 l2 (v11 + v12) σ10) (
            pf_X12_findSafe_42 k30 nf l1 (l2 + 1) σ10))) (
        pf_X12_findSafe_42 k30 nf l1 (l2 + 1) σ)) (
      k30 (l1 + 1) σ)
def pf_X12_findSafe_30 : Nat → Int → on_S → Option on_O
  | 0, _, _ => none
  | nf + 1, l1, σ =>
    on_Rd σ 90 2 0 fun v5 =>
    on_Lt l1 v5 (
      pf_X12_findSafe_42 (pf_X12_findSafe_30 nf) on_N l1 0 σ) (
      some (0, σ))
def pf_X12_findSafe_2 : Nat → Int → on_S → Option on_O
  | 0, _, _ => none
  | nf + 1, l1, σ =>
    on_Lt l1 2 (
      on_Cl (pf_X12_layRows l1 σ) fun _ σ2 =>
      pf_X12_findSafe_2 nf (l1 + 1) σ2) (
      on_Pt σ 77 24 (-1) fun σ3 =>
      on_Pt σ3 77 25 0 fun σ4 =>
      pf_X12_findSafe_30 on_N 0 σ4)
def pf_X12_findSafe (σ : on_S) : Option on_O :=
  pf_X12_findSafe_2 on_N 0 σ
set_option maxRecDepth 100000 in
set_option maxHeartbeats 4000000 in
theorem gb_X12_findSafe_122 {E : on_E} {z n : Nat} (X : on_X) (k30 : Int → on_S → Option on_O) (k42 : Int → Int → on_S → Option on_O) (hN : 100 ≤ n) (hk30 : ∀ (l1 : Int) (σ : on_S), on_G X E cX12_findSafe RX12 none 6 144 4 z n σ (k30 l1 σ) 30 [some (.ref (z + 77)), some (.int (on_i l1)), none, none] []) (hk42 : ∀ (l1 : Int) (l2 : Int) (σ : on_S), on_G X E cX12_findSafe RX12 none 6 144 4 z n σ (k42 l1 l2 σ) 42 [some (.ref (z + 77)), some (.int (on_i l1)), some (.int (on_i l2)), none] []) (l1 : Int) (l2 : Int) (l3 : Int) (σ : on_S) : on_G X E cX12_findSafe RX12 none 6 144 4 z n σ (pf_X12_findSafe_122 k30 k42 l1 l2 l3 σ) 122 [some (.ref (z + 77)), some (.int (on_i l1)), some (.int (on_i l2)), some (.int (on_i l3))] [] := by
  rw [pf_X12_findSafe_122]
  refine on_al0 (tk_X12_findSafe 72 rfl) ?_
  refine on_il3 (tk_X12_findSafe 73 rfl) ?_
  refine fp_12_24 hN kw_6_164 (tk_X12_findSafe 74 rfl) fun σ15 => ?_
  refine on_al0 (tk_X12_findSafe 75 rfl) ?_
  refine fg_12_26 hN kw_6_166 (tk_X12_findSafe 76 rfl) ?_
  refine on_iconst (tk_X12_findSafe 77 rfl) ?_
  refine on_il1 (tk_X12_findSafe 78 rfl) ?_
  refine on_iast (ltc_91 hN) sh_91 (tk_X12_findSafe 79 rfl) fun σ16 => ?_
  refine on_al0 (tk_X12_findSafe 80 rfl) ?_
  refine fg_12_26 hN kw_6_166 (tk_X12_findSafe 81 rfl) ?_
  refine on_iconst (tk_X12_findSafe 82 rfl) ?_
  refine on_il2 (tk_X12_findSafe 83 rfl) ?_
  refine on_iast (ltc_91 hN) sh_91 (tk_X12_findSafe 84 rfl) fun σ17 => ?_
  refine on_inc2 rfl (tk_X12_findSafe 85 rfl) ?_
  refine on_goto (tk_X12_findSafe 86 rfl) (tgt := 42) (by decide) ?_
  refine on_dr3 ?_
  exact hk42 _ _ _
set_option maxRecDepth 100000 in
set_option maxHeartbeats 4000000 in
theorem gl_X12_findSafe_42 {E : on_E} {z n : Nat} (X : on_X) (k30 : Int → on_S → Option on_O) (hN : 100 ≤ n) (hk30 : ∀ (l1 : Int) (σ : on_S), on_G X E cX12_findSafe RX12 none 6 144 4 z n σ (k30 l1 σ) 30 [some (.ref (z + 77)), some (.int (on_i l1)), none, none] []) : ∀ (nf : Nat) (l1 : Int) (l2 : Int) (σ : on_S), on_G X E cX12_findSafe RX12 none 6 144 4 z n σ (pf_X12_findSafe_42 k30 nf l1 l2 σ) 42 [some (.ref (z + 77)), some (.int (on_i l1)), some (.int (on_i l2)), none] [] := by
  intro nf
  induction nf with
  | zero => intro l1 l2 σ; exact on_none
  | succ nf ih =>
    intro l1 l2 σ
    rw [pf_X12_findSafe_42]
    refine on_il2 (tk_X12_findSafe 26 rfl) ?_
    refine on_al0 (tk_X12_findSafe 27 rfl) ?_
    refine fg_12_23 hN kw_6_163 (tk_X12_findSafe 28 rfl) ?_
    refine on_iconst (tk_X12_findSafe 29 rfl) ?_
    refine on_iald (ltc_90 hN) sh_90 (tk_X12_findSafe 30 rfl) fun v6 => ?_
    refine on_icmp_ge (tk_X12_findSafe 31 rfl) (tgt := 147) (by decide) ?_ ?_
    · refine on_al0 (tk_X12_findSafe 32 rfl) ?_
      refine fg_12_20 hN kw_6_160 (tk_X12_findSafe 33 rfl) ?_
      refine on_il1 (tk_X12_findSafe 34 rfl) ?_
      refine on_iald (ltc_87 hN) sh_87 (tk_X12_findSafe 35 rfl) fun v7 => ?_
      refine on_al0 (tk_X12_findSafe 36 rfl) ?_
      refine fg_12_20 hN kw_6_160 (tk_X12_findSafe 37 rfl) ?_
      refine on_sipush (tk_X12_findSafe 38 rfl) sp_3100 ?_
      refine on_il2 (tk_X12_findSafe 39 rfl) ?_
      refine on_iadd (tk_X12_findSafe 40 rfl) ?_
      refine on_iald (ltc_87 hN) sh_87 (tk_X12_findSafe 41 rfl) fun v8 => ?_
      refine on_iand (tk_X12_findSafe 42 rfl) ?_
      refine on_if_eq (tk_X12_findSafe 43 rfl) (tgt := 75) (by decide) ?_ ?_
      · refine on_goto (tk_X12_findSafe 44 rfl) (tgt := 141) (by decide) ?_
        refine on_inc2 rfl (tk_X12_findSafe 85 rfl) ?_
        refine on_goto (tk_X12_findSafe 86 rfl) (tgt := 42) (by decide) ?_
        exact ih _ _ _
      · refine on_al0 (tk_X12_findSafe 45 rfl) ?_
        refine on_dup rfl (tk_X12_findSafe 46 rfl) ?_
        refine fg_12_25 hN kw_6_165 (tk_X12_findSafe 47 rfl) fun v9 => ?_
        refine on_iconst (tk_X12_findSafe 48 rfl) ?_
        refine on_iadd (tk_X12_findSafe 49 rfl) ?_
        refine fp_12_25 hN kw_6_165 (tk_X12_findSafe 50 rfl) fun σ10 => ?_
        refine on_al0 (tk_X12_findSafe 51 rfl) ?_
        refine fg_12_22 hN kw_6_162 (tk_X12_findSafe 52 rfl) ?_
        refine on_il1 (tk_X12_findSafe 53 rfl) ?_
        refine on_iald (ltc_89 hN) sh_89 (tk_X12_findSafe 54 rfl) fun v11 => ?_
        refine on_al0 (tk_X12_findSafe 55 rfl) ?_
        refine fg_12_22 hN kw_6_162 (tk_X12_findSafe 56 rfl) ?_
        refine on_sipush (tk_X12_findSafe 57 rfl) sp_3100 ?_
        refine on_il2 (tk_X12_findSafe 58 rfl) ?_
        refine on_iadd (tk_X12_findSafe 59 rfl) ?_
        refine on_iald (ltc_89 hN) sh_89 (tk_X12_findSafe 60 rfl) fun v12 => ?_
        refine on_iadd (tk_X12_findSafe 61 rfl) ?_
        refine on_is3 rfl (tk_X12_findSafe 62 rfl) ?_
        refine on_al0 (tk_X12_findSafe 63 rfl) ?_
        refine fg_12_24 hN kw_6_164 (tk_X12_findSafe 64 rfl) fun v13 => ?_
        refine on_iconst (tk_X12_findSafe 65 rfl) ?_
        refine on_icmp_eq (tk_X12_findSafe 66 rfl) (tgt := 122) (by decide) ?_ ?_
        · refine on_il3 (tk_X12_findSafe 67 rfl) ?_
          refine on_al0 (tk_X12_findSafe 68 rfl) ?_
          refine fg_12_24 hN kw_6_164 (tk_X12_findSafe 69 rfl) fun v14 => ?_
          refine on_icmp_lt (tk_X12_findSafe 70 rfl) (tgt := 122) (by decide) ?_ ?_
          · refine on_goto (tk_X12_findSafe 71 rfl) (tgt := 141) (by decide) ?_
            refine on_inc2 rfl (tk_X12_findSafe 85 rfl) ?_
            refine on_goto (tk_X12_findSafe 86 rfl) (tgt := 42) (by decide) ?_
            refine on_dr3 ?_
            exact ih _ _ _
          · exact gb_X12_findSafe_122 X _ _ hN hk30 ih _ _ _ _
        · exact gb_X12_findSafe_122 X _ _ hN hk30 ih _ _ _ _
    · refine on_inc1 rfl (tk_X12_findSafe 87 rfl) ?_
      refine on_goto (tk_X12_findSafe 88 rfl) (tgt := 30) (by decide) ?_
      refine on_dr2 ?_
      exact hk30 _ _
set_option maxRecDepth 100000 in
set_option maxHeartbeats 4000000 in
theorem gl_X12_findSafe_30 {E : on_E} {z n : Nat} (X : on_X) (hN : 100 ≤ n) : ∀ (nf : Nat) (l1 : Int) (σ : on_S), on_G X E cX12_findSafe RX12 none 6 144 4 z n σ (pf_X12_findSafe_30 nf l1 σ) 30 [some (.ref (z + 77)), some (.int (on_i l1)), none, none] [] := by
  intro nf
  induction nf with
  | zero => intro l1 σ; exact on_none
  | succ nf ih =>
    intro l1 σ
    rw [pf_X12_findSafe_30]
    refine on_il1 (tk_X12_findSafe 18 rfl) ?_
    refine on_al0 (tk_X12_findSafe 19 rfl) ?_
    refine fg_12_23 hN kw_6_163 (tk_X12_findSafe 20 rfl) ?_
    refine on_iconst (tk_X12_findSafe 21 rfl) ?_
    refine on_iald (ltc_90 hN) sh_90 (tk_X12_findSafe 22 rfl) fun v5 => ?_
    refine on_icmp_ge (tk_X12_findSafe 23 rfl) (tgt := 153) (by decide) ?_ ?_
    · refine on_iconst (tk_X12_findSafe 24 rfl) ?_
      refine on_is2 rfl (tk_X12_findSafe 25 rfl) ?_
      exact gl_X12_findSafe_42 X _ hN ih on_N _ _ _
    · exact on_vret (tk_X12_findSafe 89 rfl)
set_option maxRecDepth 100000 in
set_option maxHeartbeats 4000000 in
theorem gl_X12_findSafe_2 {E : on_E} {z n : Nat} (X : on_X) (hN : 100 ≤ n) : ∀ (nf : Nat) (l1 : Int) (σ : on_S), on_G X E cX12_findSafe RX12 none 6 144 4 z n σ (pf_X12_findSafe_2 nf l1 σ) 2 [some (.ref (z + 77)), some (.int (on_i l1)), none, none] [] := by
  intro nf
  induction nf with
  | zero => intro l1 σ; exact on_none
  | succ nf ih =>
    intro l1 σ
    rw [pf_X12_findSafe_2]
    refine on_il1 (tk_X12_findSafe 2 rfl) ?_
    refine on_iconst (tk_X12_findSafe 3 rfl) ?_
    refine on_icmp_ge (tk_X12_findSafe 4 rfl) (tgt := 18) (by decide) ?_ ?_
    · refine on_al0 (tk_X12_findSafe 5 rfl) ?_
      refine on_il1 (tk_X12_findSafe 6 rfl) ?_
      refine on_cV1v 12 ms_X12_layRows kw_8_161 rfl rfl (ltc_77 hN) sh_77 (ct_X12_layRows hN) rfl (tk_X12_findSafe 7 rfl) fun v1 σ2 => ?_
      refine on_inc1 rfl (tk_X12_findSafe 8 rfl) ?_
      refine on_goto (tk_X12_findSafe 9 rfl) (tgt := 2) (by decide) ?_
      exact ih _ _
    · refine on_al0 (tk_X12_findSafe 10 rfl) ?_
      refine on_iconst (tk_X12_findSafe 11 rfl) ?_
      refine fp_12_24 hN kw_6_164 (tk_X12_findSafe 12 rfl) fun σ3 => ?_
      refine on_al0 (tk_X12_findSafe 13 rfl) ?_
      refine on_iconst (tk_X12_findSafe 14 rfl) ?_
      refine fp_12_25 hN kw_6_165 (tk_X12_findSafe 15 rfl) fun σ4 => ?_
      refine on_iconst (tk_X12_findSafe 16 rfl) ?_
      refine on_is1 rfl (tk_X12_findSafe 17 rfl) ?_
      exact gl_X12_findSafe_30 X  hN on_N _ _
set_option maxRecDepth 100000 in
set_option maxHeartbeats 4000000 in
theorem ct_X12_findSafe {E : on_E} {z n : Nat} (hN : 100 ≤ n) {σ : on_S} : on_Sp E yX12_findSafe cX12_findSafe 4 none 6 144 z n [.ref (z + 77)] σ (pf_X12_findSafe  σ) := by
  refine on_met [some (.ref (z + 77)), none, none, none] (by decide) rfl rfl (fun X => ?_)
  rw [pf_X12_findSafe]
  refine on_iconst (tk_X12_findSafe 0 rfl) ?_
  refine on_is1 rfl (tk_X12_findSafe 1 rfl) ?_
  exact gl_X12_findSafe_2 X  hN on_N _ _
def tb_X12_safe : List (Nat × Nat × Nat × Instr) := [(0, 1, 1, .aload_n 0), (1, 3, 4, .invokevirtual 336), (4, 3, 7, .ifCond .ne 6), (7, 2, 9, .bipush (-2)), (9, 1, 10, .ireturn), (10, 1, 11, .aload_n 0), (11, 3, 14, .invokevirtual 394), (14, 1, 15, .aload_n 0), (15, 3, 18, .getfield 388), (18, 1, 19, .ireturn)]
set_option maxRecDepth 100000 in
theorem tk_X12_safe (k : Nat) {pc n pc2 : Nat} {i : Instr} (hk : tb_X12_safe[k]? = some (pc, n, pc2, i)) : on_dq cX12_safe pc n pc2 i := on_ta (by decide +kernel) k hk
theorem ms_X12_safe : on_Mv yX12_safe cX12_safe 1 (some .int) 0 := ⟨kw_8_156, kw_8_154, kw_8_155, kw_1_13, by decide, by decide, by decide +kernel⟩
def pf_X12_safe (σ : on_S) : Option on_O :=
  on_Cl (pf_X12_isStreet σ) fun v1 σ2 =>
  on_Eq v1 0 (
    some ((-2), σ2)) (
    on_Cl (pf_X12_findSafe σ2) fun _ σ4 =>
    on_Gt σ4 77 24 fun v5 =>
    some (v5, σ4))
set_option maxRecDepth 100000 in
set_option maxHeartbeats 4000000 in
theorem ct_X12_safe {E : on_E} {z n : Nat} (hN : 100 ≤ n) {σ : on_S} : on_Sp E yX12_safe cX12_safe 1 (some .int) 7 167 z n [.ref (z + 77)] σ (pf_X12_safe  σ) := by
  refine on_met [some (.ref (z + 77))] (by decide) rfl rfl (fun X => ?_)
  rw [pf_X12_safe]
  refine on_al0 (tk_X12_safe 0 rfl) ?_
  refine on_cV0z 12 ms_X12_isStreet kw_8_73 rfl rfl (ltc_77 hN) sh_77 (ct_X12_isStreet hN) rfl (tk_X12_safe 1 rfl) fun v1 σ2 => ?_
  refine on_if_ne (tk_X12_safe 2 rfl) (tgt := 10) (by decide) ?_ ?_
  · refine on_bipush (tk_X12_safe 3 rfl) bp_m2 ?_
    exact on_iret (tk_X12_safe 4 rfl)
  · refine on_al0 (tk_X12_safe 5 rfl) ?_
    refine on_cV0v 12 ms_X12_findSafe kw_8_157 rfl rfl (ltc_77 hN) sh_77 (ct_X12_findSafe hN) rfl (tk_X12_safe 6 rfl) fun v3 σ4 => ?_
    refine on_al0 (tk_X12_safe 7 rfl) ?_
    refine fg_12_24 hN kw_6_164 (tk_X12_safe 8 rfl) fun v5 => ?_
    exact on_iret (tk_X12_safe 9 rfl)
def tb_X12_placed : List (Nat × Nat × Nat × Instr) := [(0, 1, 1, .aload_n 0), (1, 1, 2, .iload_n 1), (2, 1, 3, .i2l), (3, 3, 6, .invokevirtual 301), (6, 3, 9, .ifCond .eq 10), (9, 1, 10, .iload_n 2), (10, 3, 13, .invokestatic 310), (13, 3, 16, .ifCond .ne 6), (16, 2, 18, .bipush (-2)), (18, 1, 19, .ireturn), (19, 1, 20, .aload_n 0), (20, 3, 23, .invokevirtual 394), (23, 1, 24, .aload_n 0), (24, 3, 27, .getfield 388), (27, 1, 28, .iconst (-1)), (28, 3, 31, .if_icmp .ne 7), (31, 1, 32, .iconst (-1)), (32, 3, 35, .goto 24), (35, 1, 36, .aload_n 0), (36, 3, 39, .getfield 46), (39, 1, 40, .iconst 4), (40, 3, 43, .sipush 3100), (43, 1, 44, .iload_n 1), (44, 1, 45, .imul), (45, 1, 46, .aload_n 0), (46, 3, 49, .getfield 55), (49, 1, 50, .iload_n 1), (50, 1, 51, .iaload), (51, 1, 52, .iadd), (52, 1, 53, .imul), (53, 1, 54, .iload_n 2), (54, 1, 55, .iadd), (55, 1, 56, .iaload), (56, 1, 57, .ireturn)]
set_option maxRecDepth 100000 in
theorem tk_X12_placed (k : Nat) {pc n pc2 : Nat} {i : Instr} (hk : tb_X12_placed[k]? = some (pc, n, pc2, i)) : on_dq cX12_placed pc n pc2 i := on_ta (by decide +kernel) k hk
theorem ms_X12_placed : on_Mv yX12_placed cX12_placed 3 (some .int) 2 := ⟨kw_8_176, kw_8_174, kw_8_175, kw_1_13, by decide, by decide, by decide +kernel⟩
def pf_X12_placed (p0 : Int) (p1 : Int) (σ : on_S) : Option on_O :=
  on_Ck p0 <|
  on_Cl (pf_X12_isNet p0 σ) fun v1 σ2 =>
  on_Eq v1 0 (
    some ((-2), σ2)) (
    on_Cl (pf_X12_isCorner p1 σ2) fun v3 σ4 =>
    on_Eq v3 0 (
      some ((-2), σ4)) (
      on_Cl (pf_X12_findSafe σ4) fun _ σ6 =>
      on_Gt σ6 77 24 fun v7 =>
      on_Eq v7 (-1) (
        some ((-1), σ6)) (
        on_Rd σ6 91 2 p0 fun v8 =>
        on_Rd σ6 88 24800 ((4 * ((3100 * p0) + v8)) + p1) fun v9 =>
        some (v9, σ6))))
set_option maxRecDepth 100000 in
set_option maxHeartbeats 4000000 in
theorem ct_X12_placed {E : on_E} {z n : Nat} {p0 : Int} {p1 : Int} (hN : 100 ≤ n) {σ : on_S} : on_Sp E yX12_placed cX12_placed 3 (some .int) 7 167 z n [.ref (z + 77), .int (on_i p0), .int (on_i p1)] σ (pf_X12_placed p0 p1 σ) := by
  refine on_met [some (.ref (z + 77)), some (.int (on_i p0)), some (.int (on_i p1))] (by decide) rfl rfl (fun X => ?_)
  rw [pf_X12_placed]
  refine on_al0 (tk_X12_placed 0 rfl) ?_
  refine on_il1 (tk_X12_placed 1 rfl) ?_
  refine on_xi2l (tk_X12_placed 2 rfl) ?_
  refine on_cV1z 12 ms_X12_isNet kw_7_183 rfl rfl (ltc_77 hN) sh_77 (ct_X12_isNet hN) rfl (tk_X12_placed 3 rfl) fun v1 σ2 => ?_
  refine on_if_eq (tk_X12_placed 4 rfl) (tgt := 16) (by decide) ?_ ?_
  · refine on_il2 (tk_X12_placed 5 rfl) ?_
    refine on_cS1z ms_X12_isCorner kw_8_5 (ct_X12_isCorner hN) rfl (tk_X12_placed 6 rfl) fun v3 σ4 => ?_
    refine on_if_ne (tk_X12_placed 7 rfl) (tgt := 19) (by decide) ?_ ?_
    · refine on_bipush (tk_X12_placed 8 rfl) bp_m2 ?_
      exact on_iret (tk_X12_placed 9 rfl)
    · refine on_al0 (tk_X12_placed 10 rfl) ?_
      refine on_cV0v 12 ms_X12_findSafe kw_8_157 rfl rfl (ltc_77 hN) sh_77 (ct_X12_findSafe hN) rfl (tk_X12_placed 11 rfl) fun v5 σ6 => ?_
      refine on_al0 (tk_X12_placed 12 rfl) ?_
      refine fg_12_24 hN kw_6_164 (tk_X12_placed 13 rfl) fun v7 => ?_
      refine on_iconst (tk_X12_placed 14 rfl) ?_
      refine on_icmp_ne (tk_X12_placed 15 rfl) (tgt := 35) (by decide) ?_ ?_
      · refine on_iconst (tk_X12_placed 16 rfl) ?_
        refine on_goto (tk_X12_placed 17 rfl) (tgt := 56) (by decide) ?_
        exact on_iret (tk_X12_placed 33 rfl)
      · refine on_al0 (tk_X12_placed 18 rfl) ?_
        refine fg_12_21 hN kw_6_161 (tk_X12_placed 19 rfl) ?_
        refine on_iconst (tk_X12_placed 20 rfl) ?_
        refine on_sipush (tk_X12_placed 21 rfl) sp_3100 ?_
        refine on_il1 (tk_X12_placed 22 rfl) ?_
        refine on_imul (tk_X12_placed 23 rfl) ?_
        refine on_al0 (tk_X12_placed 24 rfl) ?_
        refine fg_12_26 hN kw_6_166 (tk_X12_placed 25 rfl) ?_
        refine on_il1 (tk_X12_placed 26 rfl) ?_
        refine on_iald (ltc_91 hN) sh_91 (tk_X12_placed 27 rfl) fun v8 => ?_
        refine on_iadd (tk_X12_placed 28 rfl) ?_
        refine on_imul (tk_X12_placed 29 rfl) ?_
        refine on_il2 (tk_X12_placed 30 rfl) ?_
        refine on_iadd (tk_X12_placed 31 rfl) ?_
        refine on_iald (ltc_88 hN) sh_88 (tk_X12_placed 32 rfl) fun v9 => ?_
        exact on_iret (tk_X12_placed 33 rfl)
  · refine on_bipush (tk_X12_placed 8 rfl) bp_m2 ?_
    exact on_iret (tk_X12_placed 9 rfl)
def tb_X12_ways : List (Nat × Nat × Nat × Instr) := [(0, 1, 1, .aload_n 0), (1, 3, 4, .invokevirtual 336), (4, 3, 7, .ifCond .ne 6), (7, 2, 9, .bipush (-2)), (9, 1, 10, .ireturn), (10, 1, 11, .aload_n 0), (11, 3, 14, .invokevirtual 394), (14, 1, 15, .aload_n 0), (15, 3, 18, .getfield 391), (18, 1, 19, .ireturn)]
set_option maxRecDepth 100000 in
theorem tk_X12_ways (k : Nat) {pc n pc2 : Nat} {i : Instr} (hk : tb_X12_ways[k]? = some (pc, n, pc2, i)) : on_dq cX12_ways pc n pc2 i := on_ta (by decide +kernel) k hk
theorem ms_X12_ways : on_Mv yX12_ways cX12_ways 1 (some .int) 0 := ⟨kw_8_180, kw_8_178, kw_8_179, kw_1_13, by decide, by decide, by decide +kernel⟩
def pf_X12_ways (σ : on_S) : Option on_O :=
  on_Cl (pf_X12_isStreet σ) fun v1 σ2 =>
  on_Eq v1 0 (
    some ((-2), σ2)) (
    on_Cl (pf_X12_findSafe σ2) fun _ σ4 =>
    on_Gt σ4 77 25 fun v5 =>
    some (v5, σ4))
set_option maxRecDepth 100000 in
set_option maxHeartbeats 4000000 in
theorem ct_X12_ways {E : on_E} {z n : Nat} (hN : 100 ≤ n) {σ : on_S} : on_Sp E yX12_ways cX12_ways 1 (some .int) 7 167 z n [.ref (z + 77)] σ (pf_X12_ways  σ) := by
  refine on_met [some (.ref (z + 77))] (by decide) rfl rfl (fun X => ?_)
  rw [pf_X12_ways]
  refine on_al0 (tk_X12_ways 0 rfl) ?_
  refine on_cV0z 12 ms_X12_isStreet kw_8_73 rfl rfl (ltc_77 hN) sh_77 (ct_X12_isStreet hN) rfl (tk_X12_ways 1 rfl) fun v1 σ2 => ?_
  refine on_if_ne (tk_X12_ways 2 rfl) (tgt := 10) (by decide) ?_ ?_
  · refine on_bipush (tk_X12_ways 3 rfl) bp_m2 ?_
    exact on_iret (tk_X12_ways 4 rfl)
  · refine on_al0 (tk_X12_ways 5 rfl) ?_
    refine on_cV0v 12 ms_X12_findSafe kw_8_157 rfl rfl (ltc_77 hN) sh_77 (ct_X12_findSafe hN) rfl (tk_X12_ways 6 rfl) fun v3 σ4 => ?_
    refine on_al0 (tk_X12_ways 7 rfl) ?_
    refine fg_12_25 hN kw_6_165 (tk_X12_ways 8 rfl) fun v5 => ?_
    exact on_iret (tk_X12_ways 9 rfl)
def tb_X12_quarrels : List (Nat × Nat × Nat × Instr) := [(0, 1, 1, .aload_n 0), (1, 3, 4, .invokevirtual 336), (4, 3, 7, .ifCond .ne 6), (7, 2, 9, .bipush (-2)), (9, 1, 10, .ireturn), (10, 1, 11, .iconst 0), (11, 1, 12, .istore_n 1), (12, 1, 13, .iconst 0), (13, 1, 14, .istore_n 2), (14, 1, 15, .iload_n 2), (15, 1, 16, .aload_n 0), (16, 3, 19, .getfield 9), (19, 1, 20, .iconst 4), (20, 1, 21, .iaload), (21, 3, 24, .if_icmp .ge 21), (24, 1, 25, .aload_n 0), (25, 1, 26, .iload_n 2), (26, 3, 29, .invokevirtual 280), (29, 1, 30, .iload_n 1), (30, 1, 31, .aload_n 0), (31, 3, 34, .invokevirtual 379), (34, 1, 35, .iadd), (35, 1, 36, .istore_n 1), (36, 3, 39, .iinc 2 1), (39, 3, 42, .goto (-25)), (42, 1, 43, .iload_n 1), (43, 1, 44, .ireturn)]
set_option maxRecDepth 100000 in
theorem tk_X12_quarrels (k : Nat) {pc n pc2 : Nat} {i : Instr} (hk : tb_X12_quarrels[k]? = some (pc, n, pc2, i)) : on_dq cX12_quarrels pc n pc2 i := on_ta (by decide +kernel) k hk
theorem ms_X12_quarrels : on_Mv yX12_quarrels cX12_quarrels 3 (some .int) 0 := ⟨kw_8_184, kw_8_182, kw_8_183, kw_1_13, by decide, by decide, by decide +kernel⟩
def pf_X12_quarrels_14 : Nat → Int → Int → on_S → Option on_O
  | 0, _, _, _ => none
  | nf + 1, l1, l2, σ =>
    on_Rd σ 78 687 4 fun v3 =>
    on_Lt l2 v3 (
      on_Cl (pf_X12_layPosts l2 σ) fun _ σ5 =>
      on_Cl (pf_X12_quarrelsOfPosts σ5) fun v6 σ7 =>
      pf_X12_quarrels_14 nf (l1 + v6) (l2 + 1) σ7) (
      some (l1, σ))
def pf_X12_quarrels (σ : on_S) : Option on_O :=
  on_Cl (pf_X12_isStreet σ) fun v1 σ2 =>
  on_Eq v1 0 (
    some ((-2), σ2)) (
    pf_X12_quarrels_14 on_N 0 0 σ2)
set_option maxRecDepth 100000 in
set_option maxHeartbeats 4000000 in
theorem gl_X12_quarrels_14 {E : on_E} {z n : Nat} (X : on_X) (hN : 100 ≤ n) : ∀ (nf : Nat) (l1 : Int) (l2 : Int) (σ : on_S), on_G X E cX12_quarrels RX12 (some .int) 3 67 3 z n σ (pf_X12_quarrels_14 nf l1 l2 σ) 14 [some (.ref (z + 77)), some (.int (on_i l1)), some (.int (on_i l2))] [] := by
  intro nf
  induction nf with
  | zero => intro l1 l2 σ; exact on_none
  | succ nf ih =>
    intro l1 l2 σ
    rw [pf_X12_quarrels_14]
    refine on_il2 (tk_X12_quarrels 9 rfl) ?_
    refine on_al0 (tk_X12_quarrels 10 rfl) ?_
    refine fg_12_1 hN kw_6_141 (tk_X12_quarrels 11 rfl) ?_
    refine on_iconst (tk_X12_quarrels 12 rfl) ?_
    refine on_iald (ltc_78 hN) sh_78 (tk_X12_quarrels 13 rfl) fun v3 => ?_
    refine on_icmp_ge (tk_X12_quarrels 14 rfl) (tgt := 42) (by decide) ?_ ?_
    · refine on_al0 (tk_X12_quarrels 15 rfl) ?_
      refine on_il2 (tk_X12_quarrels 16 rfl) ?_
      refine on_cV1v 12 ms_X12_layPosts kw_7_209 rfl rfl (ltc_77 hN) sh_77 (ct_X12_layPosts hN) rfl (tk_X12_quarrels 17 rfl) fun v4 σ5 => ?_
      refine on_il1 (tk_X12_quarrels 18 rfl) ?_
      refine on_al0 (tk_X12_quarrels 19 rfl) ?_
      refine on_cV0i 12 ms_X12_quarrelsOfPosts kw_8_169 rfl rfl (ltc_77 hN) sh_77 (ct_X12_quarrelsOfPosts hN) rfl (tk_X12_quarrels 20 rfl) fun v6 σ7 => ?_
      refine on_iadd (tk_X12_quarrels 21 rfl) ?_
      refine on_is1 rfl (tk_X12_quarrels 22 rfl) ?_
      refine on_inc2 rfl (tk_X12_quarrels 23 rfl) ?_
      refine on_goto (tk_X12_quarrels 24 rfl) (tgt := 14) (by decide) ?_
      exact ih _ _ _
    · refine on_il1 (tk_X12_quarrels 25 rfl) ?_
      exact on_iret (tk_X12_quarrels 26 rfl)
set_option maxRecDepth 100000 in
set_option maxHeartbeats 4000000 in
theorem ct_X12_quarrels {E : on_E} {z n : Nat} (hN : 100 ≤ n) {σ : on_S} : on_Sp E yX12_quarrels cX12_quarrels 3 (some .int) 3 67 z n [.ref (z + 77)] σ (pf_X12_quarrels  σ) := by
  refine on_met [some (.ref (z + 77)), none, none] (by decide) rfl rfl (fun X => ?_)
  rw [pf_X12_quarrels]
  refine on_al0 (tk_X12_quarrels 0 rfl) ?_
  refine on_cV0z 12 ms_X12_isStreet kw_8_73 rfl rfl (ltc_77 hN) sh_77 (ct_X12_isStreet hN) rfl (tk_X12_quarrels 1 rfl) fun v1 σ2 => ?_
  refine on_if_ne (tk_X12_quarrels 2 rfl) (tgt := 10) (by decide) ?_ ?_
  · refine on_bipush (tk_X12_quarrels 3 rfl) bp_m2 ?_
    exact on_iret (tk_X12_quarrels 4 rfl)
  · refine on_iconst (tk_X12_quarrels 5 rfl) ?_
    refine on_is1 rfl (tk_X12_quarrels 6 rfl) ?_
    refine on_iconst (tk_X12_quarrels 7 rfl) ?_
    refine on_is2 rfl (tk_X12_quarrels 8 rfl) ?_
    exact gl_X12_quarrels_14 X  hN on_N _ _ _
def tb_X12_heldAt : List (Nat × Nat × Nat × Instr) := [(0, 1, 1, .aload_n 0), (1, 1, 2, .iload_n 1), (2, 1, 3, .iload_n 2), (3, 1, 4, .aload_n 0), (4, 3, 7, .invokevirtual 366), (7, 3, 10, .invokevirtual 369), (10, 1, 11, .istore_n 3), (11, 1, 12, .iconst 0), (12, 2, 14, .istore 4), (14, 1, 15, .iconst 0), (15, 2, 17, .istore 5), (17, 2, 19, .iload 5), (19, 1, 20, .aload_n 0), (20, 3, 23, .getfield 9), (23, 1, 24, .iconst 5), (24, 1, 25, .iaload), (25, 3, 28, .if_icmp .ge 39), (28, 2, 30, .iload 4), (30, 1, 31, .aload_n 0), (31, 2, 33, .iload 5), (33, 3, 36, .invokevirtual 105), (36, 1, 37, .iload_n 2), (37, 3, 40, .if_icmp .ne 17), (40, 1, 41, .aload_n 0), (41, 2, 43, .iload 5), (43, 3, 46, .invokevirtual 289), (46, 1, 47, .iload_n 3), (47, 3, 50, .if_icmp .gt 7), (50, 1, 51, .iconst 1), (51, 3, 54, .goto 4), (54, 1, 55, .iconst 0), (55, 1, 56, .iadd), (56, 2, 58, .istore 4), (58, 3, 61, .iinc 5 1), (61, 3, 64, .goto (-44)), (64, 2, 66, .iload 4), (66, 1, 67, .ireturn)]
set_option maxRecDepth 100000 in
theorem tk_X12_heldAt (k : Nat) {pc n pc2 : Nat} {i : Instr} (hk : tb_X12_heldAt[k]? = some (pc, n, pc2, i)) : on_dq cX12_heldAt pc n pc2 i := on_ta (by decide +kernel) k hk
theorem ms_X12_heldAt : on_Mv yX12_heldAt cX12_heldAt 6 (some .int) 2 := ⟨kw_8_192, kw_8_191, (on_mp (q := (yX12_heldAt, 37)) (by decide +kernel)), kw_1_13, by decide, by decide, by decide +kernel⟩
def pf_X12_heldAt_54 (k17 : Int → Int → Int → Int → on_S → Option on_O) (l2 : Int) (l3 : Int) (l5 : Int) (s0 : Int) (σ : on_S) : Option on_O :=
  k17 l2 l3 (s0 + 0) (l5 + 1) σ
def pf_X12_heldAt_17 : Nat → Int → Int → Int → Int → on_S → Option on_O
  | 0, _, _, _, _, _ => none
  | nf + 1, l2, l3, l4, l5, σ =>
    on_Rd σ 78 687 5 fun v5 =>
    on_Lt l5 v5 (
      on_Cl (pf_X12_windowOf l5 σ) fun v6 σ7 =>
      on_Eq v6 l2 (
        on_Cl (pf_X12_forceOf l5 σ7) fun v8 σ9 =>
        on_Le v8 l3 (
          pf_X12_heldAt_17 nf l2 l3 (l4 + 1) (l5 + 1) σ9) (
          pf_X12_heldAt_54 (pf_X12_heldAt_17 nf) l2 l3 l5 l4 σ9)) (
        pf_X12_heldAt_54 (pf_X12_heldAt_17 nf) l2 l3 l5 l4 σ7)) (
      some (l4, σ))
def pf_X12_heldAt (p0 : Int) (p1 : Int) (σ : on_S) : Option on_O :=
  on_Cl (pf_X12_allHouses σ) fun v1 σ2 =>
  on_Cl (pf_X12_mostBy p0 p1 v1 σ2) fun v3 σ4 =>
  pf_X12_heldAt_17 on_N p1 v3 0 0 σ4
set_option maxRecDepth 100000 in
set_option maxHeartbeats 4000000 in
theorem gb_X12_heldAt_54 {E : on_E} {z n : Nat} (X : on_X) (k17 : Int → Int → Int → Int → on_S → Option on_O) (hN : 100 ≤ n) (hk17 : ∀ (l2 : Int) (l3 : Int) (l4 : Int) (l5 : Int) (σ : on_S), on_G X E cX12_heldAt RX12 (some .int) 6 148 6 z n σ (k17 l2 l3 l4 l5 σ) 17 [some (.ref (z + 77)), none, some (.int (on_i l2)), some (.int (on_i l3)), some (.int (on_i l4)), some (.int (on_i l5))] []) (l2 : Int) (l3 : Int) (l5 : Int) (s0 : Int) (σ : on_S) : on_G X E cX12_heldAt RX12 (some .int) 6 148 6 z n σ (pf_X12_heldAt_54 k17 l2 l3 l5 s0 σ) 54 [some (.ref (z + 77)), none, some (.int (on_i l2)), some (.int (on_i l3)), none, some (.int (on_i l5))] [.int (on_i s0)] := by
  rw [pf_X12_heldAt_54]
  refine on_iconst (tk_X12_heldAt 30 rfl) ?_
  refine on_iadd (tk_X12_heldAt 31 rfl) ?_
  refine on_is4 rfl (tk_X12_heldAt 32 rfl) ?_
  refine on_inc5 rfl (tk_X12_heldAt 33 rfl) ?_
  refine on_goto (tk_X12_heldAt 34 rfl) (tgt := 17) (by decide) ?_
  exact hk17 _ _ _ _ _
set_option maxRecDepth 100000 in
set_option maxHeartbeats 4000000 in
theorem gl_X12_heldAt_17 {E : on_E} {z n : Nat} (X : on_X) (hN : 100 ≤ n) : ∀ (nf : Nat) (l2 : Int) (l3 : Int) (l4 : Int) (l5 : Int) (σ : on_S), on_G X E cX12_heldAt RX12 (some .int) 6 148 6 z n σ (pf_X12_heldAt_17 nf l2 l3 l4 l5 σ) 17 [some (.ref (z + 77)), none, some (.int (on_i l2)), some (.int (on_i l3)), some (.int (on_i l4)), some (.int (on_i l5))] [] := by
  intro nf
  induction nf with
  | zero => intro l2 l3 l4 l5 σ; exact on_none
  | succ nf ih =>
    intro l2 l3 l4 l5 σ
    rw [pf_X12_heldAt_17]
    refine on_il5 (tk_X12_heldAt 11 rfl) ?_
    refine on_al0 (tk_X12_heldAt 12 rfl) ?_
    refine fg_12_1 hN kw_6_141 (tk_X12_heldAt 13 rfl) ?_
    refine on_iconst (tk_X12_heldAt 14 rfl) ?_
    refine on_iald (ltc_78 hN) sh_78 (tk_X12_heldAt 15 rfl) fun v5 => ?_
    refine on_icmp_ge (tk_X12_heldAt 16 rfl) (tgt := 64) (by decide) ?_ ?_
    · refine on_il4 (tk_X12_heldAt 17 rfl) ?_
      refine on_al0 (tk_X12_heldAt 18 rfl) ?_
      refine on_il5 (tk_X12_heldAt 19 rfl) ?_
      refine on_cV1i 12 ms_X12_windowOf kw_7_192 rfl rfl (ltc_77 hN) sh_77 (ct_X12_windowOf hN) rfl (tk_X12_heldAt 20 rfl) fun v6 σ7 => ?_
      refine on_il2 (tk_X12_heldAt 21 rfl) ?_
      refine on_icmp_ne (tk_X12_heldAt 22 rfl) (tgt := 54) (by decide) ?_ ?_
      · refine on_al0 (tk_X12_heldAt 23 rfl) ?_
        refine on_il5 (tk_X12_heldAt 24 rfl) ?_
        refine on_cV1i 12 ms_X12_forceOf kw_7_196 rfl rfl (ltc_77 hN) sh_77 (ct_X12_forceOf hN) rfl (tk_X12_heldAt 25 rfl) fun v8 σ9 => ?_
        refine on_il3 (tk_X12_heldAt 26 rfl) ?_
        refine on_icmp_gt (tk_X12_heldAt 27 rfl) (tgt := 54) (by decide) ?_ ?_
        · refine on_iconst (tk_X12_heldAt 28 rfl) ?_
          refine on_goto (tk_X12_heldAt 29 rfl) (tgt := 55) (by decide) ?_
          refine on_iadd (tk_X12_heldAt 31 rfl) ?_
          refine on_is4 rfl (tk_X12_heldAt 32 rfl) ?_
          refine on_inc5 rfl (tk_X12_heldAt 33 rfl) ?_
          refine on_goto (tk_X12_heldAt 34 rfl) (tgt := 17) (by decide) ?_
          exact ih _ _ _ _ _
        · refine on_dr4 ?_
          exact gb_X12_heldAt_54 X _ hN ih _ _ _ _ _
      · refine on_dr4 ?_
        exact gb_X12_heldAt_54 X _ hN ih _ _ _ _ _
    · refine on_il4 (tk_X12_heldAt 35 rfl) ?_
      exact on_iret (tk_X12_heldAt 36 rfl)
set_option maxRecDepth 100000 in
set_option maxHeartbeats 4000000 in
theorem ct_X12_heldAt {E : on_E} {z n : Nat} {p0 : Int} {p1 : Int} (hN : 100 ≤ n) {σ : on_S} : on_Sp E yX12_heldAt cX12_heldAt 6 (some .int) 6 148 z n [.ref (z + 77), .int (on_i p0), .int (on_i p1)] σ (pf_X12_heldAt p0 p1 σ) := by
  refine on_met [some (.ref (z + 77)), some (.int (on_i p0)), some (.int (on_i p1)), none, none, none] (by decide) rfl rfl (fun X => ?_)
  rw [pf_X12_heldAt]
  refine on_al0 (tk_X12_heldAt 0 rfl) ?_
  refine on_il1 (tk_X12_heldAt 1 rfl) ?_
  refine on_il2 (tk_X12_heldAt 2 rfl) ?_
  refine on_al0 (tk_X12_heldAt 3 rfl) ?_
  refine on_cV0i 12 ms_X12_allHouses kw_8_121 rfl rfl (ltc_77 hN) sh_77 (ct_X12_allHouses hN) rfl (tk_X12_heldAt 4 rfl) fun v1 σ2 => ?_
  refine on_cV3i 12 ms_X12_mostBy kw_8_125 rfl rfl (ltc_77 hN) sh_77 (ct_X12_mostBy hN) rfl (tk_X12_heldAt 5 rfl) fun v3 σ4 => ?_
  refine on_is3 rfl (tk_X12_heldAt 6 rfl) ?_
  refine on_iconst (tk_X12_heldAt 7 rfl) ?_
  refine on_is4 rfl (tk_X12_heldAt 8 rfl) ?_
  refine on_iconst (tk_X12_heldAt 9 rfl) ?_
  refine on_is5 rfl (tk_X12_heldAt 10 rfl) ?_
  refine on_dr1 ?_
  exact gl_X12_heldAt_17 X  hN on_N _ _ _ _ _
def tb_X12_where : List (Nat × Nat × Nat × Instr) := [(0, 1, 1, .aload_n 0), (1, 1, 2, .aload_n 0), (2, 1, 3, .iload_n 1), (3, 1, 4, .i2l), (4, 3, 7, .invokevirtual 301), (7, 3, 10, .ifCond .eq 17), (10, 1, 11, .iload_n 2), (11, 1, 12, .i2l), (12, 1, 13, .lconst 0), (13, 1, 14, .lconst 1), (14, 3, 17, .invokestatic 88), (17, 3, 20, .ifCond .eq 7), (20, 1, 21, .iconst 1), (21, 3, 24, .goto 4), (24, 1, 25, .iconst 0), (25, 3, 28, .invokevirtual 372), (28, 1, 29, .istore_n 3), (29, 1, 30, .iload_n 3), (30, 3, 33, .ifCond .ge 5), (33, 1, 34, .iload_n 3), (34, 1, 35, .ireturn), (35, 1, 36, .iconst (-1)), (36, 2, 38, .istore 4), (38, 1, 39, .iconst (-1)), (39, 2, 41, .istore 5), (41, 1, 42, .iconst 0), (42, 2, 44, .istore 6), (44, 2, 46, .iload 6), (46, 1, 47, .aload_n 0), (47, 3, 50, .getfield 9), (50, 1, 51, .iconst 2), (51, 1, 52, .iaload), (52, 3, 55, .if_icmp .ge 59), (55, 1, 56, .aload_n 0), (56, 2, 58, .iload 6), (58, 3, 61, .invokevirtual 295), (61, 1, 62, .iconst (-1)), (62, 3, 65, .if_icmp .eq 16), (65, 1, 66, .aload_n 0), (66, 2, 68, .iload 6), (68, 3, 71, .invokevirtual 295), (71, 1, 72, .iload_n 1), (72, 3, 75, .if_icmp .eq 6), (75, 3, 78, .goto 30), (78, 1, 79, .aload_n 0), (79, 1, 80, .iload_n 1), (80, 2, 82, .iload 6), (82, 3, 85, .invokevirtual 397), (85, 2, 87, .istore 7), (87, 2, 89, .iload 7), (89, 2, 91, .iload 5), (91, 3, 94, .if_icmp .gt 6), (94, 3, 97, .goto 11), (97, 2, 99, .iload 6), (99, 2, 101, .istore 4), (101, 2, 103, .iload 7), (103, 2, 105, .istore 5), (105, 3, 108, .iinc 6 1), (108, 3, 111, .goto (-64)), (111, 1, 112, .iload_n 2), (112, 3, 115, .ifCond .ne 8), (115, 2, 117, .iload 4), (117, 3, 120, .goto 5), (120, 2, 122, .iload 5), (122, 1, 123, .ireturn)]
set_option maxRecDepth 100000 in
theorem tk_X12_where (k : Nat) {pc n pc2 : Nat} {i : Instr} (hk : tb_X12_where[k]? = some (pc, n, pc2, i)) : on_dq cX12_where pc n pc2 i := on_ta (by decide +kernel) k hk
theorem ms_X12_where : on_Mv yX12_where cX12_where 8 (some .int) 2 := ⟨kw_8_188, kw_8_186, kw_8_187, kw_1_13, by decide, by decide, by decide +kernel⟩
def pf_X12_where_78 (k44 : Int → Int → Int → Int → Int → on_S → Option on_O) (l1 : Int) (l2 : Int) (l4 : Int) (l5 : Int) (l6 : Int) (σ : on_S) : Option on_O :=
  on_Cl (pf_X12_heldAt l1 l6 σ) fun v12 σ13 =>
  on_Le v12 l5 (
    k44 l1 l2 l4 l5 (l6 + 1) σ13) (
    k44 l1 l2 l6 v12 (l6 + 1) σ13)
def pf_X12_where_44 : Nat → Int → Int → Int → Int → Int → on_S → Option on_O
  | 0, _, _, _, _, _, _ => none
  | nf + 1, l1, l2, l4, l5, l6, σ =>
    on_Rd σ 78 687 2 fun v7 =>
    on_Lt l6 v7 (
      on_Cl (pf_X12_netAt l6 σ) fun v8 σ9 =>
      on_Eq v8 (-1) (
        pf_X12_where_78 (pf_X12_where_44 nf) l1 l2 l4 l5 l6 σ9) (
        on_Cl (pf_X12_netAt l6 σ9) fun v10 σ11 =>
        on_Eq v10 l1 (
          pf_X12_where_78 (pf_X12_where_44 nf) l1 l2 l4 l5 l6 σ11) (
          pf_X12_where_44 nf l1 l2 l4 l5 (l6 + 1) σ11))) (
      on_Eq l2 0 (
        some (l4, σ)) (
        some (l5, σ)))
def pf_X12_where_25 (l1 : Int) (l2 : Int) (s1 : Int) (σ : on_S) : Option on_O :=
  on_Cl (pf_X12_asksFour s1 σ) fun v5 σ6 =>
  on_Lt v5 0 (
    some (v5, σ6)) (
    pf_X12_where_44 on_N l1 l2 (-1) (-1) 0 σ6)
def pf_X12_where_24 (l1 : Int) (l2 : Int) (σ : on_S) : Option on_O :=
  pf_X12_where_25 l1 l2 0 σ
def pf_X12_where (p0 : Int) (p1 : Int) (σ : on_S) : Option on_O :=
  on_Ck p0 <|
  on_Cl (pf_X12_isNet p0 σ) fun v1 σ2 =>
  on_Eq v1 0 (
    pf_X12_where_24 p0 p1 σ2) (
    on_Ck p1 <|
    on_Cl (pf_X12_in p1 0 1 σ2) fun v3 σ4 =>
    on_Eq v3 0 (
      pf_X12_where_24 p0 p1 σ4) (
      pf_X12_where_25 p0 p1 1 σ4))
set_option maxRecDepth 100000 in
set_option maxHeartbeats 4000000 in
theorem gb_X12_where_78 {E : on_E} {z n : Nat} (X : on_X) (k44 : Int → Int → Int → Int → Int → on_S → Option on_O) (hN : 100 ≤ n) (hk44 : ∀ (l1 : Int) (l2 : Int) (l4 : Int) (l5 : Int) (l6 : Int) (σ : on_S), on_G X E cX12_where RX12 (some .int) 7 173 8 z n σ (k44 l1 l2 l4 l5 l6 σ) 44 [some (.ref (z + 77)), some (.int (on_i l1)), some (.int (on_i l2)), none, some (.int (on_i l4)), some (.int (on_i l5)), some (.int (on_i l6)), none] []) (l1 : Int) (l2 : Int) (l4 : Int) (l5 : Int) (l6 : Int) (σ : on_S) : on_G X E cX12_where RX12 (some .int) 7 173 8 z n σ (pf_X12_where_78 k44 l1 l2 l4 l5 l6 σ) 78 [some (.ref (z + 77)), some (.int (on_i l1)), some (.int (on_i l2)), none, some (.int (on_i l4)), some (.int (on_i l5)), some (.int (on_i l6)), none] [] := by
  rw [pf_X12_where_78]
  refine on_al0 (tk_X12_where 44 rfl) ?_
  refine on_il1 (tk_X12_where 45 rfl) ?_
  refine on_il6 (tk_X12_where 46 rfl) ?_
  refine on_cV2i 12 ms_X12_heldAt kw_8_189 rfl rfl (ltc_77 hN) sh_77 (ct_X12_heldAt hN) rfl (tk_X12_where 47 rfl) fun v12 σ13 => ?_
  refine on_is7 rfl (tk_X12_where 48 rfl) ?_
  refine on_il7 (tk_X12_where 49 rfl) ?_
  refine on_il5 (tk_X12_where 50 rfl) ?_
  refine on_icmp_gt (tk_X12_where 51 rfl) (tgt := 97) (by decide) ?_ ?_
  · refine on_goto (tk_X12_where 52 rfl) (tgt := 105) (by decide) ?_
    refine on_inc6 rfl (tk_X12_where 57 rfl) ?_
    refine on_goto (tk_X12_where 58 rfl) (tgt := 44) (by decide) ?_
    refine on_dr7 ?_
    exact hk44 _ _ _ _ _ _
  · refine on_il6 (tk_X12_where 53 rfl) ?_
    refine on_is4 rfl (tk_X12_where 54 rfl) ?_
    refine on_il7 (tk_X12_where 55 rfl) ?_
    refine on_is5 rfl (tk_X12_where 56 rfl) ?_
    refine on_inc6 rfl (tk_X12_where 57 rfl) ?_
    refine on_goto (tk_X12_where 58 rfl) (tgt := 44) (by decide) ?_
    refine on_dr7 ?_
    exact hk44 _ _ _ _ _ _
set_option maxRecDepth 100000 in
set_option maxHeartbeats 4000000 in
theorem gl_X12_where_44 {E : on_E} {z n : Nat} (X : on_X) (hN : 100 ≤ n) : ∀ (nf : Nat) (l1 : Int) (l2 : Int) (l4 : Int) (l5 : Int) (l6 : Int) (σ : on_S), on_G X E cX12_where RX12 (some .int) 7 173 8 z n σ (pf_X12_where_44 nf l1 l2 l4 l5 l6 σ) 44 [some (.ref (z + 77)), some (.int (on_i l1)), some (.int (on_i l2)), none, some (.int (on_i l4)), some (.int (on_i l5)), some (.int (on_i l6)), none] [] := by
  intro nf
  induction nf with
  | zero => intro l1 l2 l4 l5 l6 σ; exact on_none
  | succ nf ih =>
    intro l1 l2 l4 l5 l6 σ
    rw [pf_X12_where_44]
    refine on_il6 (tk_X12_where 27 rfl) ?_
    refine on_al0 (tk_X12_where 28 rfl) ?_
    refine fg_12_1 hN kw_6_141 (tk_X12_where 29 rfl) ?_
    refine on_iconst (tk_X12_where 30 rfl) ?_
    refine on_iald (ltc_78 hN) sh_78 (tk_X12_where 31 rfl) fun v7 => ?_
    refine on_icmp_ge (tk_X12_where 32 rfl) (tgt := 111) (by decide) ?_ ?_
    · refine on_al0 (tk_X12_where 33 rfl) ?_
      refine on_il6 (tk_X12_where 34 rfl) ?_
      refine on_cV1i 12 ms_X12_netAt kw_7_158 rfl rfl (ltc_77 hN) sh_77 (ct_X12_netAt hN) rfl (tk_X12_where 35 rfl) fun v8 σ9 => ?_
      refine on_iconst (tk_X12_where 36 rfl) ?_
      refine on_icmp_eq (tk_X12_where 37 rfl) (tgt := 78) (by decide) ?_ ?_
      · refine on_al0 (tk_X12_where 38 rfl) ?_
        refine on_il6 (tk_X12_where 39 rfl) ?_
        refine on_cV1i 12 ms_X12_netAt kw_7_158 rfl rfl (ltc_77 hN) sh_77 (ct_X12_netAt hN) rfl (tk_X12_where 40 rfl) fun v10 σ11 => ?_
        refine on_il1 (tk_X12_where 41 rfl) ?_
        refine on_icmp_eq (tk_X12_where 42 rfl) (tgt := 78) (by decide) ?_ ?_
        · refine on_goto (tk_X12_where 43 rfl) (tgt := 105) (by decide) ?_
          refine on_inc6 rfl (tk_X12_where 57 rfl) ?_
          refine on_goto (tk_X12_where 58 rfl) (tgt := 44) (by decide) ?_
          exact ih _ _ _ _ _ _
        · exact gb_X12_where_78 X _ hN ih _ _ _ _ _ _
      · exact gb_X12_where_78 X _ hN ih _ _ _ _ _ _
    · refine on_il2 (tk_X12_where 59 rfl) ?_
      refine on_if_ne (tk_X12_where 60 rfl) (tgt := 120) (by decide) ?_ ?_
      · refine on_il4 (tk_X12_where 61 rfl) ?_
        refine on_goto (tk_X12_where 62 rfl) (tgt := 122) (by decide) ?_
        exact on_iret (tk_X12_where 64 rfl)
      · refine on_il5 (tk_X12_where 63 rfl) ?_
        exact on_iret (tk_X12_where 64 rfl)
set_option maxRecDepth 100000 in
set_option maxHeartbeats 4000000 in
theorem gb_X12_where_25 {E : on_E} {z n : Nat} (X : on_X) (hN : 100 ≤ n) (l1 : Int) (l2 : Int) (s1 : Int) (σ : on_S) : on_G X E cX12_where RX12 (some .int) 7 173 8 z n σ (pf_X12_where_25 l1 l2 s1 σ) 25 [some (.ref (z + 77)), some (.int (on_i l1)), some (.int (on_i l2)), none, none, none, none, none] [.int (on_i s1), .ref (z + 77)] := by
  rw [pf_X12_where_25]
  refine on_cV1i 12 ms_X12_asksFour kw_8_113 rfl rfl (ltc_77 hN) sh_77 (ct_X12_asksFour hN) rfl (tk_X12_where 15 rfl) fun v5 σ6 => ?_
  refine on_is3 rfl (tk_X12_where 16 rfl) ?_
  refine on_il3 (tk_X12_where 17 rfl) ?_
  refine on_if_ge (tk_X12_where 18 rfl) (tgt := 35) (by decide) ?_ ?_
  · refine on_il3 (tk_X12_where 19 rfl) ?_
    exact on_iret (tk_X12_where 20 rfl)
  · refine on_iconst (tk_X12_where 21 rfl) ?_
    refine on_is4 rfl (tk_X12_where 22 rfl) ?_
    refine on_iconst (tk_X12_where 23 rfl) ?_
    refine on_is5 rfl (tk_X12_where 24 rfl) ?_
    refine on_iconst (tk_X12_where 25 rfl) ?_
    refine on_is6 rfl (tk_X12_where 26 rfl) ?_
    refine on_dr3 ?_
    exact gl_X12_where_44 X  hN on_N _ _ _ _ _ _
set_option maxRecDepth 100000 in
set_option maxHeartbeats 4000000 in
theorem gb_X12_where_24 {E : on_E} {z n : Nat} (X : on_X) (hN : 100 ≤ n) (l1 : Int) (l2 : Int) (σ : on_S) : on_G X E cX12_where RX12 (some .int) 7 173 8 z n σ (pf_X12_where_24 l1 l2 σ) 24 [some (.ref (z + 77)), some (.int (on_i l1)), some (.int (on_i l2)), none, none, none, none, none] [.ref (z + 77)] := by
  rw [pf_X12_where_24]
  refine on_iconst (tk_X12_where 14 rfl) ?_
  exact gb_X12_where_25 X  hN _ _ _ _
set_option maxRecDepth 100000 in
set_option maxHeartbeats 4000000 in
theorem ct_X12_where {E : on_E} {z n : Nat} {p0 : Int} {p1 : Int} (hN : 100 ≤ n) {σ : on_S} : on_Sp E yX12_where cX12_where 8 (some .int) 7 173 z n [.ref (z + 77), .int (on_i p0), .int (on_i p1)] σ (pf_X12_where p0 p1 σ) := by
  refine on_met [some (.ref (z + 77)), some (.int (on_i p0)), some (.int (on_i p1)), none, none, none, none, none] (by decide) rfl rfl (fun X => ?_)
  rw [pf_X12_where]
  refine on_al0 (tk_X12_where 0 rfl) ?_
  refine on_al0 (tk_X12_where 1 rfl) ?_
  refine on_il1 (tk_X12_where 2 rfl) ?_
  refine on_xi2l (tk_X12_where 3 rfl) ?_
  refine on_cV1z 12 ms_X12_isNet kw_7_183 rfl rfl (ltc_77 hN) sh_77 (ct_X12_isNet hN) rfl (tk_X12_where 4 rfl) fun v1 σ2 => ?_
  refine on_if_eq (tk_X12_where 5 rfl) (tgt := 24) (by decide) ?_ ?_
  · refine on_il2 (tk_X12_where 6 rfl) ?_
    refine on_xi2l (tk_X12_where 7 rfl) ?_
    refine on_lconst0 (tk_X12_where 8 rfl) ?_
    refine on_lconst1 (tk_X12_where 9 rfl) ?_
    refine on_cS3z ms_X12_in kw_7_18 (ct_X12_in hN) rfl (tk_X12_where 10 rfl) fun v3 σ4 => ?_
    refine on_if_eq (tk_X12_where 11 rfl) (tgt := 24) (by decide) ?_ ?_
    · refine on_iconst (tk_X12_where 12 rfl) ?_
      refine on_goto (tk_X12_where 13 rfl) (tgt := 25) (by decide) ?_
      exact gb_X12_where_25 X  hN _ _ _ _
    · exact gb_X12_where_24 X  hN _ _ _
  · exact gb_X12_where_24 X  hN _ _ _
def tb_X12_setQuarrel : List (Nat × Nat × Nat × Instr) := [(0, 1, 1, .aload_n 0), (1, 3, 4, .getfield 9), (4, 2, 6, .bipush 76), (6, 2, 8, .bipush 9), (8, 1, 9, .iload_n 1), (9, 1, 10, .imul), (10, 1, 11, .iadd), (11, 1, 12, .iload_n 2), (12, 1, 13, .iadd), (13, 1, 14, .iload_n 3), (14, 1, 15, .iastore), (15, 1, 16, .aload_n 0), (16, 3, 19, .getfield 9), (19, 2, 21, .bipush 76), (21, 2, 23, .bipush 9), (23, 1, 24, .iload_n 2), (24, 1, 25, .imul), (25, 1, 26, .iadd), (26, 1, 27, .iload_n 1), (27, 1, 28, .iadd), (28, 1, 29, .iload_n 3), (29, 1, 30, .iastore), (30, 1, 31, .return_)]
set_option maxRecDepth 100000 in
theorem tk_X12_setQuarrel (k : Nat) {pc n pc2 : Nat} {i : Instr} (hk : tb_X12_setQuarrel[k]? = some (pc, n, pc2, i)) : on_dq cX12_setQuarrel pc n pc2 i := on_ta (by decide +kernel) k hk
theorem ms_X12_setQuarrel : on_Mv yX12_setQuarrel cX12_setQuarrel 4 none 3 := ⟨kw_8_211, kw_8_210, (on_mp (q := (yX12_setQuarrel, 37)) (by decide +kernel)), kw_1_13, by decide, by decide, by decide +kernel⟩
def pf_X12_setQuarrel (p0 : Int) (p1 : Int) (p2 : Int) (σ : on_S) : Option on_O :=
  on_Wr σ 78 687 ((76 + (9 * p0)) + p1) p2 fun σ1 =>
  on_Wr σ1 78 687 ((76 + (9 * p1)) + p0) p2 fun σ2 =>
  some (0, σ2)
set_option maxRecDepth 100000 in
set_option maxHeartbeats 4000000 in
theorem ct_X12_setQuarrel {E : on_E} {z n : Nat} {p0 : Int} {p1 : Int} {p2 : Int} (hN : 100 ≤ n) {σ : on_S} : on_Sp E yX12_setQuarrel cX12_setQuarrel 4 none 0 0 z n [.ref (z + 77), .int (on_i p0), .int (on_i p1), .int (on_i p2)] σ (pf_X12_setQuarrel p0 p1 p2 σ) := by
  refine on_met [some (.ref (z + 77)), some (.int (on_i p0)), some (.int (on_i p1)), some (.int (on_i p2))] (by decide) rfl rfl (fun X => ?_)
  rw [pf_X12_setQuarrel]
  refine on_al0 (tk_X12_setQuarrel 0 rfl) ?_
  refine fg_12_1 hN kw_6_141 (tk_X12_setQuarrel 1 rfl) ?_
  refine on_bipush (tk_X12_setQuarrel 2 rfl) bp_76 ?_
  refine on_bipush (tk_X12_setQuarrel 3 rfl) bp_9 ?_
  refine on_il1 (tk_X12_setQuarrel 4 rfl) ?_
  refine on_imul (tk_X12_setQuarrel 5 rfl) ?_
  refine on_iadd (tk_X12_setQuarrel 6 rfl) ?_
  refine on_il2 (tk_X12_setQuarrel 7 rfl) ?_
  refine on_iadd (tk_X12_setQuarrel 8 rfl) ?_
  refine on_il3 (tk_X12_setQuarrel 9 rfl) ?_
  refine on_iast (ltc_78 hN) sh_78 (tk_X12_setQuarrel 10 rfl) fun σ1 => ?_
  refine on_al0 (tk_X12_setQuarrel 11 rfl) ?_
  refine fg_12_1 hN kw_6_141 (tk_X12_setQuarrel 12 rfl) ?_
  refine on_bipush (tk_X12_setQuarrel 13 rfl) bp_76 ?_
  refine on_bipush (tk_X12_setQuarrel 14 rfl) bp_9 ?_
  refine on_il2 (tk_X12_setQuarrel 15 rfl) ?_
  refine on_imul (tk_X12_setQuarrel 16 rfl) ?_
  refine on_iadd (tk_X12_setQuarrel 17 rfl) ?_
  refine on_il1 (tk_X12_setQuarrel 18 rfl) ?_
  refine on_iadd (tk_X12_setQuarrel 19 rfl) ?_
  refine on_il3 (tk_X12_setQuarrel 20 rfl) ?_
  refine on_iast (ltc_78 hN) sh_78 (tk_X12_setQuarrel 21 rfl) fun σ2 => ?_
  exact on_vret (tk_X12_setQuarrel 22 rfl)
def tb_X12_doesBy : List (Nat × Nat × Nat × Instr) := [(0, 1, 1, .aload_n 0), (1, 1, 2, .iload_n 1), (2, 3, 5, .invokevirtual 280), (5, 1, 6, .iconst 0), (6, 1, 7, .istore_n 3), (7, 1, 8, .iload_n 3), (8, 1, 9, .iconst 4), (9, 3, 12, .if_icmp .ge 75), (12, 1, 13, .aload_n 0), (13, 3, 16, .getfield 34), (16, 1, 17, .iload_n 3), (17, 1, 18, .iaload), (18, 2, 20, .istore 4), (20, 1, 21, .aload_n 0), (21, 3, 24, .getfield 34), (24, 1, 25, .iload_n 3), (25, 1, 26, .iconst 1), (26, 1, 27, .iadd), (27, 1, 28, .iconst 4), (28, 1, 29, .irem), (29, 1, 30, .iaload), (30, 2, 32, .istore 5), (32, 1, 33, .iload_n 2), (33, 1, 34, .iload_n 3), (34, 1, 35, .ishr), (35, 1, 36, .iconst 1), (36, 1, 37, .iand), (37, 3, 40, .ifCond .eq 41), (40, 2, 42, .iload 4), (42, 1, 43, .iconst (-1)), (43, 3, 46, .if_icmp .eq 35), (46, 2, 48, .iload 5), (48, 1, 49, .iconst (-1)), (49, 3, 52, .if_icmp .ne 6), (52, 3, 55, .goto 26), (55, 1, 56, .aload_n 0), (56, 3, 59, .getfield 58), (59, 1, 60, .iload_n 3), (60, 1, 61, .aload_n 0), (61, 2, 63, .iload 4), (63, 2, 65, .iload 5), (65, 3, 68, .invokevirtual 263), (68, 1, 69, .iastore), (69, 1, 70, .aload_n 0), (70, 2, 72, .iload 4), (72, 2, 74, .iload 5), (74, 1, 75, .iconst 0), (75, 3, 78, .invokevirtual 400), (78, 3, 81, .iinc 3 1), (81, 3, 84, .goto (-74)), (84, 1, 85, .aload_n 0), (85, 1, 86, .iload_n 1), (86, 1, 87, .aload_n 0), (87, 1, 88, .iload_n 1), (88, 1, 89, .iconst 0), (89, 3, 92, .invokevirtual 94), (92, 1, 93, .aload_n 0), (93, 1, 94, .iload_n 1), (94, 1, 95, .iconst 2), (95, 3, 98, .invokevirtual 94), (98, 3, 101, .invokevirtual 283), (101, 1, 102, .aload_n 0), (102, 1, 103, .iload_n 1), (103, 3, 106, .invokevirtual 307), (106, 3, 109, .if_icmp .lt 7), (109, 1, 110, .iconst 1), (110, 3, 113, .goto 4), (113, 1, 114, .iconst 0), (114, 1, 115, .istore_n 3), (115, 1, 116, .iconst 0), (116, 2, 118, .istore 4), (118, 2, 120, .iload 4), (120, 1, 121, .iconst 4), (121, 3, 124, .if_icmp .ge 68), (124, 1, 125, .aload_n 0), (125, 3, 128, .getfield 34), (128, 2, 130, .iload 4), (130, 1, 131, .iaload), (131, 2, 133, .istore 5), (133, 1, 134, .aload_n 0), (134, 3, 137, .getfield 34), (137, 2, 139, .iload 4), (139, 1, 140, .iconst 1), (140, 1, 141, .iadd), (141, 1, 142, .iconst 4), (142, 1, 143, .irem), (143, 1, 144, .iaload), (144, 2, 146, .istore 6), (146, 1, 147, .iload_n 2), (147, 2, 149, .iload 4), (149, 1, 150, .ishr), (150, 1, 151, .iconst 1), (151, 1, 152, .iand), (152, 1, 153, .iconst 1), (153, 3, 156, .if_icmp .ne 30), (156, 2, 158, .iload 5), (158, 1, 159, .iconst (-1)), (159, 3, 162, .if_icmp .eq 24), (162, 2, 164, .iload 6), (164, 1, 165, .iconst (-1)), (165, 3, 168, .if_icmp .eq 18), (168, 1, 169, .aload_n 0), (169, 2, 171, .iload 5), (171, 2, 173, .iload 6), (173, 1, 174, .aload_n 0), (174, 3, 177, .getfield 58), (177, 2, 179, .iload 4), (179, 1, 180, .iaload), (180, 3, 183, .invokevirtual 400), (183, 3, 186, .iinc 4 1), (186, 3, 189, .goto (-68)), (189, 1, 190, .iload_n 3), (190, 1, 191, .ireturn)]
set_option maxRecDepth 100000 in
theorem tk_X12_doesBy (k : Nat) {pc n pc2 : Nat} {i : Instr} (hk : tb_X12_doesBy[k]? = some (pc, n, pc2, i)) : on_dq cX12_doesBy pc n pc2 i := on_ta (by decide +kernel) k hk
theorem ms_X12_doesBy : on_Mv yX12_doesBy cX12_doesBy 7 (some .boolean) 2 := ⟨kw_8_207, kw_8_206, (on_mp (q := (yX12_doesBy, 37)) (by decide +kernel)), kw_1_13, by decide, by decide, by decide +kernel⟩
def pf_X12_doesBy_118 : Nat → Int → Int → Int → on_S → Option on_O
  | 0, _, _, _, _ => none
  | nf + 1, l2, l3, l4, σ =>
    on_Lt l4 4 (
      on_Rd σ 84 4 l4 fun v19 =>
      on_Rm (l4 + 1) 4 fun v20 =>
      on_Rd σ 84 4 v20 fun v21 =>
      on_Eq (on_and (on_shr l2 l4) 1) 1 (
        on_Eq v19 (-1) (
          pf_X12_doesBy_118 nf l2 l3 (l4 + 1) σ) (
          on_Eq v21 (-1) (
            pf_X12_doesBy_118 nf l2 l3 (l4 + 1) σ) (
            on_Rd σ 92 4 l4 fun v22 =>
            on_Cl (pf_X12_setQuarrel v19 v21 v22 σ) fun _ σ24 =>
            pf_X12_doesBy_118 nf l2 l3 (l4 + 1) σ24))) (
        pf_X12_doesBy_118 nf l2 l3 (l4 + 1) σ)) (
      on_Bz l3 σ)
def pf_X12_doesBy_114 (l2 : Int) (s0 : Int) (σ : on_S) : Option on_O :=
  pf_X12_doesBy_118 on_N l2 s0 0 σ
def pf_X12_doesBy_7 : Nat → Int → Int → Int → on_S → Option on_O
  | 0, _, _, _, _ => none
  | nf + 1, l1, l2, l3, σ =>
    on_Lt l3 4 (
      on_Rd σ 84 4 l3 fun v3 =>
      on_Rm (l3 + 1) 4 fun v4 =>
      on_Rd σ 84 4 v4 fun v5 =>
      on_Eq (on_and (on_shr l2 l3) 1) 0 (
        pf_X12_doesBy_7 nf l1 l2 (l3 + 1) σ) (
        on_Eq v3 (-1) (
          pf_X12_doesBy_7 nf l1 l2 (l3 + 1) σ) (
          on_Eq v5 (-1) (
            pf_X12_doesBy_7 nf l1 l2 (l3 + 1) σ) (
            on_Cl (pf_X12_quarrelOf v3 v5 σ) fun v6 σ7 =>
            on_Wr σ7 92 4 l3 v6 fun σ8 =>
            on_Cl (pf_X12_setQuarrel v3 v5 0 σ8) fun _ σ10 =>
            pf_X12_doesBy_7 nf l1 l2 (l3 + 1) σ10)))) (
      on_Cl (pf_X12_ofNet l1 0 σ) fun v11 σ12 =>
      on_Cl (pf_X12_ofNet l1 2 σ12) fun v13 σ14 =>
      on_Cl (pf_X12_carriesBy l1 v11 v13 σ14) fun v15 σ16 =>
      on_Cl (pf_X12_needOf l1 σ16) fun v17 σ18 =>
      on_Lt v15 v17 (
        pf_X12_doesBy_114 l2 0 σ18) (
        pf_X12_doesBy_114 l2 1 σ18))
def pf_X12_doesBy (p0 : Int) (p1 : Int) (σ : on_S) : Option on_O :=
  on_Cl (pf_X12_layPosts p0 σ) fun _ σ2 =>
  pf_X12_doesBy_7 on_N p0 p1 0 σ2
set_option maxRecDepth 100000 in
set_option maxHeartbeats 4000000 in
theorem gl_X12_doesBy_118 {E : on_E} {z n : Nat} (X : on_X) (hN : 100 ≤ n) : ∀ (nf : Nat) (l2 : Int) (l3 : Int) (l4 : Int) (σ : on_S), on_G X E cX12_doesBy RX12 (some .boolean) 5 121 7 z n σ (pf_X12_doesBy_118 nf l2 l3 l4 σ) 118 [some (.ref (z + 77)), none, some (.int (on_i l2)), some (.int (on_i l3)), some (.int (on_i l4)), none, none] [] := by
  intro nf
  induction nf with
  | zero => intro l2 l3 l4 σ; exact on_none
  | succ nf ih =>
    intro l2 l3 l4 σ
    rw [pf_X12_doesBy_118]
    refine on_il4 (tk_X12_doesBy 71 rfl) ?_
    refine on_iconst (tk_X12_doesBy 72 rfl) ?_
    refine on_icmp_ge (tk_X12_doesBy 73 rfl) (tgt := 189) (by decide) ?_ ?_
    · refine on_al0 (tk_X12_doesBy 74 rfl) ?_
      refine fg_12_15 hN kw_6_155 (tk_X12_doesBy 75 rfl) ?_
      refine on_il4 (tk_X12_doesBy 76 rfl) ?_
      refine on_iald (ltc_84 hN) sh_84 (tk_X12_doesBy 77 rfl) fun v19 => ?_
      refine on_is5 rfl (tk_X12_doesBy 78 rfl) ?_
      refine on_al0 (tk_X12_doesBy 79 rfl) ?_
      refine fg_12_15 hN kw_6_155 (tk_X12_doesBy 80 rfl) ?_
      refine on_il4 (tk_X12_doesBy 81 rfl) ?_
      refine on_iconst (tk_X12_doesBy 82 rfl) ?_
      refine on_iadd (tk_X12_doesBy 83 rfl) ?_
      refine on_iconst (tk_X12_doesBy 84 rfl) ?_
      refine on_irem (tk_X12_doesBy 85 rfl) fun v20 => ?_
      refine on_iald (ltc_84 hN) sh_84 (tk_X12_doesBy 86 rfl) fun v21 => ?_
      refine on_is6 rfl (tk_X12_doesBy 87 rfl) ?_
      refine on_il2 (tk_X12_doesBy 88 rfl) ?_
      refine on_il4 (tk_X12_doesBy 89 rfl) ?_
      refine on_ishr (tk_X12_doesBy 90 rfl) ?_
      refine on_iconst (tk_X12_doesBy 91 rfl) ?_
      refine on_iand (tk_X12_doesBy 92 rfl) ?_
      refine on_iconst (tk_X12_doesBy 93 rfl) ?_
      refine on_icmp_ne (tk_X12_doesBy 94 rfl) (tgt := 183) (by decide) ?_ ?_
      · refine on_il5 (tk_X12_doesBy 95 rfl) ?_
        refine on_iconst (tk_X12_doesBy 96 rfl) ?_
        refine on_icmp_eq (tk_X12_doesBy 97 rfl) (tgt := 183) (by decide) ?_ ?_
        · refine on_il6 (tk_X12_doesBy 98 rfl) ?_
          refine on_iconst (tk_X12_doesBy 99 rfl) ?_
          refine on_icmp_eq (tk_X12_doesBy 100 rfl) (tgt := 183) (by decide) ?_ ?_
          · refine on_al0 (tk_X12_doesBy 101 rfl) ?_
            refine on_il5 (tk_X12_doesBy 102 rfl) ?_
            refine on_il6 (tk_X12_doesBy 103 rfl) ?_
            refine on_al0 (tk_X12_doesBy 104 rfl) ?_
            refine fg_12_27 hN kw_6_167 (tk_X12_doesBy 105 rfl) ?_
            refine on_il4 (tk_X12_doesBy 106 rfl) ?_
            refine on_iald (ltc_92 hN) sh_92 (tk_X12_doesBy 107 rfl) fun v22 => ?_
            refine on_cV3v 12 ms_X12_setQuarrel kw_8_208 rfl rfl (ltc_77 hN) sh_77 (ct_X12_setQuarrel hN) rfl (tk_X12_doesBy 108 rfl) fun v23 σ24 => ?_
            refine on_inc4 rfl (tk_X12_doesBy 109 rfl) ?_
            refine on_goto (tk_X12_doesBy 110 rfl) (tgt := 118) (by decide) ?_
            refine on_dr5 ?_
            refine on_dr6 ?_
            exact ih _ _ _ _
          · refine on_inc4 rfl (tk_X12_doesBy 109 rfl) ?_
            refine on_goto (tk_X12_doesBy 110 rfl) (tgt := 118) (by decide) ?_
            refine on_dr5 ?_
            refine on_dr6 ?_
            exact ih _ _ _ _
        · refine on_inc4 rfl (tk_X12_doesBy 109 rfl) ?_
          refine on_goto (tk_X12_doesBy 110 rfl) (tgt := 118) (by decide) ?_
          refine on_dr5 ?_
          refine on_dr6 ?_
          exact ih _ _ _ _
      · refine on_inc4 rfl (tk_X12_doesBy 109 rfl) ?_
        refine on_goto (tk_X12_doesBy 110 rfl) (tgt := 118) (by decide) ?_
        refine on_dr5 ?_
        refine on_dr6 ?_
        exact ih _ _ _ _
    · refine on_il3 (tk_X12_doesBy 111 rfl) ?_
      exact on_zret (tk_X12_doesBy 112 rfl)
set_option maxRecDepth 100000 in
set_option maxHeartbeats 4000000 in
theorem gb_X12_doesBy_114 {E : on_E} {z n : Nat} (X : on_X) (hN : 100 ≤ n) (l2 : Int) (s0 : Int) (σ : on_S) : on_G X E cX12_doesBy RX12 (some .boolean) 5 121 7 z n σ (pf_X12_doesBy_114 l2 s0 σ) 114 [some (.ref (z + 77)), none, some (.int (on_i l2)), none, none, none, none] [.int (on_i s0)] := by
  rw [pf_X12_doesBy_114]
  refine on_is3 rfl (tk_X12_doesBy 68 rfl) ?_
  refine on_iconst (tk_X12_doesBy 69 rfl) ?_
  refine on_is4 rfl (tk_X12_doesBy 70 rfl) ?_
  exact gl_X12_doesBy_118 X  hN on_N _ _ _ _
set_option maxRecDepth 100000 in
set_option maxHeartbeats 4000000 in
theorem gl_X12_doesBy_7 {E : on_E} {z n : Nat} (X : on_X) (hN : 100 ≤ n) : ∀ (nf : Nat) (l1 : Int) (l2 : Int) (l3 : Int) (σ : on_S), on_G X E cX12_doesBy RX12 (some .boolean) 5 121 7 z n σ (pf_X12_doesBy_7 nf l1 l2 l3 σ) 7 [some (.ref (z + 77)), some (.int (on_i l1)), some (.int (on_i l2)), some (.int (on_i l3)), none, none, none] [] := by
  intro nf
  induction nf with
  | zero => intro l1 l2 l3 σ; exact on_none
  | succ nf ih =>
    intro l1 l2 l3 σ
    rw [pf_X12_doesBy_7]
    refine on_il3 (tk_X12_doesBy 5 rfl) ?_
    refine on_iconst (tk_X12_doesBy 6 rfl) ?_
    refine on_icmp_ge (tk_X12_doesBy 7 rfl) (tgt := 84) (by decide) ?_ ?_
    · refine on_al0 (tk_X12_doesBy 8 rfl) ?_
      refine fg_12_15 hN kw_6_155 (tk_X12_doesBy 9 rfl) ?_
      refine on_il3 (tk_X12_doesBy 10 rfl) ?_
      refine on_iald (ltc_84 hN) sh_84 (tk_X12_doesBy 11 rfl) fun v3 => ?_
      refine on_is4 rfl (tk_X12_doesBy 12 rfl) ?_
      refine on_al0 (tk_X12_doesBy 13 rfl) ?_
      refine fg_12_15 hN kw_6_155 (tk_X12_doesBy 14 rfl) ?_
      refine on_il3 (tk_X12_doesBy 15 rfl) ?_
      refine on_iconst (tk_X12_doesBy 16 rfl) ?_
      refine on_iadd (tk_X12_doesBy 17 rfl) ?_
      refine on_iconst (tk_X12_doesBy 18 rfl) ?_
      refine on_irem (tk_X12_doesBy 19 rfl) fun v4 => ?_
      refine on_iald (ltc_84 hN) sh_84 (tk_X12_doesBy 20 rfl) fun v5 => ?_
      refine on_is5 rfl (tk_X12_doesBy 21 rfl) ?_
      refine on_il2 (tk_X12_doesBy 22 rfl) ?_
      refine on_il3 (tk_X12_doesBy 23 rfl) ?_
      refine on_ishr (tk_X12_doesBy 24 rfl) ?_
      refine on_iconst (tk_X12_doesBy 25 rfl) ?_
      refine on_iand (tk_X12_doesBy 26 rfl) ?_
      refine on_if_eq (tk_X12_doesBy 27 rfl) (tgt := 78) (by decide) ?_ ?_
      · refine on_il4 (tk_X12_doesBy 28 rfl) ?_
        refine on_iconst (tk_X12_doesBy 29 rfl) ?_
        refine on_icmp_eq (tk_X12_doesBy 30 rfl) (tgt := 78) (by decide) ?_ ?_
        · refine on_il5 (tk_X12_doesBy 31 rfl) ?_
          refine on_iconst (tk_X12_doesBy 32 rfl) ?_
          refine on_icmp_ne (tk_X12_doesBy 33 rfl) (tgt := 55) (by decide) ?_ ?_
          · refine on_goto (tk_X12_doesBy 34 rfl) (tgt := 78) (by decide) ?_
            refine on_inc3 rfl (tk_X12_doesBy 48 rfl) ?_
            refine on_goto (tk_X12_doesBy 49 rfl) (tgt := 7) (by decide) ?_
            refine on_dr4 ?_
            refine on_dr5 ?_
            exact ih _ _ _ _
          · refine on_al0 (tk_X12_doesBy 35 rfl) ?_
            refine fg_12_27 hN kw_6_167 (tk_X12_doesBy 36 rfl) ?_
            refine on_il3 (tk_X12_doesBy 37 rfl) ?_
            refine on_al0 (tk_X12_doesBy 38 rfl) ?_
            refine on_il4 (tk_X12_doesBy 39 rfl) ?_
            refine on_il5 (tk_X12_doesBy 40 rfl) ?_
            refine on_cV2i 12 ms_X12_quarrelOf kw_7_237 rfl rfl (ltc_77 hN) sh_77 (ct_X12_quarrelOf hN) rfl (tk_X12_doesBy 41 rfl) fun v6 σ7 => ?_
            refine on_iast (ltc_92 hN) sh_92 (tk_X12_doesBy 42 rfl) fun σ8 => ?_
            refine on_al0 (tk_X12_doesBy 43 rfl) ?_
            refine on_il4 (tk_X12_doesBy 44 rfl) ?_
            refine on_il5 (tk_X12_doesBy 45 rfl) ?_
            refine on_iconst (tk_X12_doesBy 46 rfl) ?_
            refine on_cV3v 12 ms_X12_setQuarrel kw_8_208 rfl rfl (ltc_77 hN) sh_77 (ct_X12_setQuarrel hN) rfl (tk_X12_doesBy 47 rfl) fun v9 σ10 => ?_
            refine on_inc3 rfl (tk_X12_doesBy 48 rfl) ?_
            refine on_goto (tk_X12_doesBy 49 rfl) (tgt := 7) (by decide) ?_
            refine on_dr4 ?_
            refine on_dr5 ?_
            exact ih _ _ _ _
        · refine on_inc3 rfl (tk_X12_doesBy 48 rfl) ?_
          refine on_goto (tk_X12_doesBy 49 rfl) (tgt := 7) (by decide) ?_
          refine on_dr4 ?_
          refine on_dr5 ?_
          exact ih _ _ _ _
      · refine on_inc3 rfl (tk_X12_doesBy 48 rfl) ?_
        refine on_goto (tk_X12_doesBy 49 rfl) (tgt := 7) (by decide) ?_
        refine on_dr4 ?_
        refine on_dr5 ?_
        exact ih _ _ _ _
    · refine on_al0 (tk_X12_doesBy 50 rfl) ?_
      refine on_il1 (tk_X12_doesBy 51 rfl) ?_
      refine on_al0 (tk_X12_doesBy 52 rfl) ?_
      refine on_il1 (tk_X12_doesBy 53 rfl) ?_
      refine on_iconst (tk_X12_doesBy 54 rfl) ?_
      refine on_cV2i 12 ms_X12_ofNet kw_7_162 rfl rfl (ltc_77 hN) sh_77 (ct_X12_ofNet hN) rfl (tk_X12_doesBy 55 rfl) fun v11 σ12 => ?_
      refine on_al0 (tk_X12_doesBy 56 rfl) ?_
      refine on_il1 (tk_X12_doesBy 57 rfl) ?_
      refine on_iconst (tk_X12_doesBy 58 rfl) ?_
      refine on_cV2i 12 ms_X12_ofNet kw_7_162 rfl rfl (ltc_77 hN) sh_77 (ct_X12_ofNet hN) rfl (tk_X12_doesBy 59 rfl) fun v13 σ14 => ?_
      refine on_cV3i 12 ms_X12_carriesBy kw_7_217 rfl rfl (ltc_77 hN) sh_77 (ct_X12_carriesBy hN) rfl (tk_X12_doesBy 60 rfl) fun v15 σ16 => ?_
      refine on_al0 (tk_X12_doesBy 61 rfl) ?_
      refine on_il1 (tk_X12_doesBy 62 rfl) ?_
      refine on_cV1i 12 ms_X12_needOf kw_7_188 rfl rfl (ltc_77 hN) sh_77 (ct_X12_needOf hN) rfl (tk_X12_doesBy 63 rfl) fun v17 σ18 => ?_
      refine on_icmp_lt (tk_X12_doesBy 64 rfl) (tgt := 113) (by decide) ?_ ?_
      · refine on_iconst (tk_X12_doesBy 65 rfl) ?_
        refine on_goto (tk_X12_doesBy 66 rfl) (tgt := 114) (by decide) ?_
        refine on_dr1 ?_
        refine on_dr3 ?_
        exact gb_X12_doesBy_114 X  hN _ _ _
      · refine on_iconst (tk_X12_doesBy 67 rfl) ?_
        refine on_dr1 ?_
        refine on_dr3 ?_
        exact gb_X12_doesBy_114 X  hN _ _ _
set_option maxRecDepth 100000 in
set_option maxHeartbeats 4000000 in
theorem ct_X12_doesBy {E : on_E} {z n : Nat} {p0 : Int} {p1 : Int} (hN : 100 ≤ n) {σ : on_S} : on_Sp E yX12_doesBy cX12_doesBy 7 (some .boolean) 5 121 z n [.ref (z + 77), .int (on_i p0), .int (on_i p1)] σ (pf_X12_doesBy p0 p1 σ) := by
  refine on_met [some (.ref (z + 77)), some (.int (on_i p0)), some (.int (on_i p1)), none, none, none, none] (by decide) rfl rfl (fun X => ?_)
  rw [pf_X12_doesBy]
  refine on_al0 (tk_X12_doesBy 0 rfl) ?_
  refine on_il1 (tk_X12_doesBy 1 rfl) ?_
  refine on_cV1v 12 ms_X12_layPosts kw_7_209 rfl rfl (ltc_77 hN) sh_77 (ct_X12_layPosts hN) rfl (tk_X12_doesBy 2 rfl) fun v1 σ2 => ?_
  refine on_iconst (tk_X12_doesBy 3 rfl) ?_
  refine on_is3 rfl (tk_X12_doesBy 4 rfl) ?_
  exact gl_X12_doesBy_7 X  hN on_N _ _ _ _
def tb_X12_mendsOf : List (Nat × Nat × Nat × Instr) := [(0, 1, 1, .iconst (-1)), (1, 1, 2, .istore_n 2), (2, 1, 3, .iconst 0), (3, 1, 4, .istore_n 3), (4, 1, 5, .iload_n 3), (5, 2, 7, .bipush 16), (7, 3, 10, .if_icmp .ge 36), (10, 1, 11, .iload_n 2), (11, 1, 12, .iconst (-1)), (12, 3, 15, .if_icmp .eq 14), (15, 1, 16, .iload_n 3), (16, 3, 19, .invokestatic 403), (19, 1, 20, .iload_n 2), (20, 3, 23, .invokestatic 403), (23, 3, 26, .if_icmp .ge 14), (26, 1, 27, .aload_n 0), (27, 1, 28, .iload_n 1), (28, 1, 29, .iload_n 3), (29, 3, 32, .invokevirtual 406), (32, 3, 35, .ifCond .eq 5), (35, 1, 36, .iload_n 3), (36, 1, 37, .istore_n 2), (37, 3, 40, .iinc 3 1), (40, 3, 43, .goto (-36)), (43, 1, 44, .iload_n 2), (44, 1, 45, .ireturn)]
set_option maxRecDepth 100000 in
theorem tk_X12_mendsOf (k : Nat) {pc n pc2 : Nat} {i : Instr} (hk : tb_X12_mendsOf[k]? = some (pc, n, pc2, i)) : on_dq cX12_mendsOf pc n pc2 i := on_ta (by decide +kernel) k hk
theorem ms_X12_mendsOf : on_Mv yX12_mendsOf cX12_mendsOf 4 (some .int) 1 := ⟨kw_8_200, kw_8_199, (on_mp (q := (yX12_mendsOf, 37)) (by decide +kernel)), kw_1_13, by decide, by decide, by decide +kernel⟩
def pf_X12_mendsOf_26 (k4 : Int → Int → Int → on_S → Option on_O) (l1 : Int) (l2 : Int) (l3 : Int) (σ : on_S) : Option on_O :=
  on_Cl (pf_X12_doesBy l1 l3 σ) fun v5 σ6 =>
  on_Eq v5 0 (
    k4 l1 l2 (l3 + 1) σ6) (
    k4 l1 l3 (l3 + 1) σ6)
def pf_X12_mendsOf_4 : Nat → Int → Int → Int → on_S → Option on_O
  | 0, _, _, _, _ => none
  | nf + 1, l1, l2, l3, σ =>
    on_Lt l3 16 (
      on_Eq l2 (-1) (
        pf_X12_mendsOf_26 (pf_X12_mendsOf_4 nf) l1 l2 l3 σ) (
        on_Cl (pf_X12_bits l3 σ) fun v1 σ2 =>
        on_Cl (pf_X12_bits l2 σ2) fun v3 σ4 =>
        on_Lt v1 v3 (
          pf_X12_mendsOf_26 (pf_X12_mendsOf_4 nf) l1 l2 l3 σ4) (
          pf_X12_mendsOf_4 nf l1 l2 (l3 + 1) σ4))) (
      some (l2, σ))
def pf_X12_mendsOf (p0 : Int) (σ : on_S) : Option on_O :=
  pf_X12_mendsOf_4 on_N p0 (-1) 0 σ
set_option maxRecDepth 100000 in
set_option maxHeartbeats 4000000 in
theorem gb_X12_mendsOf_26 {E : on_E} {z n : Nat} (X : on_X) (k4 : Int → Int → Int → on_S → Option on_O) (hN : 100 ≤ n) (hk4 : ∀ (l1 : Int) (l2 : Int) (l3 : Int) (σ : on_S), on_G X E cX12_mendsOf RX12 (some .int) 6 147 4 z n σ (k4 l1 l2 l3 σ) 4 [some (.ref (z + 77)), some (.int (on_i l1)), some (.int (on_i l2)), some (.int (on_i l3))] []) (l1 : Int) (l2 : Int) (l3 : Int) (σ : on_S) : on_G X E cX12_mendsOf RX12 (some .int) 6 147 4 z n σ (pf_X12_mendsOf_26 k4 l1 l2 l3 σ) 26 [some (.ref (z + 77)), some (.int (on_i l1)), some (.int (on_i l2)), some (.int (on_i l3))] [] := by
  rw [pf_X12_mendsOf_26]
  refine on_al0 (tk_X12_mendsOf 15 rfl) ?_
  refine on_il1 (tk_X12_mendsOf 16 rfl) ?_
  refine on_il3 (tk_X12_mendsOf 17 rfl) ?_
  refine on_cV2z 12 ms_X12_doesBy kw_8_204 rfl rfl (ltc_77 hN) sh_77 (ct_X12_doesBy hN) rfl (tk_X12_mendsOf 18 rfl) fun v5 σ6 => ?_
  refine on_if_eq (tk_X12_mendsOf 19 rfl) (tgt := 37) (by decide) ?_ ?_
  · refine on_il3 (tk_X12_mendsOf 20 rfl) ?_
    refine on_is2 rfl (tk_X12_mendsOf 21 rfl) ?_
    refine on_inc3 rfl (tk_X12_mendsOf 22 rfl) ?_
    refine on_goto (tk_X12_mendsOf 23 rfl) (tgt := 4) (by decide) ?_
    exact hk4 _ _ _ _
  · refine on_inc3 rfl (tk_X12_mendsOf 22 rfl) ?_
    refine on_goto (tk_X12_mendsOf 23 rfl) (tgt := 4) (by decide) ?_
    exact hk4 _ _ _ _
set_option maxRecDepth 100000 in
set_option maxHeartbeats 4000000 in
theorem gl_X12_mendsOf_4 {E : on_E} {z n : Nat} (X : on_X) (hN : 100 ≤ n) : ∀ (nf : Nat) (l1 : Int) (l2 : Int) (l3 : Int) (σ : on_S), on_G X E cX12_mendsOf RX12 (some .int) 6 147 4 z n σ (pf_X12_mendsOf_4 nf l1 l2 l3 σ) 4 [some (.ref (z + 77)), some (.int (on_i l1)), some (.int (on_i l2)), some (.int (on_i l3))] [] := by
  intro nf
  induction nf with
  | zero => intro l1 l2 l3 σ; exact on_none
  | succ nf ih =>
    intro l1 l2 l3 σ
    rw [pf_X12_mendsOf_4]
    refine on_il3 (tk_X12_mendsOf 4 rfl) ?_
    refine on_bipush (tk_X12_mendsOf 5 rfl) bp_16 ?_
    refine on_icmp_ge (tk_X12_mendsOf 6 rfl) (tgt := 43) (by decide) ?_ ?_
    · refine on_il2 (tk_X12_mendsOf 7 rfl) ?_
      refine on_iconst (tk_X12_mendsOf 8 rfl) ?_
      refine on_icmp_eq (tk_X12_mendsOf 9 rfl) (tgt := 26) (by decide) ?_ ?_
      · refine on_il3 (tk_X12_mendsOf 10 rfl) ?_
        refine on_cS1i ms_X12_bits kw_8_201 (ct_X12_bits hN) rfl (tk_X12_mendsOf 11 rfl) fun v1 σ2 => ?_
        refine on_il2 (tk_X12_mendsOf 12 rfl) ?_
        refine on_cS1i ms_X12_bits kw_8_201 (ct_X12_bits hN) rfl (tk_X12_mendsOf 13 rfl) fun v3 σ4 => ?_
        refine on_icmp_ge (tk_X12_mendsOf 14 rfl) (tgt := 37) (by decide) ?_ ?_
        · exact gb_X12_mendsOf_26 X _ hN ih _ _ _ _
        · refine on_inc3 rfl (tk_X12_mendsOf 22 rfl) ?_
          refine on_goto (tk_X12_mendsOf 23 rfl) (tgt := 4) (by decide) ?_
          exact ih _ _ _ _
      · exact gb_X12_mendsOf_26 X _ hN ih _ _ _ _
    · refine on_il2 (tk_X12_mendsOf 24 rfl) ?_
      exact on_iret (tk_X12_mendsOf 25 rfl)
set_option maxRecDepth 100000 in
set_option maxHeartbeats 4000000 in
theorem ct_X12_mendsOf {E : on_E} {z n : Nat} {p0 : Int} (hN : 100 ≤ n) {σ : on_S} : on_Sp E yX12_mendsOf cX12_mendsOf 4 (some .int) 6 147 z n [.ref (z + 77), .int (on_i p0)] σ (pf_X12_mendsOf p0 σ) := by
  refine on_met [some (.ref (z + 77)), some (.int (on_i p0)), none, none] (by decide) rfl rfl (fun X => ?_)
  rw [pf_X12_mendsOf]
  refine on_iconst (tk_X12_mendsOf 0 rfl) ?_
  refine on_is2 rfl (tk_X12_mendsOf 1 rfl) ?_
  refine on_iconst (tk_X12_mendsOf 2 rfl) ?_
  refine on_is3 rfl (tk_X12_mendsOf 3 rfl) ?_
  exact gl_X12_mendsOf_4 X  hN on_N _ _ _ _
def tb_X12_peace : List (Nat × Nat × Nat × Instr) := [(0, 1, 1, .aload_n 0), (1, 1, 2, .iload_n 1), (2, 1, 3, .i2l), (3, 3, 6, .invokevirtual 301), (6, 3, 9, .ifCond .ne 6), (9, 2, 11, .bipush (-2)), (11, 1, 12, .ireturn), (12, 1, 13, .aload_n 0), (13, 1, 14, .iload_n 1), (14, 3, 17, .invokevirtual 409), (17, 1, 18, .istore_n 2), (18, 1, 19, .iload_n 2), (19, 1, 20, .iconst (-1)), (20, 3, 23, .if_icmp .ne 7), (23, 1, 24, .iconst (-1)), (24, 3, 27, .goto 7), (27, 1, 28, .iload_n 2), (28, 3, 31, .invokestatic 403), (31, 1, 32, .ireturn)]
set_option maxRecDepth 100000 in
theorem tk_X12_peace (k : Nat) {pc n pc2 : Nat} {i : Instr} (hk : tb_X12_peace[k]? = some (pc, n, pc2, i)) : on_dq cX12_peace pc n pc2 i := on_ta (by decide +kernel) k hk
theorem ms_X12_peace : on_Mv yX12_peace cX12_peace 3 (some .int) 1 := ⟨kw_8_196, kw_8_194, kw_8_195, kw_1_13, by decide, by decide, by decide +kernel⟩
def pf_X12_peace (p0 : Int) (σ : on_S) : Option on_O :=
  on_Ck p0 <|
  on_Cl (pf_X12_isNet p0 σ) fun v1 σ2 =>
  on_Eq v1 0 (
    some ((-2), σ2)) (
    on_Cl (pf_X12_mendsOf p0 σ2) fun v3 σ4 =>
    on_Eq v3 (-1) (
      some ((-1), σ4)) (
      on_Cl (pf_X12_bits v3 σ4) fun v5 σ6 =>
      some (v5, σ6)))
set_option maxRecDepth 100000 in
set_option maxHeartbeats 4000000 in
theorem ct_X12_peace {E : on_E} {z n : Nat} {p0 : Int} (hN : 100 ≤ n) {σ : on_S} : on_Sp E yX12_peace cX12_peace 3 (some .int) 7 170 z n [.ref (z + 77), .int (on_i p0)] σ (pf_X12_peace p0 σ) := by
  refine on_met [some (.ref (z + 77)), some (.int (on_i p0)), none] (by decide) rfl rfl (fun X => ?_)
  rw [pf_X12_peace]
  refine on_al0 (tk_X12_peace 0 rfl) ?_
  refine on_il1 (tk_X12_peace 1 rfl) ?_
  refine on_xi2l (tk_X12_peace 2 rfl) ?_
  refine on_cV1z 12 ms_X12_isNet kw_7_183 rfl rfl (ltc_77 hN) sh_77 (ct_X12_isNet hN) rfl (tk_X12_peace 3 rfl) fun v1 σ2 => ?_
  refine on_if_ne (tk_X12_peace 4 rfl) (tgt := 12) (by decide) ?_ ?_
  · refine on_bipush (tk_X12_peace 5 rfl) bp_m2 ?_
    exact on_iret (tk_X12_peace 6 rfl)
  · refine on_al0 (tk_X12_peace 7 rfl) ?_
    refine on_il1 (tk_X12_peace 8 rfl) ?_
    refine on_cV1i 12 ms_X12_mendsOf kw_8_197 rfl rfl (ltc_77 hN) sh_77 (ct_X12_mendsOf hN) rfl (tk_X12_peace 9 rfl) fun v3 σ4 => ?_
    refine on_is2 rfl (tk_X12_peace 10 rfl) ?_
    refine on_il2 (tk_X12_peace 11 rfl) ?_
    refine on_iconst (tk_X12_peace 12 rfl) ?_
    refine on_icmp_ne (tk_X12_peace 13 rfl) (tgt := 27) (by decide) ?_ ?_
    · refine on_iconst (tk_X12_peace 14 rfl) ?_
      refine on_goto (tk_X12_peace 15 rfl) (tgt := 31) (by decide) ?_
      exact on_iret (tk_X12_peace 18 rfl)
    · refine on_il2 (tk_X12_peace 16 rfl) ?_
      refine on_cS1i ms_X12_bits kw_8_201 (ct_X12_bits hN) rfl (tk_X12_peace 17 rfl) fun v5 σ6 => ?_
      exact on_iret (tk_X12_peace 18 rfl)
def tb_X12_mends : List (Nat × Nat × Nat × Instr) := [(0, 1, 1, .aload_n 0), (1, 1, 2, .iload_n 1), (2, 1, 3, .i2l), (3, 3, 6, .invokevirtual 301), (6, 3, 9, .ifCond .eq 11), (9, 1, 10, .aload_n 0), (10, 1, 11, .iload_n 1), (11, 3, 14, .invokevirtual 409), (14, 3, 17, .goto 5), (17, 2, 19, .bipush (-2)), (19, 1, 20, .ireturn)]
set_option maxRecDepth 100000 in
theorem tk_X12_mends (k : Nat) {pc n pc2 : Nat} {i : Instr} (hk : tb_X12_mends[k]? = some (pc, n, pc2, i)) : on_dq cX12_mends pc n pc2 i := on_ta (by decide +kernel) k hk
theorem ms_X12_mends : on_Mv yX12_mends cX12_mends 2 (some .int) 1 := ⟨kw_8_215, kw_8_213, kw_8_214, kw_1_13, by decide, by decide, by decide +kernel⟩
def pf_X12_mends (p0 : Int) (σ : on_S) : Option on_O :=
  on_Ck p0 <|
  on_Cl (pf_X12_isNet p0 σ) fun v1 σ2 =>
  on_Eq v1 0 (
    some ((-2), σ2)) (
    on_Cl (pf_X12_mendsOf p0 σ2) fun v3 σ4 =>
    some (v3, σ4))
set_option maxRecDepth 100000 in
set_option maxHeartbeats 4000000 in
theorem ct_X12_mends {E : on_E} {z n : Nat} {p0 : Int} (hN : 100 ≤ n) {σ : on_S} : on_Sp E yX12_mends cX12_mends 2 (some .int) 7 170 z n [.ref (z + 77), .int (on_i p0)] σ (pf_X12_mends p0 σ) := by
  refine on_met [some (.ref (z + 77)), some (.int (on_i p0))] (by decide) rfl rfl (fun X => ?_)
  rw [pf_X12_mends]
  refine on_al0 (tk_X12_mends 0 rfl) ?_
  refine on_il1 (tk_X12_mends 1 rfl) ?_
  refine on_xi2l (tk_X12_mends 2 rfl) ?_
  refine on_cV1z 12 ms_X12_isNet kw_7_183 rfl rfl (ltc_77 hN) sh_77 (ct_X12_isNet hN) rfl (tk_X12_mends 3 rfl) fun v1 σ2 => ?_
  refine on_if_eq (tk_X12_mends 4 rfl) (tgt := 17) (by decide) ?_ ?_
  · refine on_al0 (tk_X12_mends 5 rfl) ?_
    refine on_il1 (tk_X12_mends 6 rfl) ?_
    refine on_cV1i 12 ms_X12_mendsOf kw_8_197 rfl rfl (ltc_77 hN) sh_77 (ct_X12_mendsOf hN) rfl (tk_X12_mends 7 rfl) fun v3 σ4 => ?_
    refine on_goto (tk_X12_mends 8 rfl) (tgt := 19) (by decide) ?_
    exact on_iret (tk_X12_mends 10 rfl)
  · refine on_bipush (tk_X12_mends 9 rfl) bp_m2 ?_
    exact on_iret (tk_X12_mends 10 rfl)
def tb_X12_harmOf : List (Nat × Nat × Nat × Instr) := [(0, 1, 1, .aload_n 0), (1, 3, 4, .invokevirtual 412), (4, 1, 5, .istore_n 2), (5, 1, 6, .aload_n 0), (6, 1, 7, .iload_n 1), (7, 1, 8, .iconst 2), (8, 3, 11, .invokevirtual 98), (11, 1, 12, .istore_n 3), (12, 1, 13, .aload_n 0), (13, 1, 14, .iload_n 1), (14, 1, 15, .iconst 3), (15, 3, 18, .invokevirtual 98), (18, 2, 20, .istore 4), (20, 1, 21, .aload_n 0), (21, 1, 22, .iload_n 1), (22, 1, 23, .iconst (-1)), (23, 1, 24, .iconst (-1)), (24, 3, 27, .invokevirtual 348), (27, 1, 28, .aload_n 0), (28, 3, 31, .invokevirtual 412), (31, 2, 33, .istore 5), (33, 1, 34, .aload_n 0), (34, 1, 35, .iload_n 1), (35, 1, 36, .iload_n 3), (36, 2, 38, .iload 4), (38, 3, 41, .invokevirtual 348), (41, 1, 42, .iload_n 2), (42, 2, 44, .iload 5), (44, 1, 45, .isub), (45, 1, 46, .ireturn)]
set_option maxRecDepth 100000 in
theorem tk_X12_harmOf (k : Nat) {pc n pc2 : Nat} {i : Instr} (hk : tb_X12_harmOf[k]? = some (pc, n, pc2, i)) : on_dq cX12_harmOf pc n pc2 i := on_ta (by decide +kernel) k hk
theorem ms_X12_harmOf : on_Mv yX12_harmOf cX12_harmOf 6 (some .int) 1 := ⟨kw_8_223, kw_8_222, (on_mp (q := (yX12_harmOf, 37)) (by decide +kernel)), kw_1_13, by decide, by decide, by decide +kernel⟩
def pf_X12_harmOf (p0 : Int) (σ : on_S) : Option on_O :=
  on_Cl (pf_X12_allCarry σ) fun v1 σ2 =>
  on_Cl (pf_X12_ofMan p0 2 σ2) fun v3 σ4 =>
  on_Cl (pf_X12_ofMan p0 3 σ4) fun v5 σ6 =>
  on_Cl (pf_X12_putAt p0 (-1) (-1) σ6) fun _ σ8 =>
  on_Cl (pf_X12_allCarry σ8) fun v9 σ10 =>
  on_Cl (pf_X12_putAt p0 v3 v5 σ10) fun _ σ12 =>
  some ((v1 - v9), σ12)
set_option maxRecDepth 100000 in
set_option maxHeartbeats 4000000 in
theorem ct_X12_harmOf {E : on_E} {z n : Nat} {p0 : Int} (hN : 100 ≤ n) {σ : on_S} : on_Sp E yX12_harmOf cX12_harmOf 6 (some .int) 7 164 z n [.ref (z + 77), .int (on_i p0)] σ (pf_X12_harmOf p0 σ) := by
  refine on_met [some (.ref (z + 77)), some (.int (on_i p0)), none, none, none, none] (by decide) rfl rfl (fun X => ?_)
  rw [pf_X12_harmOf]
  refine on_al0 (tk_X12_harmOf 0 rfl) ?_
  refine on_cV0i 12 ms_X12_allCarry kw_8_224 rfl rfl (ltc_77 hN) sh_77 (ct_X12_allCarry hN) rfl (tk_X12_harmOf 1 rfl) fun v1 σ2 => ?_
  refine on_is2 rfl (tk_X12_harmOf 2 rfl) ?_
  refine on_al0 (tk_X12_harmOf 3 rfl) ?_
  refine on_il1 (tk_X12_harmOf 4 rfl) ?_
  refine on_iconst (tk_X12_harmOf 5 rfl) ?_
  refine on_cV2i 12 ms_X12_ofMan kw_7_175 rfl rfl (ltc_77 hN) sh_77 (ct_X12_ofMan hN) rfl (tk_X12_harmOf 6 rfl) fun v3 σ4 => ?_
  refine on_is3 rfl (tk_X12_harmOf 7 rfl) ?_
  refine on_al0 (tk_X12_harmOf 8 rfl) ?_
  refine on_il1 (tk_X12_harmOf 9 rfl) ?_
  refine on_iconst (tk_X12_harmOf 10 rfl) ?_
  refine on_cV2i 12 ms_X12_ofMan kw_7_175 rfl rfl (ltc_77 hN) sh_77 (ct_X12_ofMan hN) rfl (tk_X12_harmOf 11 rfl) fun v5 σ6 => ?_
  refine on_is4 rfl (tk_X12_harmOf 12 rfl) ?_
  refine on_al0 (tk_X12_harmOf 13 rfl) ?_
  refine on_il1 (tk_X12_harmOf 14 rfl) ?_
  refine on_iconst (tk_X12_harmOf 15 rfl) ?_
  refine on_iconst (tk_X12_harmOf 16 rfl) ?_
  refine on_cV3v 12 ms_X12_putAt kw_8_101 rfl rfl (ltc_77 hN) sh_77 (ct_X12_putAt hN) rfl (tk_X12_harmOf 17 rfl) fun v7 σ8 => ?_
  refine on_al0 (tk_X12_harmOf 18 rfl) ?_
  refine on_cV0i 12 ms_X12_allCarry kw_8_224 rfl rfl (ltc_77 hN) sh_77 (ct_X12_allCarry hN) rfl (tk_X12_harmOf 19 rfl) fun v9 σ10 => ?_
  refine on_is5 rfl (tk_X12_harmOf 20 rfl) ?_
  refine on_al0 (tk_X12_harmOf 21 rfl) ?_
  refine on_il1 (tk_X12_harmOf 22 rfl) ?_
  refine on_il3 (tk_X12_harmOf 23 rfl) ?_
  refine on_il4 (tk_X12_harmOf 24 rfl) ?_
  refine on_cV3v 12 ms_X12_putAt kw_8_101 rfl rfl (ltc_77 hN) sh_77 (ct_X12_putAt hN) rfl (tk_X12_harmOf 25 rfl) fun v11 σ12 => ?_
  refine on_il2 (tk_X12_harmOf 26 rfl) ?_
  refine on_il5 (tk_X12_harmOf 27 rfl) ?_
  refine on_isub (tk_X12_harmOf 28 rfl) ?_
  exact on_iret (tk_X12_harmOf 29 rfl)
def tb_X12_harm : List (Nat × Nat × Nat × Instr) := [(0, 1, 1, .aload_n 0), (1, 1, 2, .iload_n 1), (2, 3, 5, .invokevirtual 298), (5, 3, 8, .ifCond .eq 11), (8, 1, 9, .aload_n 0), (9, 1, 10, .iload_n 1), (10, 3, 13, .invokevirtual 415), (13, 3, 16, .goto 6), (16, 3, 19, .sipush (-1000)), (19, 1, 20, .ireturn)]
set_option maxRecDepth 100000 in
theorem tk_X12_harm (k : Nat) {pc n pc2 : Nat} {i : Instr} (hk : tb_X12_harm[k]? = some (pc, n, pc2, i)) : on_dq cX12_harm pc n pc2 i := on_ta (by decide +kernel) k hk
theorem ms_X12_harm : on_Mv yX12_harm cX12_harm 2 (some .int) 1 := ⟨kw_8_219, kw_8_217, kw_8_218, kw_1_13, by decide, by decide, by decide +kernel⟩
def pf_X12_harm (p0 : Int) (σ : on_S) : Option on_O :=
  on_Cl (pf_X12_isMan p0 σ) fun v1 σ2 =>
  on_Eq v1 0 (
    some ((-1000), σ2)) (
    on_Cl (pf_X12_harmOf p0 σ2) fun v3 σ4 =>
    some (v3, σ4))
set_option maxRecDepth 100000 in
set_option maxHeartbeats 4000000 in
theorem ct_X12_harm {E : on_E} {z n : Nat} {p0 : Int} (hN : 100 ≤ n) {σ : on_S} : on_Sp E yX12_harm cX12_harm 2 (some .int) 8 189 z n [.ref (z + 77), .int (on_i p0)] σ (pf_X12_harm p0 σ) := by
  refine on_met [some (.ref (z + 77)), some (.int (on_i p0))] (by decide) rfl rfl (fun X => ?_)
  rw [pf_X12_harm]
  refine on_al0 (tk_X12_harm 0 rfl) ?_
  refine on_il1 (tk_X12_harm 1 rfl) ?_
  refine on_cV1z 12 ms_X12_isMan kw_7_170 rfl rfl (ltc_77 hN) sh_77 (ct_X12_isMan hN) rfl (tk_X12_harm 2 rfl) fun v1 σ2 => ?_
  refine on_if_eq (tk_X12_harm 3 rfl) (tgt := 16) (by decide) ?_ ?_
  · refine on_al0 (tk_X12_harm 4 rfl) ?_
    refine on_il1 (tk_X12_harm 5 rfl) ?_
    refine on_cV1i 12 ms_X12_harmOf kw_8_220 rfl rfl (ltc_77 hN) sh_77 (ct_X12_harmOf hN) rfl (tk_X12_harm 6 rfl) fun v3 σ4 => ?_
    refine on_goto (tk_X12_harm 7 rfl) (tgt := 19) (by decide) ?_
    exact on_iret (tk_X12_harm 9 rfl)
  · refine on_sipush (tk_X12_harm 8 rfl) sp_m1000 ?_
    exact on_iret (tk_X12_harm 9 rfl)
def tb_X12_key : List (Nat × Nat × Nat × Instr) := [(0, 1, 1, .aload_n 0), (1, 3, 4, .invokevirtual 336), (4, 3, 7, .ifCond .ne 6), (7, 2, 9, .bipush (-2)), (9, 1, 10, .ireturn), (10, 1, 11, .iconst (-1)), (11, 1, 12, .istore_n 1), (12, 1, 13, .iconst 0), (13, 1, 14, .istore_n 2), (14, 1, 15, .iload_n 2), (15, 1, 16, .aload_n 0), (16, 3, 19, .getfield 9), (19, 1, 20, .iconst 3), (20, 1, 21, .iaload), (21, 3, 24, .if_icmp .ge 29), (24, 1, 25, .iload_n 1), (25, 1, 26, .iconst (-1)), (26, 3, 29, .if_icmp .eq 16), (29, 1, 30, .aload_n 0), (30, 1, 31, .iload_n 2), (31, 3, 34, .invokevirtual 415), (34, 1, 35, .aload_n 0), (35, 1, 36, .iload_n 1), (36, 3, 39, .invokevirtual 415), (39, 3, 42, .if_icmp .le 5), (42, 1, 43, .iload_n 2), (43, 1, 44, .istore_n 1), (44, 3, 47, .iinc 2 1), (47, 3, 50, .goto (-33)), (50, 1, 51, .iload_n 1), (51, 1, 52, .ireturn)]
set_option maxRecDepth 100000 in
theorem tk_X12_key (k : Nat) {pc n pc2 : Nat} {i : Instr} (hk : tb_X12_key[k]? = some (pc, n, pc2, i)) : on_dq cX12_key pc n pc2 i := on_ta (by decide +kernel) k hk
theorem ms_X12_key : on_Mv yX12_key cX12_key 3 (some .int) 0 := ⟨kw_8_231, kw_8_229, kw_8_230, kw_1_13, by decide, by decide, by decide +kernel⟩
def pf_X12_key_42 (k14 : Int → Int → on_S → Option on_O) (l2 : Int) (σ : on_S) : Option on_O :=
  k14 l2 (l2 + 1) σ
def pf_X12_key_14 : Nat → Int → Int → on_S → Option on_O
  | 0, _, _, _ => none
  | nf + 1, l1, l2, σ =>
    on_Rd σ 78 687 3 fun v3 =>
    on_Lt l2 v3 (
      on_Eq l1 (-1) (
        pf_X12_key_42 (pf_X12_key_14 nf) l2 σ) (
        on_Cl (pf_X12_harmOf l2 σ) fun v4 σ5 =>
        on_Cl (pf_X12_harmOf l1 σ5) fun v6 σ7 =>
        on_Le v4 v6 (
          pf_X12_key_14 nf l1 (l2 + 1) σ7) (
          pf_X12_key_42 (pf_X12_key_14 nf) l2 σ7))) (
      some (l1, σ))
def pf_X12_key (σ : on_S) : Option on_O :=
  on_Cl (pf_X12_isStreet σ) fun v1 σ2 =>
  on_Eq v1 0 (
    some ((-2), σ2)) (
    pf_X12_key_14 on_N (-1) 0 σ2)
set_option maxRecDepth 100000 in
set_option maxHeartbeats 4000000 in
theorem gb_X12_key_42 {E : on_E} {z n : Nat} (X : on_X) (k14 : Int → Int → on_S → Option on_O) (hN : 100 ≤ n) (hk14 : ∀ (l1 : Int) (l2 : Int) (σ : on_S), on_G X E cX12_key RX12 (some .int) 8 189 3 z n σ (k14 l1 l2 σ) 14 [some (.ref (z + 77)), some (.int (on_i l1)), some (.int (on_i l2))] []) (l2 : Int) (σ : on_S) : on_G X E cX12_key RX12 (some .int) 8 189 3 z n σ (pf_X12_key_42 k14 l2 σ) 42 [some (.ref (z + 77)), none, some (.int (on_i l2))] [] := by
  rw [pf_X12_key_42]
  refine on_il2 (tk_X12_key 25 rfl) ?_
  refine on_is1 rfl (tk_X12_key 26 rfl) ?_
  refine on_inc2 rfl (tk_X12_key 27 rfl) ?_
  refine on_goto (tk_X12_key 28 rfl) (tgt := 14) (by decide) ?_
  exact hk14 _ _ _
set_option maxRecDepth 100000 in
set_option maxHeartbeats 4000000 in
theorem gl_X12_key_14 {E : on_E} {z n : Nat} (X : on_X) (hN : 100 ≤ n) : ∀ (nf : Nat) (l1 : Int) (l2 : Int) (σ : on_S), on_G X E cX12_key RX12 (some .int) 8 189 3 z n σ (pf_X12_key_14 nf l1 l2 σ) 14 [some (.ref (z + 77)), some (.int (on_i l1)), some (.int (on_i l2))] [] := by
  intro nf
  induction nf with
  | zero => intro l1 l2 σ; exact on_none
  | succ nf ih =>
    intro l1 l2 σ
    rw [pf_X12_key_14]
    refine on_il2 (tk_X12_key 9 rfl) ?_
    refine on_al0 (tk_X12_key 10 rfl) ?_
    refine fg_12_1 hN kw_6_141 (tk_X12_key 11 rfl) ?_
    refine on_iconst (tk_X12_key 12 rfl) ?_
    refine on_iald (ltc_78 hN) sh_78 (tk_X12_key 13 rfl) fun v3 => ?_
    refine on_icmp_ge (tk_X12_key 14 rfl) (tgt := 50) (by decide) ?_ ?_
    · refine on_il1 (tk_X12_key 15 rfl) ?_
      refine on_iconst (tk_X12_key 16 rfl) ?_
      refine on_icmp_eq (tk_X12_key 17 rfl) (tgt := 42) (by decide) ?_ ?_
      · refine on_al0 (tk_X12_key 18 rfl) ?_
        refine on_il2 (tk_X12_key 19 rfl) ?_
        refine on_cV1i 12 ms_X12_harmOf kw_8_220 rfl rfl (ltc_77 hN) sh_77 (ct_X12_harmOf hN) rfl (tk_X12_key 20 rfl) fun v4 σ5 => ?_
        refine on_al0 (tk_X12_key 21 rfl) ?_
        refine on_il1 (tk_X12_key 22 rfl) ?_
        refine on_cV1i 12 ms_X12_harmOf kw_8_220 rfl rfl (ltc_77 hN) sh_77 (ct_X12_harmOf hN) rfl (tk_X12_key 23 rfl) fun v6 σ7 => ?_
        refine on_icmp_le (tk_X12_key 24 rfl) (tgt := 44) (by decide) ?_ ?_
        · refine on_dr1 ?_
          exact gb_X12_key_42 X _ hN ih _ _
        · refine on_inc2 rfl (tk_X12_key 27 rfl) ?_
          refine on_goto (tk_X12_key 28 rfl) (tgt := 14) (by decide) ?_
          exact ih _ _ _
      · refine on_dr1 ?_
        exact gb_X12_key_42 X _ hN ih _ _
    · refine on_il1 (tk_X12_key 29 rfl) ?_
      exact on_iret (tk_X12_key 30 rfl)
set_option maxRecDepth 100000 in
set_option maxHeartbeats 4000000 in
theorem ct_X12_key {E : on_E} {z n : Nat} (hN : 100 ≤ n) {σ : on_S} : on_Sp E yX12_key cX12_key 3 (some .int) 8 189 z n [.ref (z + 77)] σ (pf_X12_key  σ) := by
  refine on_met [some (.ref (z + 77)), none, none] (by decide) rfl rfl (fun X => ?_)
  rw [pf_X12_key]
  refine on_al0 (tk_X12_key 0 rfl) ?_
  refine on_cV0z 12 ms_X12_isStreet kw_8_73 rfl rfl (ltc_77 hN) sh_77 (ct_X12_isStreet hN) rfl (tk_X12_key 1 rfl) fun v1 σ2 => ?_
  refine on_if_ne (tk_X12_key 2 rfl) (tgt := 10) (by decide) ?_ ?_
  · refine on_bipush (tk_X12_key 3 rfl) bp_m2 ?_
    exact on_iret (tk_X12_key 4 rfl)
  · refine on_iconst (tk_X12_key 5 rfl) ?_
    refine on_is1 rfl (tk_X12_key 6 rfl) ?_
    refine on_iconst (tk_X12_key 7 rfl) ?_
    refine on_is2 rfl (tk_X12_key 8 rfl) ?_
    exact gl_X12_key_14 X  hN on_N _ _ _
