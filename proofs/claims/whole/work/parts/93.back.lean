/-! an image gone back to -/
def tb_X11_back : List (Nat × Nat × Nat × Instr) := [(0, 1, 1, .iload_n 1), (1, 3, 4, .ifCond .lt 8), (4, 1, 5, .iload_n 1), (5, 1, 6, .iconst 3), (6, 3, 9, .if_icmp .lt 6), (9, 2, 11, .bipush (-2)), (11, 1, 12, .ireturn), (12, 1, 13, .aload_n 0), (13, 3, 16, .getfield 32), (16, 1, 17, .iload_n 1), (17, 1, 18, .aaload), (18, 1, 19, .astore_n 2), (19, 1, 20, .aload_n 2), (20, 3, 23, .ifnonnull 6), (23, 2, 25, .bipush (-6)), (25, 1, 26, .ireturn), (26, 1, 27, .aload_n 0), (27, 3, 30, .getfield 16), (30, 1, 31, .aload_n 2), (31, 3, 34, .invokevirtual 96), (34, 1, 35, .iconst 0), (35, 1, 36, .ireturn)]
set_option maxRecDepth 100000 in
theorem tk_X11_back (k : Nat) {pc n pc2 : Nat} {i : Instr} (hk : tb_X11_back[k]? = some (pc, n, pc2, i)) : on_dq cX11_back pc n pc2 i := on_ta (by decide +kernel) k hk
def on_SbB (n b : Nat) : Bool := decide (b + 24 < n) && (decide (100 ≤ b) && decide ((b - 100) % 25 = 0))
theorem on_SbB_of {n b : Nat} (h : on_SbB n b = true) : on_Sb n b := by
  simp only [on_SbB, Bool.and_eq_true, decide_eq_true_eq] at h
  exact ⟨h.1, Or.inr (Or.inr ⟨(b - 100) / 25, by omega⟩)⟩
theorem on_SbB_at {n j : Nat} (h : 100 + 25 * j + 24 < n) : on_SbB n (100 + 25 * j) = true := by
  simp only [on_SbB, Bool.and_eq_true, decide_eq_true_eq]
  omega
/-- the images' row: none kept, or a street's first cell -/
def on_Im (n : Nat) (σ : on_S) (i : Int) (kN : Option on_O) (kS : Nat → Option on_O) : Option on_O := if 0 ≤ i ∧ i < 3 then (if σ 53 i = 0 then kN else if on_SbB n (σ 53 i).toNat = true then kS (σ 53 i).toNat else none) else none
theorem on_rr_at {z : Nat} {r : Int → Int} {i : Int} (h : 0 ≤ i) : on_rr z r i.toNat = if r i = 0 then none else some (z + (r i).toNat) := by
  unfold on_rr; rw [Int.toNat_of_nonneg h]
section IMG
variable {X : on_X} {E : on_E} {cc : ByteArray} {own : String} {rt : Option FieldType} {fr lo nL z n : Nat} {σ : on_S} {pc p1 p2 p3 p4 tgt : Nat} {rest : List Value}
theorem on_aaS {i off : Int} {kN : Option on_O} {kS : Nat → Option on_O} {a0 a1 a : Option Value} {t : List (Option Value)} (hN : 100 ≤ n) (hc : on_c1 a1 = true) (hd : on_dq cc pc 1 p1 .aaload) (hd1 : on_dq cc p1 1 p2 (.astore_n 2)) (hd2 : on_dq cc p2 1 p3 (.aload_n 2)) (hd3 : on_dq cc p3 3 p4 (.ifnonnull off)) (ht : (p3 : Int) + off = (tgt : Int)) (kn : on_G X E cc own rt fr lo nL z n σ kN p4 (a0 :: a1 :: some .null :: t) rest) (ks : ∀ b : Nat, on_Sb n b → on_G X E cc own rt fr lo nL z n σ (kS b) tgt (a0 :: a1 :: some (.ref (z + b)) :: t) rest) : on_G X E cc own rt fr lo nL z n σ (on_Im n σ i kN kS) pc (a0 :: a1 :: a :: t) (.int (on_i i) :: .ref (z + 53) :: rest) := by
  refine on_lvl fun hlen => ?_
  have ho : ∀ j, j + 1 = 2 → ∀ w, (a0 :: a1 :: a :: t)[j]? = some (some w) → w.category = 1 := on_c1_ho (i := 1) rfl hc
  have hi : 2 < nL := by rw [← hlen]; simp only [List.length_cons]; omega
  by_cases hr : 0 ≤ i ∧ i < 3
  · by_cases h0 : σ 53 i = 0
    · obtain ⟨p, e, R, s, m, args, below, meth, c, out⟩ := X
      intro hC hx H locs ls hP hS hl
      obtain ⟨cx, cb, cm, co, ct, cK, cE, ck, cr, cR, cz⟩ := id hC
      obtain ⟨hd, rfl⟩ := hd
      obtain ⟨hd1, rfl⟩ := hd1
      obtain ⟨hd2, rfl⟩ := hd2
      obtain ⟨hd3, rfl⟩ := hd3
      unfold on_Im at hx
      rw [if_pos hr, if_pos h0] at hx
      refine va_aldq cx cb cK hP.2 53 4 ((on_ws_at E z σ (ltc_53 hN)).trans (by rw [on_ce5 sh_53])) rfl (on_i_in hr.1 hr.2 (by decide)) hd ?_
      have e : (on_i i).toNatClampNeg = i.toNat := by
        have := on_i_nat hr.1 (show i < 2147483648 by omega)
        omega
      rw [e, on_rr_at hr.1, if_pos h0]
      refine lv_astore_nN cx cb hd1 rfl (on_L_has hl) hi rfl (fun ls2 h2 => ?_)
      have hl2 : on_L ls2 nL (a0 :: a1 :: some .null :: t) := on_L_st1 hl hi ho h2
      refine lv_aload_nN cx cb hd2 rfl (on_L_get hl2 2 rfl) ?_
      refine lv_ifnonnullN cx cb hd3 ?_
      exact kn hC hx H locs ls2 hP hS hl2
    · by_cases hb : on_SbB n (σ 53 i).toNat = true
      · have ks := ks _ (on_SbB_of hb)
        obtain ⟨p, e, R, s, m, args, below, meth, c, out⟩ := X
        intro hC hx H locs ls hP hS hl
        obtain ⟨cx, cb, cm, co, ct, cK, cE, ck, cr, cR, cz⟩ := id hC
        obtain ⟨hd, rfl⟩ := hd
        obtain ⟨hd1, rfl⟩ := hd1
        obtain ⟨hd2, rfl⟩ := hd2
        obtain ⟨hd3, rfl⟩ := hd3
        unfold on_Im at hx
        rw [if_pos hr, if_neg h0, if_pos hb] at hx
        refine va_aldq cx cb cK hP.2 53 4 ((on_ws_at E z σ (ltc_53 hN)).trans (by rw [on_ce5 sh_53])) rfl (on_i_in hr.1 hr.2 (by decide)) hd ?_
        have e : (on_i i).toNatClampNeg = i.toNat := by
          have := on_i_nat hr.1 (show i < 2147483648 by omega)
          omega
        rw [e, on_rr_at hr.1, if_neg h0]
        refine lv_astore_n cx cb hd1 rfl (on_L_has hl) hi rfl (fun ls2 h2 => ?_)
        have hl2 : on_L ls2 nL (a0 :: a1 :: some (.ref (z + (σ 53 i).toNat)) :: t) := on_L_st1 hl hi ho h2
        refine lv_aload_n cx cb hd2 rfl (on_L_get hl2 2 rfl) ?_
        refine lv_ifnonnull cx cb hd3 ht ?_
        exact ks hC hx H locs ls2 hP hS hl2
      · unfold on_Im
        rw [if_pos hr, if_neg h0, if_neg hb]
        exact on_none
  · unfold on_Im
    rw [if_neg hr]
    exact on_none
end IMG
def pf_X11_back (n : Nat) (p0 : Int) (σ : on_S) : Option on_O :=
  on_Lt p0 0 (some ((-2), σ)) (
    on_Lt p0 3 (
      on_Im n σ p0 (some ((-6), σ)) fun b =>
        on_Cl (pf_X9_copyFrom 2 b σ) fun _ σ2 => some (0, σ2)) (
      some ((-2), σ)))
set_option maxRecDepth 100000 in
set_option maxHeartbeats 4000000 in
theorem ct_X11_back {E : on_E} {z n : Nat} {p0 : Int} (hN : 100 ≤ n) {σ : on_S} : on_Sp E yX11_back cX11_back 3 (some .int) 3 68 z n [.ref (z + 0), .int (on_i p0)] σ (pf_X11_back n p0 σ) := by
  refine on_met [some (.ref (z + 0)), some (.int (on_i p0)), none] (by decide) rfl rfl (fun X => ?_)
  rw [pf_X11_back]
  refine on_il1 (tk_X11_back 0 rfl) ?_
  refine on_if_lt (tk_X11_back 1 rfl) (tgt := 9) (by decide) ?_ ?_
  · refine on_il1 (tk_X11_back 2 rfl) ?_
    refine on_iconst (tk_X11_back 3 rfl) ?_
    refine on_icmp_lt (tk_X11_back 4 rfl) (tgt := 12) (by decide) ?_ ?_
    · refine on_bipush (tk_X11_back 5 rfl) bp_m2 ?_
      exact on_iret (tk_X11_back 6 rfl)
    · refine on_al0 (tk_X11_back 7 rfl) ?_
      refine fg_11_5 hN kw_2_184 (tk_X11_back 8 rfl) ?_
      refine on_il1 (tk_X11_back 9 rfl) ?_
      refine on_aaS hN rfl (tk_X11_back 10 rfl) (tk_X11_back 11 rfl) (tk_X11_back 12 rfl) (tk_X11_back 13 rfl) (tgt := 26) (by decide) ?_ (fun b hb => ?_)
      · refine on_bipush (tk_X11_back 14 rfl) bp_m6 ?_
        exact on_iret (tk_X11_back 15 rfl)
      · refine on_al0 (tk_X11_back 16 rfl) ?_
        refine fg_11_2 hN kw_2_181 (tk_X11_back 17 rfl) ?_
        refine on_al2 (tk_X11_back 18 rfl) ?_
        refine on_cV1v 9 ms_X9_copyFrom kw_3_185 rfl rfl (ltS_0 (on_Sb2 hN)) (shS_0 (on_Sb2 hN)) (ct_X9_copyFrom hN (on_Sb2 hN) hb) rfl (tk_X11_back 19 rfl) fun v6 σ7 => ?_
        refine on_iconst (tk_X11_back 20 rfl) ?_
        exact on_iret (tk_X11_back 21 rfl)
  · refine on_bipush (tk_X11_back 5 rfl) bp_m2 ?_
    exact on_iret (tk_X11_back 6 rfl)
