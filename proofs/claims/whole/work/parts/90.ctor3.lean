/-! constructors: the rings' table of rows -/
def dX7_init : List (Nat × Nat × Nat × Instr) := [(0, 1, 1, .aload_n 0), (1, 3, 4, .invokespecial 3), (4, 1, 5, .aload_n 0), (5, 3, 8, .sipush 378), (8, 2, 10, .newarray .int), (10, 3, 13, .putfield 11), (13, 1, 14, .aload_n 0), (14, 2, 16, .bipush 9), (16, 2, 18, .newarray .int), (18, 3, 21, .putfield 15), (21, 1, 22, .aload_n 0), (22, 2, 24, .bipush 16), (24, 2, 26, .newarray .int), (26, 3, 29, .putfield 18), (29, 1, 30, .aload_n 0), (30, 1, 31, .aload_n 1), (31, 3, 34, .putfield 21), (34, 1, 35, .iconst 0), (35, 1, 36, .istore_n 2), (36, 1, 37, .iconst 0), (37, 1, 38, .istore_n 3), (38, 1, 39, .iload_n 3), (39, 2, 41, .bipush 9), (41, 3, 44, .if_icmp .ge (112)), (44, 1, 45, .iload_n 3), (45, 1, 46, .iconst 1), (46, 1, 47, .iadd), (47, 2, 49, .istore 4), (49, 2, 51, .iload 4), (51, 2, 53, .bipush 9), (53, 3, 56, .if_icmp .ge (94)), (56, 1, 57, .iload_n 3), (57, 1, 58, .iconst 1), (58, 1, 59, .iadd), (59, 2, 61, .istore 5), (61, 2, 63, .iload 5), (63, 2, 65, .bipush 9), (65, 3, 68, .if_icmp .ge (76)), (68, 2, 70, .iload 4), (70, 1, 71, .iconst 1), (71, 1, 72, .iadd), (72, 2, 74, .istore 6), (74, 2, 76, .iload 6), (76, 2, 78, .bipush 9), (78, 3, 81, .if_icmp .ge (57)), (81, 2, 83, .iload 5), (83, 2, 85, .iload 4), (85, 3, 88, .if_icmp .eq (44)), (88, 2, 90, .iload 5), (90, 2, 92, .iload 6), (92, 3, 95, .if_icmp .eq (37)), (95, 1, 96, .iload_n 2), (96, 3, 99, .sipush 378), (99, 3, 102, .if_icmp .ge (30)), (102, 1, 103, .aload_n 0), (103, 3, 106, .getfield 11), (106, 1, 107, .iload_n 2), (107, 1, 108, .iload_n 3), (108, 2, 110, .bipush 12), (110, 1, 111, .ishl), (111, 2, 113, .iload 4), (113, 2, 115, .bipush 8), (115, 1, 116, .ishl), (116, 1, 117, .ior), (117, 2, 119, .iload 5), (119, 1, 120, .iconst 4), (120, 1, 121, .ishl), (121, 1, 122, .ior), (122, 2, 124, .iload 6), (124, 1, 125, .ior), (125, 1, 126, .iastore), (126, 3, 129, .iinc 2 1), (129, 3, 132, .iinc 6 1), (132, 3, 135, .goto (-58)), (135, 3, 138, .iinc 5 1), (138, 3, 141, .goto (-77)), (141, 3, 144, .iinc 4 1), (144, 3, 147, .goto (-95)), (147, 3, 150, .iinc 3 1), (150, 3, 153, .goto (-112)), (153, 1, 154, .return_)]
theorem tX7_init : on_tab cX7_init dX7_init = true := by decide +kernel
def dfX7 : List Value := [.null, .null, .null, .null, .int 0, .int 0]
theorem dfX7_ok : ∀ j, j < 6 → defaultValue (tyX7 j) = vp_V dfX7 j := fun j hj => by
  have h : j = 0 ∨ j = 1 ∨ j = 2 ∨ j = 3 ∨ j = 4 ∨ j = 5 := by omega
  rcases h with h | h | h | h | h | h <;> subst h <;> rfl
def rgv (a b c d : Int) : Int := on_or (on_or (on_or (on_shl a 12) (on_shl b 8)) (on_shl c 4)) d
def rg4 (a b c : Int) : Nat → Int → List Int → List Int
  | 0, _, s => s
  | n + 1, d, s => if d < 9 then rg4 a b c n (d + 1) (if c ≠ b ∧ c ≠ d ∧ s.length < 378 then s ++ [rgv a b c d] else s) else s
def rg3 (a b : Int) : Nat → Int → List Int → List Int
  | 0, _, s => s
  | n + 1, c, s => if c < 9 then rg3 a b n (c + 1) (rg4 a b c 10 (b + 1) s) else s
def rg2 (a : Int) : Nat → Int → List Int → List Int
  | 0, _, s => s
  | n + 1, b, s => if b < 9 then rg2 a n (b + 1) (rg3 a b 10 (a + 1) s) else s
def rg1 : Nat → Int → List Int → List Int
  | 0, _, s => s
  | n + 1, a, s => if a < 9 then rg1 n (a + 1) (rg2 a 10 (a + 1) s) else s
set_option maxRecDepth 100000 in
theorem rg_all : rg1 10 0 [] = on_rowsT.map (fun v : Nat => (v : Int)) := by decide +kernel
theorem rg4_len (a b c : Int) : ∀ (n : Nat) (d : Int) (s : List Int), s.length ≤ 378 → (rg4 a b c n d s).length ≤ 378 := by
  intro n
  induction n with
  | zero => intro d s h; exact h
  | succ n ih =>
    intro d s h
    rw [rg4]
    split
    · refine ih _ _ ?_
      split
      · rename_i hh; rw [List.length_append]; exact hh.2.2
      · exact h
    · exact h
theorem rg3_len (a b : Int) : ∀ (n : Nat) (c : Int) (s : List Int), s.length ≤ 378 → (rg3 a b n c s).length ≤ 378 := by
  intro n
  induction n with
  | zero => intro c s h; exact h
  | succ n ih =>
    intro c s h
    rw [rg3]
    split
    · exact ih _ _ (rg4_len a b c 10 (b + 1) s h)
    · exact h
theorem rg2_len (a : Int) : ∀ (n : Nat) (b : Int) (s : List Int), s.length ≤ 378 → (rg2 a n b s).length ≤ 378 := by
  intro n
  induction n with
  | zero => intro b s h; exact h
  | succ n ih =>
    intro b s h
    rw [rg2]
    split
    · exact ih _ _ (rg3_len a b 10 (a + 1) s h)
    · exact h
def rgT (s : List Int) : Nat → Int32 := fun x => on_i (s.getD x 0)
theorem rgT_up {s : List Int} {v : Int} : upd (rgT s) s.length (on_i v) = rgT (s ++ [v]) := by
  funext x
  unfold upd rgT
  by_cases h : x = s.length
  · rw [if_pos h, h, List.getD_eq_getElem?_getD, List.getElem?_append_right (Nat.le_refl _), Nat.sub_self]; rfl
  · rw [if_neg h, List.getD_eq_getElem?_getD, List.getD_eq_getElem?_getD]
    by_cases l : x < s.length
    · rw [List.getElem?_append_left l]
    · rw [List.getElem?_eq_none (by omega), List.getElem?_eq_none (by rw [List.length_append]; show s.length + 1 ≤ x; omega)]
section ONR
variable {Y : on_Y} {E : on_E} {cc : ByteArray} {own : String} {fr lo nL mc ms z o ks : Nat} {Lf : List va_E} {e0 : va_E} {L : List va_E} {pc pc2 tgt : Nat} {lv : List (Option Value)} {st rest : List Value} {a b : Int}
theorem oj_get (ci k : Nat) {T : u_T} {N idx : Nat} {fs : List Value} {v : Value} (hin : ∀ w ∈ u_ws own T N, w ∈ on_T) (hq : vwCl[ci]? = some (own, T, N)) (hk : k < N) (hw : Cond.fieldLink own idx (T k).1 (T k).2.1 (T k).2.2.1 ∈ on_T) (hv : fs[k]? = some v) (hd : on_dq cc pc 3 pc2 (.getfield idx)) (kk : on_J Y E cc own fr lo nL mc ms z o Lf ks (.inr (ci, fs)) L pc2 lv (v :: rest)) : on_J Y E cc own fr lo nL mc ms z o Lf ks (.inr (ci, fs)) L pc lv (.ref (z + o) :: rest) := by
  obtain ⟨p, e, R, s, m, args, below, meth, c⟩ := Y
  intro hC H locs ls hP hS hl
  obtain ⟨cx, cb, cm, co, ct, cK, cE, ck, cr, cR, cz, cn⟩ := id hC
  obtain ⟨hd, rfl⟩ := hd
  exact va_get (ref := (T k).1) cx cb ct hin co cK hP.2 0 (on_wl_at z _ o 0 _ rfl) hq k hk (ct _ hw) (fun _ h => h) hv hd (kk hC H locs ls hP hS hl)
theorem oj_iast {j N : Nat} {f : Nat → Int32} {i v : Int} (hL : L[j]? = some (.inl (on_ca E 0, (N, .inl f)))) (h0 : 0 ≤ i) (h1 : i < (N : Int)) (hN : N < 30000) (hd : on_dq cc pc 1 pc2 .iastore) (k : on_J Y E cc own fr lo nL mc ms z o Lf ks e0 (L.set j (.inl (on_ca E 0, (N, .inl (upd f i.toNat (on_i v)))))) pc2 lv rest) : on_J Y E cc own fr lo nL mc ms z o Lf ks e0 L pc lv (.int (on_i v) :: .int (on_i i) :: .ref (z + (o + (j + 1))) :: rest) := by
  obtain ⟨p, e, R, s, m, args, below, meth, c⟩ := Y
  intro hC H locs ls hP hS hl'
  obtain ⟨cx, cb, cm, co, ct, cK, cE, ck, cr, cR, cz, cn⟩ := id hC
  obtain ⟨hd, rfl⟩ := hd
  have hi : (on_i i).toNatClampNeg = i.toNat := by have := on_i_nat h0 (show i < 2147483648 by omega); omega
  refine va_iast cx cb cK hP.2 (on_wl_D z o _) hS (j + 1) 0 (on_wl_at z (e0 :: L) o (j + 1) _ hL) rfl (on_i_in h0 h1 (by omega)) hd (fun H1 locs1 g1 _ g3 => ?_)
  rw [on_wl_set, hi] at g1
  have g1 : va_P E.2.1 vwCl (on_wl z o (e0 :: L.set j (.inl (on_ca E 0, (N, .inl (upd f i.toNat (on_i v))))))) H1 := g1
  have el : (L.set j (.inl (on_ca E 0, (N, .inl (upd f i.toNat (on_i v)))))).length = L.length := List.length_set
  refine oj_size cz ?_ (fun hz => ?_)
  · obtain ⟨x, hx⟩ : ∃ x, (on_wl z o (e0 :: L.set j (.inl (on_ca E 0, (N, .inl (upd f i.toNat (on_i v)))))))[L.length]? = some x := ⟨_, List.getElem?_eq_getElem (by rw [on_wl_len, List.length_cons, el]; exact Nat.lt_succ_self _)⟩
    have h2 := (g1 L.length x hx).lt
    obtain ⟨e, -, rfl⟩ := on_wl_inv hx
    simp only at h2
    omega
  · have K := k hC H1 locs1 ls ⟨by rw [hz, List.length_cons, el]; omega, g1⟩ g3 hl'
    rw [el] at K
    exact K
end ONR
section ONR7
variable {Y : on_Y} {E : on_E} {z o a1 : Nat} {Lf : List va_E}
theorem rgJ4 {a b c : Int} (ha : 0 ≤ a ∧ a < 9) (hb : 0 ≤ b ∧ b < 9) (hc : 0 ≤ c ∧ c < 9) : ∀ (n : Nat) (d : Int) (s : List Int), 0 ≤ d ∧ d ≤ 9 → 9 - d < (n : Int) → s.length ≤ 378 → (∀ x6 : Option Value, on_J Y E cX7_init "OppositeNets$Rings" 1 12 7 3 403 z o Lf 403 (.inr (7, [.ref a1, .ref (z + (o + 1)), .ref (z + (o + 2)), .ref (z + (o + 3)), .int 0, .int 0])) [.inl (on_ca E 0, (378, .inl (rgT (rg4 a b c n d s)))), .inl (on_ca E 0, (9, .inl fun _ => 0)), .inl (on_ca E 0, (16, .inl fun _ => 0))] 135 [some (.ref (z + o)), some (.ref a1), some (.int (on_i ((rg4 a b c n d s).length : Int))), some (.int (on_i a)), some (.int (on_i b)), some (.int (on_i c)), x6] []) → on_J Y E cX7_init "OppositeNets$Rings" 1 12 7 3 403 z o Lf 403 (.inr (7, [.ref a1, .ref (z + (o + 1)), .ref (z + (o + 2)), .ref (z + (o + 3)), .int 0, .int 0])) [.inl (on_ca E 0, (378, .inl (rgT s))), .inl (on_ca E 0, (9, .inl fun _ => 0)), .inl (on_ca E 0, (16, .inl fun _ => 0))] 74 [some (.ref (z + o)), some (.ref a1), some (.int (on_i (s.length : Int))), some (.int (on_i a)), some (.int (on_i b)), some (.int (on_i c)), some (.int (on_i d))] [] := by
  intro n
  induction n with
  | zero => intro d s d0 hn hs k; exact absurd hn (by omega)
  | succ n ih =>
    intro d s d0 hn hs k
    refine oj_iload 6 rfl (on_ta tX7_init 42 rfl) ?_
    refine oj_bipush (on_ta tX7_init 43 rfl) rfl ?_
    refine oj_icge (on_ta tX7_init 44 rfl) rfl (by omega) (by omega) (fun lt => ?_) (fun ge => ?_)
    · rw [rg4, if_pos lt] at k
      have nx : ∀ {s' : List Int}, on_J Y E cX7_init "OppositeNets$Rings" 1 12 7 3 403 z o Lf 403 (.inr (7, [.ref a1, .ref (z + (o + 1)), .ref (z + (o + 2)), .ref (z + (o + 3)), .int 0, .int 0])) [.inl (on_ca E 0, (378, .inl (rgT s'))), .inl (on_ca E 0, (9, .inl fun _ => 0)), .inl (on_ca E 0, (16, .inl fun _ => 0))] 74 [some (.ref (z + o)), some (.ref a1), some (.int (on_i (s'.length : Int))), some (.int (on_i a)), some (.int (on_i b)), some (.int (on_i c)), some (.int (on_i (d + 1)))] [] → on_J Y E cX7_init "OppositeNets$Rings" 1 12 7 3 403 z o Lf 403 (.inr (7, [.ref a1, .ref (z + (o + 1)), .ref (z + (o + 2)), .ref (z + (o + 3)), .int 0, .int 0])) [.inl (on_ca E 0, (378, .inl (rgT s'))), .inl (on_ca E 0, (9, .inl fun _ => 0)), .inl (on_ca E 0, (16, .inl fun _ => 0))] 129 [some (.ref (z + o)), some (.ref a1), some (.int (on_i (s'.length : Int))), some (.int (on_i a)), some (.int (on_i b)), some (.int (on_i c)), some (.int (on_i d))] [] := fun kk => by
        refine oj_iincg 6 rfl (by decide) (on_c1_ho (i := 5) rfl rfl) (on_ta tX7_init 72 rfl) ?_
        refine oj_goto (on_ta tX7_init 73 rfl) rfl ?_
        exact kk
      have go : on_J Y E cX7_init "OppositeNets$Rings" 1 12 7 3 403 z o Lf 403 (.inr (7, [.ref a1, .ref (z + (o + 1)), .ref (z + (o + 2)), .ref (z + (o + 3)), .int 0, .int 0])) [.inl (on_ca E 0, (378, .inl (rgT (if c ≠ b ∧ c ≠ d ∧ s.length < 378 then s ++ [rgv a b c d] else s)))), .inl (on_ca E 0, (9, .inl fun _ => 0)), .inl (on_ca E 0, (16, .inl fun _ => 0))] 74 [some (.ref (z + o)), some (.ref a1), some (.int (on_i ((if c ≠ b ∧ c ≠ d ∧ s.length < 378 then s ++ [rgv a b c d] else s).length : Int))), some (.int (on_i a)), some (.int (on_i b)), some (.int (on_i c)), some (.int (on_i (d + 1)))] [] := by
        refine ih (d + 1) (if c ≠ b ∧ c ≠ d ∧ s.length < 378 then s ++ [rgv a b c d] else s) (by omega) (by omega) ?_ k
        split
        · rename_i hh; rw [List.length_append]; exact hh.2.2
        · exact hs
      refine oj_iload 5 rfl (on_ta tX7_init 45 rfl) ?_
      refine oj_iload 4 rfl (on_ta tX7_init 46 rfl) ?_
      refine oj_iceq (on_ta tX7_init 47 rfl) rfl (by omega) (by omega) (fun n1 => ?_) (fun e1 => ?_)
      · refine oj_iload 5 rfl (on_ta tX7_init 48 rfl) ?_
        refine oj_iload 6 rfl (on_ta tX7_init 49 rfl) ?_
        refine oj_iceq (on_ta tX7_init 50 rfl) rfl (by omega) (by omega) (fun n2 => ?_) (fun e2 => ?_)
        · refine oj_iloadn 2 rfl rfl (on_ta tX7_init 51 rfl) ?_
          refine oj_sipush (on_ta tX7_init 52 rfl) rfl ?_
          refine oj_icge (on_ta tX7_init 53 rfl) rfl (by omega) (by omega) (fun l3 => ?_) (fun g3 => ?_)
          · rw [if_pos ⟨n1, n2, by omega⟩] at go
            refine oj_aloadn 0 rfl rfl (on_ta tX7_init 54 rfl) ?_
            refine oj_get 7 1 (N := 6) on_in7 rfl (by decide) kw_2_42 rfl (on_ta tX7_init 55 rfl) ?_
            refine oj_iloadn 2 rfl rfl (on_ta tX7_init 56 rfl) ?_
            refine oj_iloadn 3 rfl rfl (on_ta tX7_init 57 rfl) ?_
            refine oj_bipush (on_ta tX7_init 58 rfl) rfl ?_
            refine oj_ishl (on_ta tX7_init 59 rfl) ?_
            refine oj_iload 4 rfl (on_ta tX7_init 60 rfl) ?_
            refine oj_bipush (on_ta tX7_init 61 rfl) rfl ?_
            refine oj_ishl (on_ta tX7_init 62 rfl) ?_
            refine oj_ior (on_ta tX7_init 63 rfl) ?_
            refine oj_iload 5 rfl (on_ta tX7_init 64 rfl) ?_
            refine oj_iconst (on_ta tX7_init 65 rfl) ?_
            refine oj_ishl (on_ta tX7_init 66 rfl) ?_
            refine oj_ior (on_ta tX7_init 67 rfl) ?_
            refine oj_iload 6 rfl (on_ta tX7_init 68 rfl) ?_
            refine oj_ior (on_ta tX7_init 69 rfl) ?_
            refine oj_iast (j := 0) (N := 378) (f := rgT s) (i := (s.length : Int)) (v := rgv a b c d) rfl (by omega) (by omega) (by decide) (on_ta tX7_init 70 rfl) ?_
            rw [show ((s.length : Int)).toNat = s.length from rfl, rgT_up]
            refine oj_iincg 2 rfl (by decide) (on_c1_ho (i := 1) rfl rfl) (on_ta tX7_init 71 rfl) ?_
            rw [show (s.length : Int) + 1 = ((s ++ [rgv a b c d]).length : Int) by rw [List.length_append]; rfl]
            exact nx go
          · rw [if_neg (by omega)] at go
            exact nx go
        · rw [if_neg (by omega)] at go
          exact nx go
      · rw [if_neg (by omega)] at go
        exact nx go
    · rw [rg4, if_neg (by omega)] at k
      exact k _
theorem rgJ3 {a b : Int} (ha : 0 ≤ a ∧ a < 9) (hb : 0 ≤ b ∧ b < 9) : ∀ (n : Nat) (c : Int) (s : List Int) (x6 : Option Value), 0 ≤ c ∧ c ≤ 9 → 9 - c < (n : Int) → s.length ≤ 378 → (∀ x5 x6 : Option Value, on_J Y E cX7_init "OppositeNets$Rings" 1 12 7 3 403 z o Lf 403 (.inr (7, [.ref a1, .ref (z + (o + 1)), .ref (z + (o + 2)), .ref (z + (o + 3)), .int 0, .int 0])) [.inl (on_ca E 0, (378, .inl (rgT (rg3 a b n c s)))), .inl (on_ca E 0, (9, .inl fun _ => 0)), .inl (on_ca E 0, (16, .inl fun _ => 0))] 141 [some (.ref (z + o)), some (.ref a1), some (.int (on_i ((rg3 a b n c s).length : Int))), some (.int (on_i a)), some (.int (on_i b)), x5, x6] []) → on_J Y E cX7_init "OppositeNets$Rings" 1 12 7 3 403 z o Lf 403 (.inr (7, [.ref a1, .ref (z + (o + 1)), .ref (z + (o + 2)), .ref (z + (o + 3)), .int 0, .int 0])) [.inl (on_ca E 0, (378, .inl (rgT s))), .inl (on_ca E 0, (9, .inl fun _ => 0)), .inl (on_ca E 0, (16, .inl fun _ => 0))] 61 [some (.ref (z + o)), some (.ref a1), some (.int (on_i (s.length : Int))), some (.int (on_i a)), some (.int (on_i b)), some (.int (on_i c)), x6] [] := by
  intro n
  induction n with
  | zero => intro c s x6 c0 hn hs k; exact absurd hn (by omega)
  | succ n ih =>
    intro c s x6 c0 hn hs k
    refine oj_iload 5 rfl (on_ta tX7_init 35 rfl) ?_
    refine oj_bipush (on_ta tX7_init 36 rfl) rfl ?_
    refine oj_icge (on_ta tX7_init 37 rfl) rfl (by omega) (by omega) (fun lt => ?_) (fun ge => ?_)
    · rw [rg3, if_pos lt] at k
      refine oj_iload 4 rfl (on_ta tX7_init 38 rfl) ?_
      refine oj_iconst (on_ta tX7_init 39 rfl) ?_
      refine oj_iadd (on_ta tX7_init 40 rfl) ?_
      refine oj_istore 6 (by decide) (on_c1_ho (i := 5) rfl rfl) (on_ta tX7_init 41 rfl) ?_
      refine rgJ4 ha hb ⟨c0.1, lt⟩ 10 (b + 1) s (by omega) (by omega) hs (fun y6 => ?_)
      refine oj_iincg 5 rfl (by decide) (on_c1_ho (i := 4) rfl rfl) (on_ta tX7_init 74 rfl) ?_
      refine oj_goto (on_ta tX7_init 75 rfl) rfl ?_
      exact ih (c + 1) _ y6 (by omega) (by omega) (rg4_len a b c 10 (b + 1) s hs) k
    · rw [rg3, if_neg (by omega)] at k
      exact k _ _
theorem rgJ2 {a : Int} (ha : 0 ≤ a ∧ a < 9) : ∀ (n : Nat) (b : Int) (s : List Int) (x5 x6 : Option Value), 0 ≤ b ∧ b ≤ 9 → 9 - b < (n : Int) → s.length ≤ 378 → (∀ x4 x5 x6 : Option Value, on_J Y E cX7_init "OppositeNets$Rings" 1 12 7 3 403 z o Lf 403 (.inr (7, [.ref a1, .ref (z + (o + 1)), .ref (z + (o + 2)), .ref (z + (o + 3)), .int 0, .int 0])) [.inl (on_ca E 0, (378, .inl (rgT (rg2 a n b s)))), .inl (on_ca E 0, (9, .inl fun _ => 0)), .inl (on_ca E 0, (16, .inl fun _ => 0))] 147 [some (.ref (z + o)), some (.ref a1), some (.int (on_i ((rg2 a n b s).length : Int))), some (.int (on_i a)), x4, x5, x6] []) → on_J Y E cX7_init "OppositeNets$Rings" 1 12 7 3 403 z o Lf 403 (.inr (7, [.ref a1, .ref (z + (o + 1)), .ref (z + (o + 2)), .ref (z + (o + 3)), .int 0, .int 0])) [.inl (on_ca E 0, (378, .inl (rgT s))), .inl (on_ca E 0, (9, .inl fun _ => 0)), .inl (on_ca E 0, (16, .inl fun _ => 0))] 49 [some (.ref (z + o)), some (.ref a1), some (.int (on_i (s.length : Int))), some (.int (on_i a)), some (.int (on_i b)), x5, x6] [] := by
  intro n
  induction n with
  | zero => intro b s x5 x6 c0 hn hs k; exact absurd hn (by omega)
  | succ n ih =>
    intro b s x5 x6 c0 hn hs k
    refine oj_iload 4 rfl (on_ta tX7_init 28 rfl) ?_
    refine oj_bipush (on_ta tX7_init 29 rfl) rfl ?_
    refine oj_icge (on_ta tX7_init 30 rfl) rfl (by omega) (by omega) (fun lt => ?_) (fun ge => ?_)
    · rw [rg2, if_pos lt] at k
      refine oj_iloadn 3 rfl rfl (on_ta tX7_init 31 rfl) ?_
      refine oj_iconst (on_ta tX7_init 32 rfl) ?_
      refine oj_iadd (on_ta tX7_init 33 rfl) ?_
      refine oj_istore 5 (by decide) (on_c1_ho (i := 4) rfl rfl) (on_ta tX7_init 34 rfl) ?_
      refine rgJ3 ha ⟨c0.1, lt⟩ 10 (a + 1) s x6 (by omega) (by omega) hs (fun y5 y6 => ?_)
      refine oj_iincg 4 rfl (by decide) (on_c1_ho (i := 3) rfl rfl) (on_ta tX7_init 76 rfl) ?_
      refine oj_goto (on_ta tX7_init 77 rfl) rfl ?_
      exact ih (b + 1) _ y5 y6 (by omega) (by omega) (rg3_len a b 10 (a + 1) s hs) k
    · rw [rg2, if_neg (by omega)] at k
      exact k _ _ _
theorem rgJ1 : ∀ (n : Nat) (a : Int) (s : List Int) (x4 x5 x6 : Option Value), 0 ≤ a ∧ a ≤ 9 → 9 - a < (n : Int) → s.length ≤ 378 → (∀ x3 x4 x5 x6 : Option Value, on_J Y E cX7_init "OppositeNets$Rings" 1 12 7 3 403 z o Lf 403 (.inr (7, [.ref a1, .ref (z + (o + 1)), .ref (z + (o + 2)), .ref (z + (o + 3)), .int 0, .int 0])) [.inl (on_ca E 0, (378, .inl (rgT (rg1 n a s)))), .inl (on_ca E 0, (9, .inl fun _ => 0)), .inl (on_ca E 0, (16, .inl fun _ => 0))] 153 [some (.ref (z + o)), some (.ref a1), some (.int (on_i ((rg1 n a s).length : Int))), x3, x4, x5, x6] []) → on_J Y E cX7_init "OppositeNets$Rings" 1 12 7 3 403 z o Lf 403 (.inr (7, [.ref a1, .ref (z + (o + 1)), .ref (z + (o + 2)), .ref (z + (o + 3)), .int 0, .int 0])) [.inl (on_ca E 0, (378, .inl (rgT s))), .inl (on_ca E 0, (9, .inl fun _ => 0)), .inl (on_ca E 0, (16, .inl fun _ => 0))] 38 [some (.ref (z + o)), some (.ref a1), some (.int (on_i (s.length : Int))), some (.int (on_i a)), x4, x5, x6] [] := by
  intro n
  induction n with
  | zero => intro a s x4 x5 x6 c0 hn hs k; exact absurd hn (by omega)
  | succ n ih =>
    intro a s x4 x5 x6 c0 hn hs k
    refine oj_iloadn 3 rfl rfl (on_ta tX7_init 21 rfl) ?_
    refine oj_bipush (on_ta tX7_init 22 rfl) rfl ?_
    refine oj_icge (on_ta tX7_init 23 rfl) rfl (by omega) (by omega) (fun lt => ?_) (fun ge => ?_)
    · rw [rg1, if_pos lt] at k
      refine oj_iloadn 3 rfl rfl (on_ta tX7_init 24 rfl) ?_
      refine oj_iconst (on_ta tX7_init 25 rfl) ?_
      refine oj_iadd (on_ta tX7_init 26 rfl) ?_
      refine oj_istore 4 (by decide) (on_c1_ho (i := 3) rfl rfl) (on_ta tX7_init 27 rfl) ?_
      refine rgJ2 ⟨c0.1, lt⟩ 10 (a + 1) s x5 x6 (by omega) (by omega) hs (fun y4 y5 y6 => ?_)
      refine oj_iincg 3 rfl (by decide) (on_c1_ho (i := 2) rfl rfl) (on_ta tX7_init 78 rfl) ?_
      refine oj_goto (on_ta tX7_init 79 rfl) rfl ?_
      exact ih (a + 1) _ y4 y5 y6 (by omega) (by omega) (rg2_len a 10 (a + 1) s hs) k
    · rw [rg1, if_neg (by omega)] at k
      exact k _ _ _ _
end ONR7
def lfX7 (E : on_E) (z o a1 : Nat) : List va_E := [.inr (7, [.ref a1, .ref (z + (o + 1)), .ref (z + (o + 2)), .ref (z + (o + 3)), .int 0, .int 0]), .inl (on_ca E 0, (378, .inl fun x : Nat => on_i (bRow x))), .inl (on_ca E 0, (9, .inl fun _ => 0)), .inl (on_ca E 0, (16, .inl fun _ => 0))]
theorem rgT_0 : rgT [] = fun _ => 0 := rfl
theorem rgT_all : rgT (rg1 10 0 []) = fun x : Nat => on_i (bRow x) := by
  rw [rg_all]
  funext x
  unfold rgT bRow
  congr 1
  rw [List.getD_eq_getElem?_getD, List.getElem?_map, List.getD_eq_getElem?_getD]
  cases on_rowsT[x]? <;> rfl
theorem cn_X7 {E : on_E} {z o : Nat} (a1 : Nat) : on_Cn E yX7_init cX7_init 7 1 12 3 403 z o [.ref a1] (.inr (7, dfX7)) (lfX7 E z o a1) := by
  refine on_ctor (lv := [some (.ref (z + o)), some (.ref a1), none, none, none, none, none]) (by decide) rfl rfl rfl (fun Y => ?_)
  show on_J Y E cX7_init "OppositeNets$Rings" 1 12 7 3 403 z o _ 0 _ [] 0 _ []
  refine oj_aloadn 0 rfl rfl (on_ta tX7_init 0 rfl) ?_
  refine oj_obj kw_2_40 kw_1_28 kw_1_29 (by decide) (by decide) (on_ta tX7_init 1 rfl) ?_
  refine oj_aloadn 0 rfl rfl (on_ta tX7_init 2 rfl) ?_
  refine oj_sipush (on_ta tX7_init 3 rfl) rfl ?_
  refine oj_newi (N := 378) (by decide) (Nat.le_of_ble_eq_true rfl) (Nat.le_of_ble_eq_true rfl) kw_1_79 (on_ta tX7_init 4 rfl) ?_
  refine oj_putF (own := "OppositeNets$Rings") (T := TX7) (N := 6) 7 1 on_in7 tyX7 tyX7_ok nmX7 rfl (by decide) rfl rfl kw_2_42 rfl rfl rfl (Nat.le_of_ble_eq_true rfl) (on_ta tX7_init 5 rfl) ?_
  refine oj_aloadn 0 rfl rfl (on_ta tX7_init 6 rfl) ?_
  refine oj_bipush (on_ta tX7_init 7 rfl) rfl ?_
  refine oj_newi (N := 9) (by decide) (Nat.le_of_ble_eq_true rfl) (Nat.le_of_ble_eq_true rfl) kw_1_79 (on_ta tX7_init 8 rfl) ?_
  refine oj_putF (own := "OppositeNets$Rings") (T := TX7) (N := 6) 7 2 on_in7 tyX7 tyX7_ok nmX7 rfl (by decide) rfl rfl kw_2_44 rfl rfl rfl (Nat.le_of_ble_eq_true rfl) (on_ta tX7_init 9 rfl) ?_
  refine oj_aloadn 0 rfl rfl (on_ta tX7_init 10 rfl) ?_
  refine oj_bipush (on_ta tX7_init 11 rfl) rfl ?_
  refine oj_newi (N := 16) (by decide) (Nat.le_of_ble_eq_true rfl) (Nat.le_of_ble_eq_true rfl) kw_1_79 (on_ta tX7_init 12 rfl) ?_
  refine oj_putF (own := "OppositeNets$Rings") (T := TX7) (N := 6) 7 3 on_in7 tyX7 tyX7_ok nmX7 rfl (by decide) rfl rfl kw_2_45 rfl rfl rfl (Nat.le_of_ble_eq_true rfl) (on_ta tX7_init 13 rfl) ?_
  refine oj_aloadn 0 rfl rfl (on_ta tX7_init 14 rfl) ?_
  refine oj_aloadn 1 rfl rfl (on_ta tX7_init 15 rfl) ?_
  refine oj_putF (own := "OppositeNets$Rings") (T := TX7) (N := 6) 7 0 on_in7 tyX7 tyX7_ok nmX7 rfl (by decide) rfl rfl kw_2_41 rfl rfl rfl (Nat.le_of_ble_eq_true rfl) (on_ta tX7_init 16 rfl) ?_
  refine oj_iconst (on_ta tX7_init 17 rfl) ?_
  refine oj_istoren 2 rfl (by decide) (on_c1_ho (i := 1) rfl rfl) (on_ta tX7_init 18 rfl) ?_
  refine oj_iconst (on_ta tX7_init 19 rfl) ?_
  refine oj_istoren 3 rfl (by decide) (on_c1_ho (i := 2) rfl rfl) (on_ta tX7_init 20 rfl) ?_
  refine rgJ1 (a1 := a1) 10 0 [] none none none (by omega) (by omega) (by decide) (fun x3 x4 x5 x6 => ?_)
  refine oj_ret ?_ (on_ta tX7_init 80 rfl) (Nat.le_of_ble_eq_true rfl) (Nat.le_of_ble_eq_true rfl)
  rw [rgT_all]; rfl
