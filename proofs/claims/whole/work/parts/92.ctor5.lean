/-! constructors: the class's own -/
def dX11_init : List (Nat × Nat × Nat × Instr) := [(0, 1, 1, .aload_n 0), (1, 3, 4, .invokespecial 1), (4, 1, 5, .aload_n 0), (5, 3, 8, .sipush 1400), (8, 2, 10, .newarray .byte), (10, 3, 13, .putfield 9), (13, 1, 14, .aload_n 0), (14, 3, 17, .new 13), (17, 1, 18, .dup), (18, 3, 21, .invokespecial 15), (21, 3, 24, .putfield 16), (24, 1, 25, .aload_n 0), (25, 3, 28, .new 13), (28, 1, 29, .dup), (29, 3, 32, .invokespecial 15), (32, 3, 35, .putfield 20), (35, 1, 36, .aload_n 0), (36, 3, 39, .new 23), (39, 1, 40, .dup), (40, 1, 41, .aload_n 0), (41, 3, 44, .getfield 9), (44, 1, 45, .aload_n 0), (45, 3, 48, .getfield 20), (48, 3, 51, .invokespecial 25), (51, 3, 54, .putfield 28), (54, 1, 55, .aload_n 0), (55, 1, 56, .iconst 3), (56, 3, 59, .anewarray 13), (59, 3, 62, .putfield 32), (62, 1, 63, .aload_n 0), (63, 1, 64, .iconst 4), (64, 3, 67, .anewarray 36), (67, 3, 70, .putfield 38), (70, 1, 71, .aload_n 0), (71, 3, 74, .new 42), (74, 1, 75, .dup), (75, 1, 76, .aload_n 0), (76, 3, 79, .getfield 16), (79, 3, 82, .invokespecial 44), (82, 3, 85, .putfield 47), (85, 1, 86, .aload_n 0), (86, 3, 89, .new 51), (89, 1, 90, .dup), (90, 1, 91, .aload_n 0), (91, 3, 94, .getfield 16), (94, 1, 95, .aload_n 0), (95, 3, 98, .getfield 47), (98, 3, 101, .invokespecial 53), (101, 3, 104, .putfield 56), (104, 1, 105, .aload_n 0), (105, 3, 108, .new 60), (108, 1, 109, .dup), (109, 1, 110, .aload_n 0), (110, 3, 113, .getfield 16), (113, 3, 116, .invokespecial 62), (116, 3, 119, .putfield 63), (119, 1, 120, .aload_n 0), (120, 3, 123, .new 67), (123, 1, 124, .dup), (124, 1, 125, .aload_n 0), (125, 3, 128, .getfield 16), (128, 3, 131, .invokespecial 69), (131, 3, 134, .putfield 70), (134, 1, 135, .aload_n 0), (135, 3, 138, .new 74), (138, 1, 139, .dup), (139, 1, 140, .aload_n 0), (140, 3, 143, .getfield 16), (143, 3, 146, .invokespecial 76), (146, 3, 149, .putfield 77), (149, 1, 150, .iconst 0), (150, 1, 151, .istore_n 1), (151, 1, 152, .iload_n 1), (152, 1, 153, .iconst 4), (153, 3, 156, .if_icmp .ge (22)), (156, 1, 157, .aload_n 0), (157, 3, 160, .getfield 38), (160, 1, 161, .iload_n 1), (161, 3, 164, .new 36), (164, 1, 165, .dup), (165, 3, 168, .invokespecial 81), (168, 1, 169, .aastore), (169, 3, 172, .iinc 1 1), (172, 3, 175, .goto (-21)), (175, 1, 176, .return_)]
theorem tX11_init : on_tab cX11_init dX11_init = true := by decide +kernel
def dfX11 : List Value := [.null, .int 0, .null, .null, .null, .null, .null, .null, .null, .null, .null, .null]
theorem dfX11_ok : ∀ j, j < 12 → defaultValue (tyX11 j) = vp_V dfX11 j := fun j hj => by
  have h : j = 0 ∨ j = 1 ∨ j = 2 ∨ j = 3 ∨ j = 4 ∨ j = 5 ∨ j = 6 ∨ j = 7 ∨ j = 8 ∨ j = 9 ∨ j = 10 ∨ j = 11 := by omega
  rcases h with h | h | h | h | h | h | h | h | h | h | h | h <;> subst h <;> rfl
def lfX11 (E : on_E) (z o : Nat) : List va_E := .inr (11, [.ref (z + (o + 1)), .int 0, .ref (z + (o + 2)), .ref (z + (o + 27)), .ref (z + (o + 52)), .ref (z + (o + 53)), .ref (z + (o + 54)), .ref (z + (o + 55)), .ref (z + (o + 59)), .ref (z + (o + 63)), .ref (z + (o + 65)), .ref (z + (o + 67))]) :: (((([] ++ [on_ai E 1 1400 fun _ => 0] ++ lfX9 E z (o + 2) ++ lfX9 E z (o + 27) ++ lfX6 E z (o + 52) (z + (o + 1)) (z + (o + 27)) ++ [on_qa E 4 3 fun _ => none] ++ [on_qa E 5 4 fun _ => none] ++ lfX7 E z (o + 55) (z + (o + 2)) ++ lfX1 E z (o + 59) (z + (o + 2)) (z + (o + 55)) ++ lfX0 E z (o + 63) (z + (o + 2)) ++ lfX5 E z (o + 65) (z + (o + 2)) ++ lfX10 E z (o + 67) (z + (o + 2)) ++ lfX8 E z (o + 69)).set 53 (on_qa E 5 4 (va_up (fun _ => none) (0 : Int).toNat (some (z + (o + 69))))) ++ lfX8 E z (o + 71)).set 53 (on_qa E 5 4 (va_up (va_up (fun _ => none) (0 : Int).toNat (some (z + (o + 69)))) (1 : Int).toNat (some (z + (o + 71))))) ++ lfX8 E z (o + 73)).set 53 (on_qa E 5 4 (va_up (va_up (va_up (fun _ => none) (0 : Int).toNat (some (z + (o + 69)))) (1 : Int).toNat (some (z + (o + 71)))) (2 : Int).toNat (some (z + (o + 73))))) ++ lfX8 E z (o + 75)).set 53 (on_qa E 5 4 (va_up (va_up (va_up (va_up (fun _ => none) (0 : Int).toNat (some (z + (o + 69)))) (1 : Int).toNat (some (z + (o + 71)))) (2 : Int).toNat (some (z + (o + 73)))) (3 : Int).toNat (some (z + (o + 75)))))
set_option maxRecDepth 20000 in
set_option maxHeartbeats 20000000 in
theorem cn_X11 {E : on_E} {z o : Nat} : on_Ca E yX11_init cX11_init 2 3 52 76 6430 z o [] (.inr (11, dfX11)) (lfX11 E z o) := by
  refine on_ctorA (lv := [some (.ref (z + o)), none]) (by decide) rfl rfl rfl (fun Y hy1 hy2 => ?_)
  show on_J Y E cX11_init "OppositeNets" 3 52 2 76 6430 z o _ 0 (.inr (11, [.null, .int 0, .null, .null, .null, .null, .null, .null, .null, .null, .null, .null])) [] 0 _ []
  refine oj_aloadn 0 rfl rfl (on_ta tX11_init 0 rfl) ?_
  refine oj_obj kw_1_27 kw_1_28 kw_1_29 (by decide) (by decide) (on_ta tX11_init 1 rfl) ?_
  refine oj_aloadn 0 rfl rfl (on_ta tX11_init 2 rfl) ?_
  refine oj_sipush (on_ta tX11_init 3 rfl) rfl ?_
  refine ok_newb (N := 1400) ((rfl : ([] : List va_E).length = 0)) (by decide) (Nat.le_of_ble_eq_true rfl) (Nat.le_of_ble_eq_true rfl) kw_1_78 (on_ta tX11_init 4 rfl) ?_
  have hh1 : (([] ++ [on_ai E 1 1400 fun _ => 0]) : List va_E).length = 1 := ok_len1 ((rfl : ([] : List va_E).length = 0))
  show on_J Y E cX11_init "OppositeNets" 3 52 2 76 6430 z o _ 1400 (.inr (11, [.null, .int 0, .null, .null, .null, .null, .null, .null, .null, .null, .null, .null])) ([] ++ [on_ai E 1 1400 fun _ => 0]) 10 [some (.ref (z + o)), none] [.ref (z + (o + 1)), .ref (z + o)]
  generalize hL1 : ([] ++ [on_ai E 1 1400 fun _ => 0]) = L1 at hh1 ⊢
  refine oj_putF (own := "OppositeNets") (T := TX11) (N := 12) 11 0 on_in11 tyX11 tyX11_ok nmX11 rfl (by decide) rfl rfl kw_2_179 rfl rfl rfl (Nat.le_of_ble_eq_true rfl) (on_ta tX11_init 5 rfl) ?_
  show on_J Y E cX11_init "OppositeNets" 3 52 2 76 6430 z o _ 1400 (.inr (11, [.ref (z + (o + 1)), .int 0, .null, .null, .null, .null, .null, .null, .null, .null, .null, .null])) L1 13 [some (.ref (z + o)), none] []
  refine oj_aloadn 0 rfl rfl (on_ta tX11_init 6 rfl) ?_
  refine ok_new 9 (C := "OppositeNets$Street") (T := TX9) (n := 16) (fs := dfX9) (hh1) rfl on_in9 tyX9 tyX9_ok kw_1_30 kw_1_31 kw_1_2 dfX9_ok (Nat.le_of_ble_eq_true rfl) (Nat.le_of_ble_eq_true rfl) (on_ta tX11_init 7 rfl) ?_
  show on_J Y E cX11_init "OppositeNets" 3 52 2 76 6430 z o _ 1416 (.inr (11, [.ref (z + (o + 1)), .int 0, .null, .null, .null, .null, .null, .null, .null, .null, .null, .null])) (L1 ++ [.inr (9, dfX9)]) 17 [some (.ref (z + o)), none] [.ref (z + (o + 2)), .ref (z + o)]
  refine oj_dup rfl (on_ta tX11_init 8 rfl) ?_
  refine ok_cN (L := L1) (As := []) (Lc := lfX9 E z (o + 2)) 0 (hh1) kw_1_34 kw_1_33 kw_1_2 ⟨by decide, by decide, rfl⟩ rfl (show ("OppositeNets", 15, (⟨"OppositeNets$Street", "<init>", "()V"⟩ : MethodName)) ∈ on_nest by decide) rfl (cn_X9) rfl rfl (Nat.le_of_ble_eq_true rfl) (Nat.le_of_ble_eq_true rfl) (on_ta tX11_init 9 rfl) ?_
  have hh2 : ((L1 ++ lfX9 E z (o + 2)) : List va_E).length = 26 := ok_lenC (hh1) (rfl : (lfX9 E z (o + 2)).length = 25)
  show on_J Y E cX11_init "OppositeNets" 3 52 2 76 6430 z o _ 2016 (.inr (11, [.ref (z + (o + 1)), .int 0, .null, .null, .null, .null, .null, .null, .null, .null, .null, .null])) (L1 ++ lfX9 E z (o + 2)) 21 [some (.ref (z + o)), none] [.ref (z + (o + 2)), .ref (z + o)]
  generalize hL2 : (L1 ++ lfX9 E z (o + 2)) = L2 at hh2 ⊢
  refine oj_putF (own := "OppositeNets") (T := TX11) (N := 12) 11 2 on_in11 tyX11 tyX11_ok nmX11 rfl (by decide) rfl rfl kw_2_181 rfl rfl rfl (Nat.le_of_ble_eq_true rfl) (on_ta tX11_init 10 rfl) ?_
  show on_J Y E cX11_init "OppositeNets" 3 52 2 76 6430 z o _ 2016 (.inr (11, [.ref (z + (o + 1)), .int 0, .ref (z + (o + 2)), .null, .null, .null, .null, .null, .null, .null, .null, .null])) L2 24 [some (.ref (z + o)), none] []
  refine oj_aloadn 0 rfl rfl (on_ta tX11_init 11 rfl) ?_
  refine ok_new 9 (C := "OppositeNets$Street") (T := TX9) (n := 16) (fs := dfX9) (hh2) rfl on_in9 tyX9 tyX9_ok kw_1_30 kw_1_31 kw_1_2 dfX9_ok (Nat.le_of_ble_eq_true rfl) (Nat.le_of_ble_eq_true rfl) (on_ta tX11_init 12 rfl) ?_
  show on_J Y E cX11_init "OppositeNets" 3 52 2 76 6430 z o _ 2032 (.inr (11, [.ref (z + (o + 1)), .int 0, .ref (z + (o + 2)), .null, .null, .null, .null, .null, .null, .null, .null, .null])) (L2 ++ [.inr (9, dfX9)]) 28 [some (.ref (z + o)), none] [.ref (z + (o + 27)), .ref (z + o)]
  refine oj_dup rfl (on_ta tX11_init 13 rfl) ?_
  refine ok_cN (L := L2) (As := []) (Lc := lfX9 E z (o + 27)) 0 (hh2) kw_1_34 kw_1_33 kw_1_2 ⟨by decide, by decide, rfl⟩ rfl (show ("OppositeNets", 15, (⟨"OppositeNets$Street", "<init>", "()V"⟩ : MethodName)) ∈ on_nest by decide) rfl (cn_X9) rfl rfl (Nat.le_of_ble_eq_true rfl) (Nat.le_of_ble_eq_true rfl) (on_ta tX11_init 14 rfl) ?_
  have hh3 : ((L2 ++ lfX9 E z (o + 27)) : List va_E).length = 51 := ok_lenC (hh2) (rfl : (lfX9 E z (o + 27)).length = 25)
  show on_J Y E cX11_init "OppositeNets" 3 52 2 76 6430 z o _ 2632 (.inr (11, [.ref (z + (o + 1)), .int 0, .ref (z + (o + 2)), .null, .null, .null, .null, .null, .null, .null, .null, .null])) (L2 ++ lfX9 E z (o + 27)) 32 [some (.ref (z + o)), none] [.ref (z + (o + 27)), .ref (z + o)]
  generalize hL3 : (L2 ++ lfX9 E z (o + 27)) = L3 at hh3 ⊢
  refine oj_putF (own := "OppositeNets") (T := TX11) (N := 12) 11 3 on_in11 tyX11 tyX11_ok nmX11 rfl (by decide) rfl rfl kw_2_182 rfl rfl rfl (Nat.le_of_ble_eq_true rfl) (on_ta tX11_init 15 rfl) ?_
  show on_J Y E cX11_init "OppositeNets" 3 52 2 76 6430 z o _ 2632 (.inr (11, [.ref (z + (o + 1)), .int 0, .ref (z + (o + 2)), .ref (z + (o + 27)), .null, .null, .null, .null, .null, .null, .null, .null])) L3 35 [some (.ref (z + o)), none] []
  refine oj_aloadn 0 rfl rfl (on_ta tX11_init 16 rfl) ?_
  refine ok_new 6 (C := "OppositeNets$Reader") (T := TX6) (n := 10) (fs := dfX6) (hh3) rfl on_in6 tyX6 tyX6_ok kw_1_233 kw_1_234 kw_1_6 dfX6_ok (Nat.le_of_ble_eq_true rfl) (Nat.le_of_ble_eq_true rfl) (on_ta tX11_init 17 rfl) ?_
  show on_J Y E cX11_init "OppositeNets" 3 52 2 76 6430 z o _ 2642 (.inr (11, [.ref (z + (o + 1)), .int 0, .ref (z + (o + 2)), .ref (z + (o + 27)), .null, .null, .null, .null, .null, .null, .null, .null])) (L3 ++ [.inr (6, dfX6)]) 39 [some (.ref (z + o)), none] [.ref (z + (o + 52)), .ref (z + o)]
  refine oj_dup rfl (on_ta tX11_init 18 rfl) ?_
  refine oj_aloadn 0 rfl rfl (on_ta tX11_init 19 rfl) ?_
  refine oj_get 11 0 (N := 12) on_in11 rfl (by decide) kw_2_179 rfl (on_ta tX11_init 20 rfl) ?_
  refine oj_aloadn 0 rfl rfl (on_ta tX11_init 21 rfl) ?_
  refine oj_get 11 3 (N := 12) on_in11 rfl (by decide) kw_2_182 rfl (on_ta tX11_init 22 rfl) ?_
  refine ok_cI (L := L3) (As := [.ref (z + (o + 1)), .ref (z + (o + 27))]) (Lc := lfX6 E z (o + 52) (z + (o + 1)) (z + (o + 27))) 2 (hh3) kw_1_237 kw_1_236 kw_1_6 ⟨by decide, by decide, rfl⟩ rfl kw_1_235 rfl (cn_X6 (z + (o + 1)) (z + (o + 27))) rfl rfl (Nat.le_of_ble_eq_true rfl) (Nat.le_of_ble_eq_true rfl) (on_ta tX11_init 23 rfl) ?_
  have hh4 : ((L3 ++ lfX6 E z (o + 52) (z + (o + 1)) (z + (o + 27))) : List va_E).length = 52 := ok_lenC (hh3) (rfl : (lfX6 E z (o + 52) (z + (o + 1)) (z + (o + 27))).length = 1)
  show on_J Y E cX11_init "OppositeNets" 3 52 2 76 6430 z o _ 2642 (.inr (11, [.ref (z + (o + 1)), .int 0, .ref (z + (o + 2)), .ref (z + (o + 27)), .null, .null, .null, .null, .null, .null, .null, .null])) (L3 ++ lfX6 E z (o + 52) (z + (o + 1)) (z + (o + 27))) 51 [some (.ref (z + o)), none] [.ref (z + (o + 52)), .ref (z + o)]
  generalize hL4 : (L3 ++ lfX6 E z (o + 52) (z + (o + 1)) (z + (o + 27))) = L4 at hh4 ⊢
  refine oj_putF (own := "OppositeNets") (T := TX11) (N := 12) 11 4 on_in11 tyX11 tyX11_ok nmX11 rfl (by decide) rfl rfl kw_2_183 rfl rfl rfl (Nat.le_of_ble_eq_true rfl) (on_ta tX11_init 24 rfl) ?_
  show on_J Y E cX11_init "OppositeNets" 3 52 2 76 6430 z o _ 2642 (.inr (11, [.ref (z + (o + 1)), .int 0, .ref (z + (o + 2)), .ref (z + (o + 27)), .ref (z + (o + 52)), .null, .null, .null, .null, .null, .null, .null])) L4 54 [some (.ref (z + o)), none] []
  refine oj_aloadn 0 rfl rfl (on_ta tX11_init 25 rfl) ?_
  refine oj_iconst (on_ta tX11_init 26 rfl) ?_
  refine ok_anew (N := 3) (j := 4) (hh4) hy1 rfl kw_1_30 (by decide) (Nat.le_of_ble_eq_true rfl) (Nat.le_of_ble_eq_true rfl) (on_ta tX11_init 27 rfl) ?_
  have hh5 : ((L4 ++ [on_qa E 4 3 fun _ => none]) : List va_E).length = 53 := ok_len1 (hh4)
  show on_J Y E cX11_init "OppositeNets" 3 52 2 76 6430 z o _ 2645 (.inr (11, [.ref (z + (o + 1)), .int 0, .ref (z + (o + 2)), .ref (z + (o + 27)), .ref (z + (o + 52)), .null, .null, .null, .null, .null, .null, .null])) (L4 ++ [on_qa E 4 3 fun _ => none]) 59 [some (.ref (z + o)), none] [.ref (z + (o + 53)), .ref (z + o)]
  generalize hL5 : (L4 ++ [on_qa E 4 3 fun _ => none]) = L5 at hh5 ⊢
  refine oj_putF (own := "OppositeNets") (T := TX11) (N := 12) 11 5 on_in11 tyX11 tyX11_ok nmX11 rfl (by decide) rfl rfl kw_2_184 rfl rfl rfl (Nat.le_of_ble_eq_true rfl) (on_ta tX11_init 28 rfl) ?_
  show on_J Y E cX11_init "OppositeNets" 3 52 2 76 6430 z o _ 2645 (.inr (11, [.ref (z + (o + 1)), .int 0, .ref (z + (o + 2)), .ref (z + (o + 27)), .ref (z + (o + 52)), .ref (z + (o + 53)), .null, .null, .null, .null, .null, .null])) L5 62 [some (.ref (z + o)), none] []
  refine oj_aloadn 0 rfl rfl (on_ta tX11_init 29 rfl) ?_
  refine oj_iconst (on_ta tX11_init 30 rfl) ?_
  refine ok_anew (N := 4) (j := 5) (hh5) hy2 rfl kw_2_33 (by decide) (Nat.le_of_ble_eq_true rfl) (Nat.le_of_ble_eq_true rfl) (on_ta tX11_init 31 rfl) ?_
  have hh6 : ((L5 ++ [on_qa E 5 4 fun _ => none]) : List va_E).length = 54 := ok_len1 (hh5)
  show on_J Y E cX11_init "OppositeNets" 3 52 2 76 6430 z o _ 2649 (.inr (11, [.ref (z + (o + 1)), .int 0, .ref (z + (o + 2)), .ref (z + (o + 27)), .ref (z + (o + 52)), .ref (z + (o + 53)), .null, .null, .null, .null, .null, .null])) (L5 ++ [on_qa E 5 4 fun _ => none]) 67 [some (.ref (z + o)), none] [.ref (z + (o + 54)), .ref (z + o)]
  generalize hL6 : (L5 ++ [on_qa E 5 4 fun _ => none]) = L6 at hh6 ⊢
  have hg53_6 := ok_last hL6 hh5
  refine oj_putF (own := "OppositeNets") (T := TX11) (N := 12) 11 6 on_in11 tyX11 tyX11_ok nmX11 rfl (by decide) rfl rfl kw_2_185 rfl rfl rfl (Nat.le_of_ble_eq_true rfl) (on_ta tX11_init 32 rfl) ?_
  show on_J Y E cX11_init "OppositeNets" 3 52 2 76 6430 z o _ 2649 (.inr (11, [.ref (z + (o + 1)), .int 0, .ref (z + (o + 2)), .ref (z + (o + 27)), .ref (z + (o + 52)), .ref (z + (o + 53)), .ref (z + (o + 54)), .null, .null, .null, .null, .null])) L6 70 [some (.ref (z + o)), none] []
  refine oj_aloadn 0 rfl rfl (on_ta tX11_init 33 rfl) ?_
  refine ok_new 7 (C := "OppositeNets$Rings") (T := TX7) (n := 6) (fs := dfX7) (hh6) rfl on_in7 tyX7 tyX7_ok kw_2_35 kw_2_36 kw_1_7 dfX7_ok (Nat.le_of_ble_eq_true rfl) (Nat.le_of_ble_eq_true rfl) (on_ta tX11_init 34 rfl) ?_
  show on_J Y E cX11_init "OppositeNets" 3 52 2 76 6430 z o _ 2655 (.inr (11, [.ref (z + (o + 1)), .int 0, .ref (z + (o + 2)), .ref (z + (o + 27)), .ref (z + (o + 52)), .ref (z + (o + 53)), .ref (z + (o + 54)), .null, .null, .null, .null, .null])) (L6 ++ [.inr (7, dfX7)]) 74 [some (.ref (z + o)), none] [.ref (z + (o + 55)), .ref (z + o)]
  refine oj_dup rfl (on_ta tX11_init 35 rfl) ?_
  refine oj_aloadn 0 rfl rfl (on_ta tX11_init 36 rfl) ?_
  refine oj_get 11 2 (N := 12) on_in11 rfl (by decide) kw_2_181 rfl (on_ta tX11_init 37 rfl) ?_
  refine ok_cI (L := L6) (As := [.ref (z + (o + 2))]) (Lc := lfX7 E z (o + 55) (z + (o + 2))) 1 (hh6) kw_2_39 kw_2_38 kw_1_7 ⟨by decide, by decide, rfl⟩ rfl kw_2_37 rfl (cn_X7 (z + (o + 2))) rfl rfl (Nat.le_of_ble_eq_true rfl) (Nat.le_of_ble_eq_true rfl) (on_ta tX11_init 38 rfl) ?_
  have hh7 : ((L6 ++ lfX7 E z (o + 55) (z + (o + 2))) : List va_E).length = 58 := ok_lenC (hh6) (rfl : (lfX7 E z (o + 55) (z + (o + 2))).length = 4)
  show on_J Y E cX11_init "OppositeNets" 3 52 2 76 6430 z o _ 3058 (.inr (11, [.ref (z + (o + 1)), .int 0, .ref (z + (o + 2)), .ref (z + (o + 27)), .ref (z + (o + 52)), .ref (z + (o + 53)), .ref (z + (o + 54)), .null, .null, .null, .null, .null])) (L6 ++ lfX7 E z (o + 55) (z + (o + 2))) 82 [some (.ref (z + o)), none] [.ref (z + (o + 55)), .ref (z + o)]
  generalize hL7 : (L6 ++ lfX7 E z (o + 55) (z + (o + 2))) = L7 at hh7 ⊢
  have hg53_7 := ok_appg hL7 hg53_6
  refine oj_putF (own := "OppositeNets") (T := TX11) (N := 12) 11 7 on_in11 tyX11 tyX11_ok nmX11 rfl (by decide) rfl rfl kw_2_186 rfl rfl rfl (Nat.le_of_ble_eq_true rfl) (on_ta tX11_init 39 rfl) ?_
  show on_J Y E cX11_init "OppositeNets" 3 52 2 76 6430 z o _ 3058 (.inr (11, [.ref (z + (o + 1)), .int 0, .ref (z + (o + 2)), .ref (z + (o + 27)), .ref (z + (o + 52)), .ref (z + (o + 53)), .ref (z + (o + 54)), .ref (z + (o + 55)), .null, .null, .null, .null])) L7 85 [some (.ref (z + o)), none] []
  refine oj_aloadn 0 rfl rfl (on_ta tX11_init 40 rfl) ?_
  refine ok_new 1 (C := "OppositeNets$Guard") (T := TX1) (n := 9) (fs := dfX1) (hh7) rfl on_in1 tyX1 tyX1_ok kw_2_61 kw_2_62 kw_1_8 dfX1_ok (Nat.le_of_ble_eq_true rfl) (Nat.le_of_ble_eq_true rfl) (on_ta tX11_init 41 rfl) ?_
  show on_J Y E cX11_init "OppositeNets" 3 52 2 76 6430 z o _ 3067 (.inr (11, [.ref (z + (o + 1)), .int 0, .ref (z + (o + 2)), .ref (z + (o + 27)), .ref (z + (o + 52)), .ref (z + (o + 53)), .ref (z + (o + 54)), .ref (z + (o + 55)), .null, .null, .null, .null])) (L7 ++ [.inr (1, dfX1)]) 89 [some (.ref (z + o)), none] [.ref (z + (o + 59)), .ref (z + o)]
  refine oj_dup rfl (on_ta tX11_init 42 rfl) ?_
  refine oj_aloadn 0 rfl rfl (on_ta tX11_init 43 rfl) ?_
  refine oj_get 11 2 (N := 12) on_in11 rfl (by decide) kw_2_181 rfl (on_ta tX11_init 44 rfl) ?_
  refine oj_aloadn 0 rfl rfl (on_ta tX11_init 45 rfl) ?_
  refine oj_get 11 7 (N := 12) on_in11 rfl (by decide) kw_2_186 rfl (on_ta tX11_init 46 rfl) ?_
  refine ok_cI (L := L7) (As := [.ref (z + (o + 2)), .ref (z + (o + 55))]) (Lc := lfX1 E z (o + 59) (z + (o + 2)) (z + (o + 55))) 2 (hh7) kw_2_65 kw_2_64 kw_1_8 ⟨by decide, by decide, rfl⟩ rfl kw_2_63 rfl (cn_X1 (z + (o + 2)) (z + (o + 55))) rfl rfl (Nat.le_of_ble_eq_true rfl) (Nat.le_of_ble_eq_true rfl) (on_ta tX11_init 47 rfl) ?_
  have hh8 : ((L7 ++ lfX1 E z (o + 59) (z + (o + 2)) (z + (o + 55))) : List va_E).length = 62 := ok_lenC (hh7) (rfl : (lfX1 E z (o + 59) (z + (o + 2)) (z + (o + 55))).length = 4)
  show on_J Y E cX11_init "OppositeNets" 3 52 2 76 6430 z o _ 6139 (.inr (11, [.ref (z + (o + 1)), .int 0, .ref (z + (o + 2)), .ref (z + (o + 27)), .ref (z + (o + 52)), .ref (z + (o + 53)), .ref (z + (o + 54)), .ref (z + (o + 55)), .null, .null, .null, .null])) (L7 ++ lfX1 E z (o + 59) (z + (o + 2)) (z + (o + 55))) 101 [some (.ref (z + o)), none] [.ref (z + (o + 59)), .ref (z + o)]
  generalize hL8 : (L7 ++ lfX1 E z (o + 59) (z + (o + 2)) (z + (o + 55))) = L8 at hh8 ⊢
  have hg53_8 := ok_appg hL8 hg53_7
  refine oj_putF (own := "OppositeNets") (T := TX11) (N := 12) 11 8 on_in11 tyX11 tyX11_ok nmX11 rfl (by decide) rfl rfl kw_2_187 rfl rfl rfl (Nat.le_of_ble_eq_true rfl) (on_ta tX11_init 48 rfl) ?_
  show on_J Y E cX11_init "OppositeNets" 3 52 2 76 6430 z o _ 6139 (.inr (11, [.ref (z + (o + 1)), .int 0, .ref (z + (o + 2)), .ref (z + (o + 27)), .ref (z + (o + 52)), .ref (z + (o + 53)), .ref (z + (o + 54)), .ref (z + (o + 55)), .ref (z + (o + 59)), .null, .null, .null])) L8 104 [some (.ref (z + o)), none] []
  refine oj_aloadn 0 rfl rfl (on_ta tX11_init 49 rfl) ?_
  refine ok_new 0 (C := "OppositeNets$Alarms") (T := TX0) (n := 2) (fs := dfX0) (hh8) rfl on_in0 tyX0 tyX0_ok kw_2_99 kw_2_100 kw_1_9 dfX0_ok (Nat.le_of_ble_eq_true rfl) (Nat.le_of_ble_eq_true rfl) (on_ta tX11_init 50 rfl) ?_
  show on_J Y E cX11_init "OppositeNets" 3 52 2 76 6430 z o _ 6141 (.inr (11, [.ref (z + (o + 1)), .int 0, .ref (z + (o + 2)), .ref (z + (o + 27)), .ref (z + (o + 52)), .ref (z + (o + 53)), .ref (z + (o + 54)), .ref (z + (o + 55)), .ref (z + (o + 59)), .null, .null, .null])) (L8 ++ [.inr (0, dfX0)]) 108 [some (.ref (z + o)), none] [.ref (z + (o + 63)), .ref (z + o)]
  refine oj_dup rfl (on_ta tX11_init 51 rfl) ?_
  refine oj_aloadn 0 rfl rfl (on_ta tX11_init 52 rfl) ?_
  refine oj_get 11 2 (N := 12) on_in11 rfl (by decide) kw_2_181 rfl (on_ta tX11_init 53 rfl) ?_
  refine ok_cI (L := L8) (As := [.ref (z + (o + 2))]) (Lc := lfX0 E z (o + 63) (z + (o + 2))) 1 (hh8) kw_2_103 kw_2_102 kw_1_9 ⟨by decide, by decide, rfl⟩ rfl kw_2_101 rfl (cn_X0 (z + (o + 2))) rfl rfl (Nat.le_of_ble_eq_true rfl) (Nat.le_of_ble_eq_true rfl) (on_ta tX11_init 54 rfl) ?_
  have hh9 : ((L8 ++ lfX0 E z (o + 63) (z + (o + 2))) : List va_E).length = 64 := ok_lenC (hh8) (rfl : (lfX0 E z (o + 63) (z + (o + 2))).length = 2)
  show on_J Y E cX11_init "OppositeNets" 3 52 2 76 6430 z o _ 6157 (.inr (11, [.ref (z + (o + 1)), .int 0, .ref (z + (o + 2)), .ref (z + (o + 27)), .ref (z + (o + 52)), .ref (z + (o + 53)), .ref (z + (o + 54)), .ref (z + (o + 55)), .ref (z + (o + 59)), .null, .null, .null])) (L8 ++ lfX0 E z (o + 63) (z + (o + 2))) 116 [some (.ref (z + o)), none] [.ref (z + (o + 63)), .ref (z + o)]
  generalize hL9 : (L8 ++ lfX0 E z (o + 63) (z + (o + 2))) = L9 at hh9 ⊢
  have hg53_9 := ok_appg hL9 hg53_8
  refine oj_putF (own := "OppositeNets") (T := TX11) (N := 12) 11 9 on_in11 tyX11 tyX11_ok nmX11 rfl (by decide) rfl rfl kw_2_188 rfl rfl rfl (Nat.le_of_ble_eq_true rfl) (on_ta tX11_init 55 rfl) ?_
  show on_J Y E cX11_init "OppositeNets" 3 52 2 76 6430 z o _ 6157 (.inr (11, [.ref (z + (o + 1)), .int 0, .ref (z + (o + 2)), .ref (z + (o + 27)), .ref (z + (o + 52)), .ref (z + (o + 53)), .ref (z + (o + 54)), .ref (z + (o + 55)), .ref (z + (o + 59)), .ref (z + (o + 63)), .null, .null])) L9 119 [some (.ref (z + o)), none] []
  refine oj_aloadn 0 rfl rfl (on_ta tX11_init 56 rfl) ?_
  refine ok_new 5 (C := "OppositeNets$Nights") (T := TX5) (n := 4) (fs := dfX5) (hh9) rfl on_in5 tyX5 tyX5_ok kw_2_112 kw_2_113 kw_1_10 dfX5_ok (Nat.le_of_ble_eq_true rfl) (Nat.le_of_ble_eq_true rfl) (on_ta tX11_init 57 rfl) ?_
  show on_J Y E cX11_init "OppositeNets" 3 52 2 76 6430 z o _ 6161 (.inr (11, [.ref (z + (o + 1)), .int 0, .ref (z + (o + 2)), .ref (z + (o + 27)), .ref (z + (o + 52)), .ref (z + (o + 53)), .ref (z + (o + 54)), .ref (z + (o + 55)), .ref (z + (o + 59)), .ref (z + (o + 63)), .null, .null])) (L9 ++ [.inr (5, dfX5)]) 123 [some (.ref (z + o)), none] [.ref (z + (o + 65)), .ref (z + o)]
  refine oj_dup rfl (on_ta tX11_init 58 rfl) ?_
  refine oj_aloadn 0 rfl rfl (on_ta tX11_init 59 rfl) ?_
  refine oj_get 11 2 (N := 12) on_in11 rfl (by decide) kw_2_181 rfl (on_ta tX11_init 60 rfl) ?_
  refine ok_cI (L := L9) (As := [.ref (z + (o + 2))]) (Lc := lfX5 E z (o + 65) (z + (o + 2))) 1 (hh9) kw_2_116 kw_2_115 kw_1_10 ⟨by decide, by decide, rfl⟩ rfl kw_2_114 rfl (cn_X5 (z + (o + 2))) rfl rfl (Nat.le_of_ble_eq_true rfl) (Nat.le_of_ble_eq_true rfl) (on_ta tX11_init 61 rfl) ?_
  have hh10 : ((L9 ++ lfX5 E z (o + 65) (z + (o + 2))) : List va_E).length = 66 := ok_lenC (hh9) (rfl : (lfX5 E z (o + 65) (z + (o + 2))).length = 2)
  show on_J Y E cX11_init "OppositeNets" 3 52 2 76 6430 z o _ 6169 (.inr (11, [.ref (z + (o + 1)), .int 0, .ref (z + (o + 2)), .ref (z + (o + 27)), .ref (z + (o + 52)), .ref (z + (o + 53)), .ref (z + (o + 54)), .ref (z + (o + 55)), .ref (z + (o + 59)), .ref (z + (o + 63)), .null, .null])) (L9 ++ lfX5 E z (o + 65) (z + (o + 2))) 131 [some (.ref (z + o)), none] [.ref (z + (o + 65)), .ref (z + o)]
  generalize hL10 : (L9 ++ lfX5 E z (o + 65) (z + (o + 2))) = L10 at hh10 ⊢
  have hg53_10 := ok_appg hL10 hg53_9
  refine oj_putF (own := "OppositeNets") (T := TX11) (N := 12) 11 10 on_in11 tyX11 tyX11_ok nmX11 rfl (by decide) rfl rfl kw_2_189 rfl rfl rfl (Nat.le_of_ble_eq_true rfl) (on_ta tX11_init 62 rfl) ?_
  show on_J Y E cX11_init "OppositeNets" 3 52 2 76 6430 z o _ 6169 (.inr (11, [.ref (z + (o + 1)), .int 0, .ref (z + (o + 2)), .ref (z + (o + 27)), .ref (z + (o + 52)), .ref (z + (o + 53)), .ref (z + (o + 54)), .ref (z + (o + 55)), .ref (z + (o + 59)), .ref (z + (o + 63)), .ref (z + (o + 65)), .null])) L10 134 [some (.ref (z + o)), none] []
  refine oj_aloadn 0 rfl rfl (on_ta tX11_init 63 rfl) ?_
  refine ok_new 10 (C := "OppositeNets$Witness") (T := TX10) (n := 5) (fs := dfX10) (hh10) rfl on_in10 tyX10 tyX10_ok kw_2_133 kw_2_134 kw_1_11 dfX10_ok (Nat.le_of_ble_eq_true rfl) (Nat.le_of_ble_eq_true rfl) (on_ta tX11_init 64 rfl) ?_
  show on_J Y E cX11_init "OppositeNets" 3 52 2 76 6430 z o _ 6174 (.inr (11, [.ref (z + (o + 1)), .int 0, .ref (z + (o + 2)), .ref (z + (o + 27)), .ref (z + (o + 52)), .ref (z + (o + 53)), .ref (z + (o + 54)), .ref (z + (o + 55)), .ref (z + (o + 59)), .ref (z + (o + 63)), .ref (z + (o + 65)), .null])) (L10 ++ [.inr (10, dfX10)]) 138 [some (.ref (z + o)), none] [.ref (z + (o + 67)), .ref (z + o)]
  refine oj_dup rfl (on_ta tX11_init 65 rfl) ?_
  refine oj_aloadn 0 rfl rfl (on_ta tX11_init 66 rfl) ?_
  refine oj_get 11 2 (N := 12) on_in11 rfl (by decide) kw_2_181 rfl (on_ta tX11_init 67 rfl) ?_
  refine ok_cI (L := L10) (As := [.ref (z + (o + 2))]) (Lc := lfX10 E z (o + 67) (z + (o + 2))) 1 (hh10) kw_2_137 kw_2_136 kw_1_11 ⟨by decide, by decide, rfl⟩ rfl kw_2_135 rfl (cn_X10 (z + (o + 2))) rfl rfl (Nat.le_of_ble_eq_true rfl) (Nat.le_of_ble_eq_true rfl) (on_ta tX11_init 68 rfl) ?_
  have hh11 : ((L10 ++ lfX10 E z (o + 67) (z + (o + 2))) : List va_E).length = 68 := ok_lenC (hh10) (rfl : (lfX10 E z (o + 67) (z + (o + 2))).length = 2)
  show on_J Y E cX11_init "OppositeNets" 3 52 2 76 6430 z o _ 6178 (.inr (11, [.ref (z + (o + 1)), .int 0, .ref (z + (o + 2)), .ref (z + (o + 27)), .ref (z + (o + 52)), .ref (z + (o + 53)), .ref (z + (o + 54)), .ref (z + (o + 55)), .ref (z + (o + 59)), .ref (z + (o + 63)), .ref (z + (o + 65)), .null])) (L10 ++ lfX10 E z (o + 67) (z + (o + 2))) 146 [some (.ref (z + o)), none] [.ref (z + (o + 67)), .ref (z + o)]
  generalize hL11 : (L10 ++ lfX10 E z (o + 67) (z + (o + 2))) = L11 at hh11 ⊢
  have hg53_11 := ok_appg hL11 hg53_10
  refine oj_putF (own := "OppositeNets") (T := TX11) (N := 12) 11 11 on_in11 tyX11 tyX11_ok nmX11 rfl (by decide) rfl rfl kw_2_190 rfl rfl rfl (Nat.le_of_ble_eq_true rfl) (on_ta tX11_init 69 rfl) ?_
  show on_J Y E cX11_init "OppositeNets" 3 52 2 76 6430 z o _ 6178 (.inr (11, [.ref (z + (o + 1)), .int 0, .ref (z + (o + 2)), .ref (z + (o + 27)), .ref (z + (o + 52)), .ref (z + (o + 53)), .ref (z + (o + 54)), .ref (z + (o + 55)), .ref (z + (o + 59)), .ref (z + (o + 63)), .ref (z + (o + 65)), .ref (z + (o + 67))])) L11 149 [some (.ref (z + o)), none] []
  refine oj_iconst (on_ta tX11_init 70 rfl) ?_
  refine oj_istoren 1 rfl (by decide) (on_c1_ho (i := 0) rfl rfl) (on_ta tX11_init 71 rfl) ?_
  show on_J Y E cX11_init "OppositeNets" 3 52 2 76 6430 z o _ 6178 (.inr (11, [.ref (z + (o + 1)), .int 0, .ref (z + (o + 2)), .ref (z + (o + 27)), .ref (z + (o + 52)), .ref (z + (o + 53)), .ref (z + (o + 54)), .ref (z + (o + 55)), .ref (z + (o + 59)), .ref (z + (o + 63)), .ref (z + (o + 65)), .ref (z + (o + 67))])) L11 151 [some (.ref (z + o)), some (.int (on_i 0))] []
  refine oj_iloadn 1 rfl rfl (on_ta tX11_init 72 rfl) ?_
  refine oj_iconst (on_ta tX11_init 73 rfl) ?_
  refine oj_icge (a := 0) (b := 4) (on_ta tX11_init 74 rfl) rfl (by omega) (by omega) (fun _ => ?_) (fun h => absurd h (by decide))
  refine oj_aloadn 0 rfl rfl (on_ta tX11_init 75 rfl) ?_
  refine oj_get 11 6 (N := 12) on_in11 rfl (by decide) kw_2_185 rfl (on_ta tX11_init 76 rfl) ?_
  refine oj_iloadn 1 rfl rfl (on_ta tX11_init 77 rfl) ?_
  refine ok_new 8 (C := "OppositeNets$Slot") (T := TX8) (n := 3) (fs := dfX8) (hh11) rfl on_in8 tyX8 tyX8_ok kw_2_33 kw_2_158 kw_1_12 dfX8_ok (Nat.le_of_ble_eq_true rfl) (Nat.le_of_ble_eq_true rfl) (on_ta tX11_init 78 rfl) ?_
  show on_J Y E cX11_init "OppositeNets" 3 52 2 76 6430 z o _ 6181 (.inr (11, [.ref (z + (o + 1)), .int 0, .ref (z + (o + 2)), .ref (z + (o + 27)), .ref (z + (o + 52)), .ref (z + (o + 53)), .ref (z + (o + 54)), .ref (z + (o + 55)), .ref (z + (o + 59)), .ref (z + (o + 63)), .ref (z + (o + 65)), .ref (z + (o + 67))])) (L11 ++ [.inr (8, dfX8)]) 164 [some (.ref (z + o)), some (.int (on_i 0))] [.ref (z + (o + 69)), .int (on_i (0)), .ref (z + (o + 54))]
  refine oj_dup rfl (on_ta tX11_init 79 rfl) ?_
  refine ok_cN (L := L11) (As := []) (Lc := lfX8 E z (o + 69)) 0 (hh11) kw_2_161 kw_2_160 kw_1_12 ⟨by decide, by decide, rfl⟩ rfl (show ("OppositeNets", 81, (⟨"OppositeNets$Slot", "<init>", "()V"⟩ : MethodName)) ∈ on_nest by decide) rfl (cn_X8) rfl rfl (Nat.le_of_ble_eq_true rfl) (Nat.le_of_ble_eq_true rfl) (on_ta tX11_init 80 rfl) ?_
  have hh12 : ((L11 ++ lfX8 E z (o + 69)) : List va_E).length = 70 := ok_lenC (hh11) (rfl : (lfX8 E z (o + 69)).length = 2)
  show on_J Y E cX11_init "OppositeNets" 3 52 2 76 6430 z o _ 6241 (.inr (11, [.ref (z + (o + 1)), .int 0, .ref (z + (o + 2)), .ref (z + (o + 27)), .ref (z + (o + 52)), .ref (z + (o + 53)), .ref (z + (o + 54)), .ref (z + (o + 55)), .ref (z + (o + 59)), .ref (z + (o + 63)), .ref (z + (o + 65)), .ref (z + (o + 67))])) (L11 ++ lfX8 E z (o + 69)) 168 [some (.ref (z + o)), some (.int (on_i 0))] [.ref (z + (o + 69)), .int (on_i (0)), .ref (z + (o + 54))]
  generalize hL12 : (L11 ++ lfX8 E z (o + 69)) = L12 at hh12 ⊢
  have hg53_12 := ok_appg hL12 hg53_11
  refine oj_aast (j := 53) (i := 68) (ci := 8) (N := 4) (f := (fun _ => none)) (x := 0) (tj := 5) (q2 := (RX8, TX8, 3)) hg53_12 rfl (ok_appR hL12 hh11 rfl) rfl (by decide) (by decide) (by decide) (on_ta tX11_init 81 rfl) ?_
  have hh13 : ((L12.set 53 (on_qa E 5 4 (va_up (fun _ => none) (0 : Int).toNat (some (z + (o + 69)))))) : List va_E).length = 70 := ok_lenS (hh12)
  show on_J Y E cX11_init "OppositeNets" 3 52 2 76 6430 z o _ 6241 (.inr (11, [.ref (z + (o + 1)), .int 0, .ref (z + (o + 2)), .ref (z + (o + 27)), .ref (z + (o + 52)), .ref (z + (o + 53)), .ref (z + (o + 54)), .ref (z + (o + 55)), .ref (z + (o + 59)), .ref (z + (o + 63)), .ref (z + (o + 65)), .ref (z + (o + 67))])) (L12.set 53 (on_qa E 5 4 (va_up (fun _ => none) (0 : Int).toNat (some (z + (o + 69)))))) 169 [some (.ref (z + o)), some (.int (on_i 0))] []
  generalize hL13 : (L12.set 53 (on_qa E 5 4 (va_up (fun _ => none) (0 : Int).toNat (some (z + (o + 69)))))) = L13 at hh13 ⊢
  have hg53_13 := ok_setg hL13 hh12 (by decide)
  refine oj_iincg (a := 0) 1 rfl (by decide) (on_c1_ho (i := 0) rfl rfl) (on_ta tX11_init 82 rfl) ?_
  show on_J Y E cX11_init "OppositeNets" 3 52 2 76 6430 z o _ 6241 (.inr (11, [.ref (z + (o + 1)), .int 0, .ref (z + (o + 2)), .ref (z + (o + 27)), .ref (z + (o + 52)), .ref (z + (o + 53)), .ref (z + (o + 54)), .ref (z + (o + 55)), .ref (z + (o + 59)), .ref (z + (o + 63)), .ref (z + (o + 65)), .ref (z + (o + 67))])) L13 172 [some (.ref (z + o)), some (.int (on_i 1))] []
  refine oj_goto (on_ta tX11_init 83 rfl) rfl ?_
  refine oj_iloadn 1 rfl rfl (on_ta tX11_init 72 rfl) ?_
  refine oj_iconst (on_ta tX11_init 73 rfl) ?_
  refine oj_icge (a := 1) (b := 4) (on_ta tX11_init 74 rfl) rfl (by omega) (by omega) (fun _ => ?_) (fun h => absurd h (by decide))
  refine oj_aloadn 0 rfl rfl (on_ta tX11_init 75 rfl) ?_
  refine oj_get 11 6 (N := 12) on_in11 rfl (by decide) kw_2_185 rfl (on_ta tX11_init 76 rfl) ?_
  refine oj_iloadn 1 rfl rfl (on_ta tX11_init 77 rfl) ?_
  refine ok_new 8 (C := "OppositeNets$Slot") (T := TX8) (n := 3) (fs := dfX8) (hh13) rfl on_in8 tyX8 tyX8_ok kw_2_33 kw_2_158 kw_1_12 dfX8_ok (Nat.le_of_ble_eq_true rfl) (Nat.le_of_ble_eq_true rfl) (on_ta tX11_init 78 rfl) ?_
  show on_J Y E cX11_init "OppositeNets" 3 52 2 76 6430 z o _ 6244 (.inr (11, [.ref (z + (o + 1)), .int 0, .ref (z + (o + 2)), .ref (z + (o + 27)), .ref (z + (o + 52)), .ref (z + (o + 53)), .ref (z + (o + 54)), .ref (z + (o + 55)), .ref (z + (o + 59)), .ref (z + (o + 63)), .ref (z + (o + 65)), .ref (z + (o + 67))])) (L13 ++ [.inr (8, dfX8)]) 164 [some (.ref (z + o)), some (.int (on_i 1))] [.ref (z + (o + 71)), .int (on_i (1)), .ref (z + (o + 54))]
  refine oj_dup rfl (on_ta tX11_init 79 rfl) ?_
  refine ok_cN (L := L13) (As := []) (Lc := lfX8 E z (o + 71)) 0 (hh13) kw_2_161 kw_2_160 kw_1_12 ⟨by decide, by decide, rfl⟩ rfl (show ("OppositeNets", 81, (⟨"OppositeNets$Slot", "<init>", "()V"⟩ : MethodName)) ∈ on_nest by decide) rfl (cn_X8) rfl rfl (Nat.le_of_ble_eq_true rfl) (Nat.le_of_ble_eq_true rfl) (on_ta tX11_init 80 rfl) ?_
  have hh14 : ((L13 ++ lfX8 E z (o + 71)) : List va_E).length = 72 := ok_lenC (hh13) (rfl : (lfX8 E z (o + 71)).length = 2)
  show on_J Y E cX11_init "OppositeNets" 3 52 2 76 6430 z o _ 6304 (.inr (11, [.ref (z + (o + 1)), .int 0, .ref (z + (o + 2)), .ref (z + (o + 27)), .ref (z + (o + 52)), .ref (z + (o + 53)), .ref (z + (o + 54)), .ref (z + (o + 55)), .ref (z + (o + 59)), .ref (z + (o + 63)), .ref (z + (o + 65)), .ref (z + (o + 67))])) (L13 ++ lfX8 E z (o + 71)) 168 [some (.ref (z + o)), some (.int (on_i 1))] [.ref (z + (o + 71)), .int (on_i (1)), .ref (z + (o + 54))]
  generalize hL14 : (L13 ++ lfX8 E z (o + 71)) = L14 at hh14 ⊢
  have hg53_14 := ok_appg hL14 hg53_13
  refine oj_aast (j := 53) (i := 70) (ci := 8) (N := 4) (f := (va_up (fun _ => none) (0 : Int).toNat (some (z + (o + 69))))) (x := 1) (tj := 5) (q2 := (RX8, TX8, 3)) hg53_14 rfl (ok_appR hL14 hh13 rfl) rfl (by decide) (by decide) (by decide) (on_ta tX11_init 81 rfl) ?_
  have hh15 : ((L14.set 53 (on_qa E 5 4 (va_up (va_up (fun _ => none) (0 : Int).toNat (some (z + (o + 69)))) (1 : Int).toNat (some (z + (o + 71)))))) : List va_E).length = 72 := ok_lenS (hh14)
  show on_J Y E cX11_init "OppositeNets" 3 52 2 76 6430 z o _ 6304 (.inr (11, [.ref (z + (o + 1)), .int 0, .ref (z + (o + 2)), .ref (z + (o + 27)), .ref (z + (o + 52)), .ref (z + (o + 53)), .ref (z + (o + 54)), .ref (z + (o + 55)), .ref (z + (o + 59)), .ref (z + (o + 63)), .ref (z + (o + 65)), .ref (z + (o + 67))])) (L14.set 53 (on_qa E 5 4 (va_up (va_up (fun _ => none) (0 : Int).toNat (some (z + (o + 69)))) (1 : Int).toNat (some (z + (o + 71)))))) 169 [some (.ref (z + o)), some (.int (on_i 1))] []
  generalize hL15 : (L14.set 53 (on_qa E 5 4 (va_up (va_up (fun _ => none) (0 : Int).toNat (some (z + (o + 69)))) (1 : Int).toNat (some (z + (o + 71)))))) = L15 at hh15 ⊢
  have hg53_15 := ok_setg hL15 hh14 (by decide)
  refine oj_iincg (a := 1) 1 rfl (by decide) (on_c1_ho (i := 0) rfl rfl) (on_ta tX11_init 82 rfl) ?_
  show on_J Y E cX11_init "OppositeNets" 3 52 2 76 6430 z o _ 6304 (.inr (11, [.ref (z + (o + 1)), .int 0, .ref (z + (o + 2)), .ref (z + (o + 27)), .ref (z + (o + 52)), .ref (z + (o + 53)), .ref (z + (o + 54)), .ref (z + (o + 55)), .ref (z + (o + 59)), .ref (z + (o + 63)), .ref (z + (o + 65)), .ref (z + (o + 67))])) L15 172 [some (.ref (z + o)), some (.int (on_i 2))] []
  refine oj_goto (on_ta tX11_init 83 rfl) rfl ?_
  refine oj_iloadn 1 rfl rfl (on_ta tX11_init 72 rfl) ?_
  refine oj_iconst (on_ta tX11_init 73 rfl) ?_
  refine oj_icge (a := 2) (b := 4) (on_ta tX11_init 74 rfl) rfl (by omega) (by omega) (fun _ => ?_) (fun h => absurd h (by decide))
  refine oj_aloadn 0 rfl rfl (on_ta tX11_init 75 rfl) ?_
  refine oj_get 11 6 (N := 12) on_in11 rfl (by decide) kw_2_185 rfl (on_ta tX11_init 76 rfl) ?_
  refine oj_iloadn 1 rfl rfl (on_ta tX11_init 77 rfl) ?_
  refine ok_new 8 (C := "OppositeNets$Slot") (T := TX8) (n := 3) (fs := dfX8) (hh15) rfl on_in8 tyX8 tyX8_ok kw_2_33 kw_2_158 kw_1_12 dfX8_ok (Nat.le_of_ble_eq_true rfl) (Nat.le_of_ble_eq_true rfl) (on_ta tX11_init 78 rfl) ?_
  show on_J Y E cX11_init "OppositeNets" 3 52 2 76 6430 z o _ 6307 (.inr (11, [.ref (z + (o + 1)), .int 0, .ref (z + (o + 2)), .ref (z + (o + 27)), .ref (z + (o + 52)), .ref (z + (o + 53)), .ref (z + (o + 54)), .ref (z + (o + 55)), .ref (z + (o + 59)), .ref (z + (o + 63)), .ref (z + (o + 65)), .ref (z + (o + 67))])) (L15 ++ [.inr (8, dfX8)]) 164 [some (.ref (z + o)), some (.int (on_i 2))] [.ref (z + (o + 73)), .int (on_i (2)), .ref (z + (o + 54))]
  refine oj_dup rfl (on_ta tX11_init 79 rfl) ?_
  refine ok_cN (L := L15) (As := []) (Lc := lfX8 E z (o + 73)) 0 (hh15) kw_2_161 kw_2_160 kw_1_12 ⟨by decide, by decide, rfl⟩ rfl (show ("OppositeNets", 81, (⟨"OppositeNets$Slot", "<init>", "()V"⟩ : MethodName)) ∈ on_nest by decide) rfl (cn_X8) rfl rfl (Nat.le_of_ble_eq_true rfl) (Nat.le_of_ble_eq_true rfl) (on_ta tX11_init 80 rfl) ?_
  have hh16 : ((L15 ++ lfX8 E z (o + 73)) : List va_E).length = 74 := ok_lenC (hh15) (rfl : (lfX8 E z (o + 73)).length = 2)
  show on_J Y E cX11_init "OppositeNets" 3 52 2 76 6430 z o _ 6367 (.inr (11, [.ref (z + (o + 1)), .int 0, .ref (z + (o + 2)), .ref (z + (o + 27)), .ref (z + (o + 52)), .ref (z + (o + 53)), .ref (z + (o + 54)), .ref (z + (o + 55)), .ref (z + (o + 59)), .ref (z + (o + 63)), .ref (z + (o + 65)), .ref (z + (o + 67))])) (L15 ++ lfX8 E z (o + 73)) 168 [some (.ref (z + o)), some (.int (on_i 2))] [.ref (z + (o + 73)), .int (on_i (2)), .ref (z + (o + 54))]
  generalize hL16 : (L15 ++ lfX8 E z (o + 73)) = L16 at hh16 ⊢
  have hg53_16 := ok_appg hL16 hg53_15
  refine oj_aast (j := 53) (i := 72) (ci := 8) (N := 4) (f := (va_up (va_up (fun _ => none) (0 : Int).toNat (some (z + (o + 69)))) (1 : Int).toNat (some (z + (o + 71))))) (x := 2) (tj := 5) (q2 := (RX8, TX8, 3)) hg53_16 rfl (ok_appR hL16 hh15 rfl) rfl (by decide) (by decide) (by decide) (on_ta tX11_init 81 rfl) ?_
  have hh17 : ((L16.set 53 (on_qa E 5 4 (va_up (va_up (va_up (fun _ => none) (0 : Int).toNat (some (z + (o + 69)))) (1 : Int).toNat (some (z + (o + 71)))) (2 : Int).toNat (some (z + (o + 73)))))) : List va_E).length = 74 := ok_lenS (hh16)
  show on_J Y E cX11_init "OppositeNets" 3 52 2 76 6430 z o _ 6367 (.inr (11, [.ref (z + (o + 1)), .int 0, .ref (z + (o + 2)), .ref (z + (o + 27)), .ref (z + (o + 52)), .ref (z + (o + 53)), .ref (z + (o + 54)), .ref (z + (o + 55)), .ref (z + (o + 59)), .ref (z + (o + 63)), .ref (z + (o + 65)), .ref (z + (o + 67))])) (L16.set 53 (on_qa E 5 4 (va_up (va_up (va_up (fun _ => none) (0 : Int).toNat (some (z + (o + 69)))) (1 : Int).toNat (some (z + (o + 71)))) (2 : Int).toNat (some (z + (o + 73)))))) 169 [some (.ref (z + o)), some (.int (on_i 2))] []
  generalize hL17 : (L16.set 53 (on_qa E 5 4 (va_up (va_up (va_up (fun _ => none) (0 : Int).toNat (some (z + (o + 69)))) (1 : Int).toNat (some (z + (o + 71)))) (2 : Int).toNat (some (z + (o + 73)))))) = L17 at hh17 ⊢
  have hg53_17 := ok_setg hL17 hh16 (by decide)
  refine oj_iincg (a := 2) 1 rfl (by decide) (on_c1_ho (i := 0) rfl rfl) (on_ta tX11_init 82 rfl) ?_
  show on_J Y E cX11_init "OppositeNets" 3 52 2 76 6430 z o _ 6367 (.inr (11, [.ref (z + (o + 1)), .int 0, .ref (z + (o + 2)), .ref (z + (o + 27)), .ref (z + (o + 52)), .ref (z + (o + 53)), .ref (z + (o + 54)), .ref (z + (o + 55)), .ref (z + (o + 59)), .ref (z + (o + 63)), .ref (z + (o + 65)), .ref (z + (o + 67))])) L17 172 [some (.ref (z + o)), some (.int (on_i 3))] []
  refine oj_goto (on_ta tX11_init 83 rfl) rfl ?_
  refine oj_iloadn 1 rfl rfl (on_ta tX11_init 72 rfl) ?_
  refine oj_iconst (on_ta tX11_init 73 rfl) ?_
  refine oj_icge (a := 3) (b := 4) (on_ta tX11_init 74 rfl) rfl (by omega) (by omega) (fun _ => ?_) (fun h => absurd h (by decide))
  refine oj_aloadn 0 rfl rfl (on_ta tX11_init 75 rfl) ?_
  refine oj_get 11 6 (N := 12) on_in11 rfl (by decide) kw_2_185 rfl (on_ta tX11_init 76 rfl) ?_
  refine oj_iloadn 1 rfl rfl (on_ta tX11_init 77 rfl) ?_
  refine ok_new 8 (C := "OppositeNets$Slot") (T := TX8) (n := 3) (fs := dfX8) (hh17) rfl on_in8 tyX8 tyX8_ok kw_2_33 kw_2_158 kw_1_12 dfX8_ok (Nat.le_of_ble_eq_true rfl) (Nat.le_of_ble_eq_true rfl) (on_ta tX11_init 78 rfl) ?_
  show on_J Y E cX11_init "OppositeNets" 3 52 2 76 6430 z o _ 6370 (.inr (11, [.ref (z + (o + 1)), .int 0, .ref (z + (o + 2)), .ref (z + (o + 27)), .ref (z + (o + 52)), .ref (z + (o + 53)), .ref (z + (o + 54)), .ref (z + (o + 55)), .ref (z + (o + 59)), .ref (z + (o + 63)), .ref (z + (o + 65)), .ref (z + (o + 67))])) (L17 ++ [.inr (8, dfX8)]) 164 [some (.ref (z + o)), some (.int (on_i 3))] [.ref (z + (o + 75)), .int (on_i (3)), .ref (z + (o + 54))]
  refine oj_dup rfl (on_ta tX11_init 79 rfl) ?_
  refine ok_cN (L := L17) (As := []) (Lc := lfX8 E z (o + 75)) 0 (hh17) kw_2_161 kw_2_160 kw_1_12 ⟨by decide, by decide, rfl⟩ rfl (show ("OppositeNets", 81, (⟨"OppositeNets$Slot", "<init>", "()V"⟩ : MethodName)) ∈ on_nest by decide) rfl (cn_X8) rfl rfl (Nat.le_of_ble_eq_true rfl) (Nat.le_of_ble_eq_true rfl) (on_ta tX11_init 80 rfl) ?_
  have hh18 : ((L17 ++ lfX8 E z (o + 75)) : List va_E).length = 76 := ok_lenC (hh17) (rfl : (lfX8 E z (o + 75)).length = 2)
  show on_J Y E cX11_init "OppositeNets" 3 52 2 76 6430 z o _ 6430 (.inr (11, [.ref (z + (o + 1)), .int 0, .ref (z + (o + 2)), .ref (z + (o + 27)), .ref (z + (o + 52)), .ref (z + (o + 53)), .ref (z + (o + 54)), .ref (z + (o + 55)), .ref (z + (o + 59)), .ref (z + (o + 63)), .ref (z + (o + 65)), .ref (z + (o + 67))])) (L17 ++ lfX8 E z (o + 75)) 168 [some (.ref (z + o)), some (.int (on_i 3))] [.ref (z + (o + 75)), .int (on_i (3)), .ref (z + (o + 54))]
  generalize hL18 : (L17 ++ lfX8 E z (o + 75)) = L18 at hh18 ⊢
  have hg53_18 := ok_appg hL18 hg53_17
  refine oj_aast (j := 53) (i := 74) (ci := 8) (N := 4) (f := (va_up (va_up (va_up (fun _ => none) (0 : Int).toNat (some (z + (o + 69)))) (1 : Int).toNat (some (z + (o + 71)))) (2 : Int).toNat (some (z + (o + 73))))) (x := 3) (tj := 5) (q2 := (RX8, TX8, 3)) hg53_18 rfl (ok_appR hL18 hh17 rfl) rfl (by decide) (by decide) (by decide) (on_ta tX11_init 81 rfl) ?_
  have hh19 : ((L18.set 53 (on_qa E 5 4 (va_up (va_up (va_up (va_up (fun _ => none) (0 : Int).toNat (some (z + (o + 69)))) (1 : Int).toNat (some (z + (o + 71)))) (2 : Int).toNat (some (z + (o + 73)))) (3 : Int).toNat (some (z + (o + 75)))))) : List va_E).length = 76 := ok_lenS (hh18)
  show on_J Y E cX11_init "OppositeNets" 3 52 2 76 6430 z o _ 6430 (.inr (11, [.ref (z + (o + 1)), .int 0, .ref (z + (o + 2)), .ref (z + (o + 27)), .ref (z + (o + 52)), .ref (z + (o + 53)), .ref (z + (o + 54)), .ref (z + (o + 55)), .ref (z + (o + 59)), .ref (z + (o + 63)), .ref (z + (o + 65)), .ref (z + (o + 67))])) (L18.set 53 (on_qa E 5 4 (va_up (va_up (va_up (va_up (fun _ => none) (0 : Int).toNat (some (z + (o + 69)))) (1 : Int).toNat (some (z + (o + 71)))) (2 : Int).toNat (some (z + (o + 73)))) (3 : Int).toNat (some (z + (o + 75)))))) 169 [some (.ref (z + o)), some (.int (on_i 3))] []
  generalize hL19 : (L18.set 53 (on_qa E 5 4 (va_up (va_up (va_up (va_up (fun _ => none) (0 : Int).toNat (some (z + (o + 69)))) (1 : Int).toNat (some (z + (o + 71)))) (2 : Int).toNat (some (z + (o + 73)))) (3 : Int).toNat (some (z + (o + 75)))))) = L19 at hh19 ⊢
  have hg53_19 := ok_setg hL19 hh18 (by decide)
  refine oj_iincg (a := 3) 1 rfl (by decide) (on_c1_ho (i := 0) rfl rfl) (on_ta tX11_init 82 rfl) ?_
  show on_J Y E cX11_init "OppositeNets" 3 52 2 76 6430 z o _ 6430 (.inr (11, [.ref (z + (o + 1)), .int 0, .ref (z + (o + 2)), .ref (z + (o + 27)), .ref (z + (o + 52)), .ref (z + (o + 53)), .ref (z + (o + 54)), .ref (z + (o + 55)), .ref (z + (o + 59)), .ref (z + (o + 63)), .ref (z + (o + 65)), .ref (z + (o + 67))])) L19 172 [some (.ref (z + o)), some (.int (on_i 4))] []
  refine oj_goto (on_ta tX11_init 83 rfl) rfl ?_
  refine oj_iloadn 1 rfl rfl (on_ta tX11_init 72 rfl) ?_
  refine oj_iconst (on_ta tX11_init 73 rfl) ?_
  refine oj_icge (a := 4) (b := 4) (on_ta tX11_init 74 rfl) rfl (by omega) (by omega) (fun h => absurd h (by decide)) (fun _ => ?_)
  exact ok_ret (hh19) (by subst hL1 hL2 hL3 hL4 hL5 hL6 hL7 hL8 hL9 hL10 hL11 hL12 hL13 hL14 hL15 hL16 hL17 hL18 hL19; rfl) (on_ta tX11_init 84 rfl) (Nat.le_of_ble_eq_true rfl) (Nat.le_of_ble_eq_true rfl)
