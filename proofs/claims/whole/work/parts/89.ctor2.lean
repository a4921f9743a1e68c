/-! constructors: calls; the small ones; the street's -/
section ONK
variable {Y : on_Y} {E : on_E} {cc : ByteArray} {own : String} {fr lo nL mc ms z o ks : Nat} {Lf : List va_E} {e0 : va_E} {L : List va_E} {pc pc2 tgt : Nat} {lv : List (Option Value)} {st rest : List Value} {a b : Int}
theorem oj_blind {E : on_E} {z o : Nat} {e0 : va_E} {av : List Value} : FrameBlind (va_Pc av (fun U => on_Rj E z o [e0] U.heap ∧ va_K E.2.1 vwCl (on_tys E) U ∧ on_Ex E z U)) := by
  intro a U g mk h
  obtain ⟨h1, h2, h3, h4⟩ := h
  exact ⟨h1, h2, va_K.moved (u := U) (U := U.calling g mk a) (Vm.Alike.refl U.vm) h3, on_Ex.same (u := U) rfl rfl h4⟩
/-- behind a constructor's call -/
theorem oj_run {p : Program} {l : Launch} {e : Env} {R : Room} {s : State} {m : MethodId} {args : Array Value} {below : List Frame} {meth : Method} {c : Code} {H : Heap} {locs : List Loc} {Q : State → Prop} {ls : Array Slot} {st0 : List Value} {a : Array Value} {o2 cl sl mc2 ms2 : Nat} {d : va_E} {Lc : List va_E} (ho : o2 = o + (L.length + 1)) (hr : va_Run p l e R s m args below meth c H locs cl sl mc2 ms2 (F0 m pc ls st0) rest (on_Qn E z o2 Lc a) (fun q => z + o2 ≤ q)) (hP : on_Rj E z o (e0 :: (L ++ [d])) H) (hS : va_S (fun q => z + o ≤ q) s.heap H locs)
    (kk : ∀ (H1 : Heap) (locs1 : List Loc), on_Rj E z o (e0 :: (L ++ Lc)) H1 → va_S (fun q => z + o ≤ q) s.heap H1 locs1 → W p l e R s m args below meth c H1 locs1 (cl + mc2) (sl + ms2) Q (F0 m (pc + 3) ls rest)) : W p l e R s m args below meth c H locs cl sl Q (F0 m pc ls st0) := by
  intro T hT X
  obtain ⟨v, st₀, t, T', Lx, h0, X', hL, e1, e2, ⟨hv, hj, hz, hk⟩, st⟩ := hr T hT X
  cases hv
  subst ho
  rw [h0] at hz hk
  have hP0 : va_P E.2.1 vwCl (on_wl z o (e0 :: L)) H := by
    have h := hP.2
    rw [show e0 :: (L ++ [d]) = (e0 :: L) ++ [d] from rfl, on_wl_app] at h
    intro k q hq
    refine h k q ?_
    rw [List.getElem?_append_left (List.getElem?_eq_some_iff.mp hq).1]
    exact hq
  have hsz := hP.1
  have hN : on_Rj E z o (e0 :: (L ++ Lc)) T'.heap := by
    rw [e1]
    refine ⟨by rw [hj.1]; show z + (o + (L.length + 1) + Lc.length) = z + (o + ((L ++ Lc).length + 1)); rw [List.length_append]; omega, ?_⟩
    rw [show e0 :: (L ++ Lc) = (e0 :: L) ++ Lc from rfl, on_wl_app]
    refine (va_P.kept hP0 (fun k x hx => ?_)).app hj.2
    obtain ⟨y, hy, rfl⟩ := on_wl_inv hx
    have hlt : k < (e0 :: L).length := (List.getElem?_eq_some_iff.mp hy).1
    have hl2 : (e0 :: L).length = L.length + 1 := rfl
    have hl3 : (e0 :: (L ++ [d])).length = L.length + 2 := by simp
    exact hk _ (by show z + (o + k) < H.size; omega) (by show ¬ z + (o + (L.length + 1)) ≤ z + (o + k); omega)
  obtain ⟨t2, a1, b1⟩ := kk T'.heap (locs ++ Lx) hN ⟨Nat.le_trans hS.1 (by rw [e1]; exact hz), fun q h1 h2 => by rw [e1, hk q (Nat.lt_of_lt_of_le h1 hS.1) (fun h => h2 (by show z + o ≤ q; omega))]; exact hS.2.1 q h1 h2, fun q hq => by
      rcases List.mem_append.mp hq with h | h
      · exact hS.2.2 q h
      · have := hL q h; show z + o ≤ q.base; omega⟩ T' rfl X'
  exact ⟨t2, st t2 a1, b1⟩
theorem oj_lastP {d : va_E} {H : Heap} (hP : on_Rj E z o (e0 :: (L ++ [d])) H) : on_Rj E z (o + (L.length + 1)) [d] H := by
  refine ⟨by rw [hP.1]; show z + (o + ((L ++ [d]).length + 1)) = z + (o + (L.length + 1) + 1); rw [List.length_append]; show z + (o + (L.length + 1 + 1)) = _; omega, ?_⟩
  have h := hP.2
  rw [show e0 :: (L ++ [d]) = (e0 :: L) ++ [d] from rfl, on_wl_app] at h
  intro k q hq
  refine h ((on_wl z o (e0 :: L)).length + k) q ?_
  rw [List.getElem?_append_right (Nat.le_add_right _ _), Nat.add_sub_cancel_left]
  exact hq
theorem oj_cI {y2 : MethodName} {cy : ByteArray} {ny fr2 lo2 mc2 ms2 idx : Nat} {d : va_E} {As : List Value} {Lc : List va_E} (n : Nat) (hcode : Cond.code y2 cy ny none ∈ on_T) (hinst : Cond.instanceMethod y2 ∈ on_T) (hini : Cond.initialized y2.cls ∈ on_T) (hmh : y2.cls ≠ "java/lang/invoke/MethodHandle" ∧ y2.cls ≠ "java/lang/invoke/VarHandle" ∧ (parseMethodDescriptor y2.desc).map (fun d => d.parameters.length) = some n) (hyn : y2.name = "<init>") (hw : Cond.methodLink own idx y2 ∈ on_T) (hlen : As.length = n) (hc : on_Cn E y2 cy ny fr2 lo2 mc2 ms2 z (o + (L.length + 1)) As d Lc) (hLc : Lc.length = mc2 + 1) (hr : on_ok fr2 ny lo2 fr lo rest = true) (hcl : L.length + 1 + mc2 ≤ mc) (hsl : ks + ms2 ≤ ms) (hd : on_dq cc pc 3 pc2 (.invokespecial idx)) (k : on_J Y E cc own fr lo nL mc ms z o Lf (ks + ms2) e0 (L ++ Lc) pc2 lv rest) : on_J Y E cc own fr lo nL mc ms z o Lf ks e0 (L ++ [d]) pc lv (As.reverse ++ .ref (z + (o + (L.length + 1))) :: rest) := by
  obtain ⟨p, e, R, s, m, args, below, meth, c⟩ := Y
  intro hC H locs ls hP hS hl
  obtain ⟨cx, cb, cm, co, ct, cK, cE, ck, cr, cR, cz, cn⟩ := id hC
  obtain ⟨hd, rfl⟩ := hd
  subst cR
  simp only [on_ok, Bool.and_eq_true] at hr
  obtain ⟨⟨r1, r2⟩, r3⟩ := hr
  have cb' : CallB _ s args own idx y2 cy ny none (.code y2 cy ny none :: on_T) { frames := fr2, cells := mc2, slots := ms2, locals := lo2 } mc2 ms2 n := callB_of (R := { frames := fr, cells := mc, slots := ms, locals := lo }) n ct (on_goodT hcode) rfl rfl rfl (ct _ hini) (ct _ hw) hmh ⟨Nat.le_of_ble_eq_true r1, Nat.le_of_ble_eq_true r2⟩
  rw [show (L ++ [d]).length = L.length + 1 by rw [List.length_append]; rfl]
  refine oj_run (mc2 := mc2) (ms2 := ms2) rfl (va_runI (As := As) (rest := rest) ⟨cx, cb, cm, co, ct⟩ hc ⟨cb', hyn, ct _ hinst⟩ ⟨oj_blind, ?_⟩ rfl hlen hl.1 rfl (lv_room (Nat.le_of_ble_eq_true r3)) hd ⟨hcl, hsl⟩) hP hS ?_
  · intro U hU hW
    exact ⟨rfl, by rw [hU]; exact oj_lastP hP, va_K.moved hW.alike cK, cE.warm hW (fun q h1 h2 => by rw [hU]; exact hS.2.1 q h1 (fun h => h2 (by show z ≤ q; omega)))⟩
  · intro H1 locs1 g1 g2
    have K := k hC H1 locs1 ls g1 g2 hl
    rw [show L.length + 1 + mc2 = (L ++ Lc).length by rw [List.length_append, hLc]; omega]
    exact K
theorem oj_cN {y2 : MethodName} {cy : ByteArray} {ny fr2 lo2 mc2 ms2 idx : Nat} {d : va_E} {As : List Value} {Lc : List va_E} (n : Nat) (hcode : Cond.code y2 cy ny none ∈ on_T) (hinst : Cond.instanceMethod y2 ∈ on_T) (hini : Cond.initialized y2.cls ∈ on_T) (hmh : y2.cls ≠ "java/lang/invoke/MethodHandle" ∧ y2.cls ≠ "java/lang/invoke/VarHandle" ∧ (parseMethodDescriptor y2.desc).map (fun d => d.parameters.length) = some n) (hyn : y2.name = "<init>") (hw : (own, idx, y2) ∈ on_nest) (hlen : As.length = n) (hc : on_Cn E y2 cy ny fr2 lo2 mc2 ms2 z (o + (L.length + 1)) As d Lc) (hLc : Lc.length = mc2 + 1) (hr : on_ok fr2 ny lo2 fr lo rest = true) (hcl : L.length + 1 + mc2 ≤ mc) (hsl : ks + ms2 ≤ ms) (hd : on_dq cc pc 3 pc2 (.invokespecial idx)) (k : on_J Y E cc own fr lo nL mc ms z o Lf (ks + ms2) e0 (L ++ Lc) pc2 lv rest) : on_J Y E cc own fr lo nL mc ms z o Lf ks e0 (L ++ [d]) pc lv (As.reverse ++ .ref (z + (o + (L.length + 1))) :: rest) := by
  obtain ⟨p, e, R, s, m, args, below, meth, c⟩ := Y
  intro hC H locs ls hP hS hl
  obtain ⟨cx, cb, cm, co, ct, cK, cE, ck, cr, cR, cz, cn⟩ := id hC
  obtain ⟨hd, rfl⟩ := hd
  subst cR
  simp only [on_ok, Bool.and_eq_true] at hr
  obtain ⟨⟨r1, r2⟩, r3⟩ := hr
  have cb' : va_CN _ s args own idx y2 "OppositeNets" cy ny none (.code y2 cy ny none :: on_T) { frames := fr2, cells := mc2, slots := ms2, locals := lo2 } mc2 ms2 n := va_cnB (R := { frames := fr, cells := mc, slots := ms, locals := lo }) n ct (on_goodT hcode) rfl rfl rfl (cE.2.2.2.1 _ hw) (ct _ hini) hmh ⟨Nat.le_of_ble_eq_true r1, Nat.le_of_ble_eq_true r2⟩
  rw [show (L ++ [d]).length = L.length + 1 by rw [List.length_append]; rfl]
  refine oj_run (mc2 := mc2) (ms2 := ms2) rfl (va_runIN (As := As) (rest := rest) ⟨cx, cb, cm, co, ct⟩ hc ⟨cb', hyn, ct _ hinst⟩ ⟨oj_blind, ?_⟩ rfl hlen hl.1 rfl (lv_room (Nat.le_of_ble_eq_true r3)) hd ⟨hcl, hsl⟩) hP hS ?_
  · intro U hU hW
    exact ⟨rfl, by rw [hU]; exact oj_lastP hP, va_K.moved hW.alike cK, cE.warm hW (fun q h1 h2 => by rw [hU]; exact hS.2.1 q h1 (fun h => h2 (by show z ≤ q; omega)))⟩
  · intro H1 locs1 g1 g2
    have K := k hC H1 locs1 ls g1 g2 hl
    rw [show L.length + 1 + mc2 = (L ++ Lc).length by rw [List.length_append, hLc]; omega]
    exact K
end ONK
def dX2_init : List (Nat × Nat × Nat × Instr) := [(0, 1, 1, .aload_n 0), (1, 3, 4, .invokespecial 3), (4, 1, 5, .aload_n 0), (5, 2, 7, .bipush 60), (7, 2, 9, .newarray .int), (9, 3, 12, .putfield 9), (12, 1, 13, .aload_n 0), (13, 2, 15, .bipush 60), (15, 2, 17, .newarray .int), (17, 3, 20, .putfield 15), (20, 1, 21, .aload_n 0), (21, 3, 24, .sipush 240), (24, 2, 26, .newarray .int), (26, 3, 29, .putfield 18), (29, 1, 30, .return_)]
theorem tX2_init : on_tab cX2_init dX2_init = true := by decide +kernel
def dfX2 : List Value := [.int 0, .null, .null, .null]
theorem dfX2_ok : ∀ j, j < 4 → defaultValue (tyX2 j) = vp_V dfX2 j := fun j hj => by
  have h : j = 0 ∨ j = 1 ∨ j = 2 ∨ j = 3 := by omega
  rcases h with h | h | h | h <;> subst h <;> rfl
def lfX2 (E : on_E) (z o : Nat) : List va_E := .inr (2, [.int 0, .ref (z + (o + 1)), .ref (z + (o + 2)), .ref (z + (o + 3))]) :: ([.inl (on_ca E 0, (60, .inl fun _ => 0)), .inl (on_ca E 0, (60, .inl fun _ => 0)), .inl (on_ca E 0, (240, .inl fun _ => 0))])
theorem cn_X2 {E : on_E} {z o : Nat} : on_Cn E yX2_init cX2_init 1 1 12 3 360 z o [] (.inr (2, dfX2)) (lfX2 E z o) := by
  refine on_ctor (lv := [some (.ref (z + o))]) (by decide) rfl rfl rfl (fun Y => ?_)
  show on_J Y E cX2_init "OppositeNets$Jumps" 1 12 1 3 360 z o _ 0 _ [] 0 _ []
  refine oj_aloadn 0 rfl rfl (on_ta tX2_init 0 rfl) ?_
  refine oj_obj kw_1_133 kw_1_28 kw_1_29 (by decide) (by decide) (on_ta tX2_init 1 rfl) ?_
  refine oj_aloadn 0 rfl rfl (on_ta tX2_init 2 rfl) ?_
  refine oj_bipush (on_ta tX2_init 3 rfl) rfl ?_
  refine oj_newi (N := 60) (by decide) (Nat.le_of_ble_eq_true rfl) (Nat.le_of_ble_eq_true rfl) kw_1_79 (on_ta tX2_init 4 rfl) ?_
  refine oj_putF (own := "OppositeNets$Jumps") (T := TX2) (N := 4) 2 1 on_in2 tyX2 tyX2_ok nmX2 rfl (by decide) rfl rfl kw_1_137 rfl rfl rfl (Nat.le_of_ble_eq_true rfl) (on_ta tX2_init 5 rfl) ?_
  refine oj_aloadn 0 rfl rfl (on_ta tX2_init 6 rfl) ?_
  refine oj_bipush (on_ta tX2_init 7 rfl) rfl ?_
  refine oj_newi (N := 60) (by decide) (Nat.le_of_ble_eq_true rfl) (Nat.le_of_ble_eq_true rfl) kw_1_79 (on_ta tX2_init 8 rfl) ?_
  refine oj_putF (own := "OppositeNets$Jumps") (T := TX2) (N := 4) 2 2 on_in2 tyX2 tyX2_ok nmX2 rfl (by decide) rfl rfl kw_1_139 rfl rfl rfl (Nat.le_of_ble_eq_true rfl) (on_ta tX2_init 9 rfl) ?_
  refine oj_aloadn 0 rfl rfl (on_ta tX2_init 10 rfl) ?_
  refine oj_sipush (on_ta tX2_init 11 rfl) rfl ?_
  refine oj_newi (N := 240) (by decide) (Nat.le_of_ble_eq_true rfl) (Nat.le_of_ble_eq_true rfl) kw_1_79 (on_ta tX2_init 12 rfl) ?_
  refine oj_putF (own := "OppositeNets$Jumps") (T := TX2) (N := 4) 2 3 on_in2 tyX2 tyX2_ok nmX2 rfl (by decide) rfl rfl kw_1_141 rfl rfl rfl (Nat.le_of_ble_eq_true rfl) (on_ta tX2_init 13 rfl) ?_
  exact oj_ret rfl (on_ta tX2_init 14 rfl) (Nat.le_of_ble_eq_true rfl) (Nat.le_of_ble_eq_true rfl)
def dX3_init : List (Nat × Nat × Nat × Instr) := [(0, 1, 1, .aload_n 0), (1, 3, 4, .invokespecial 3), (4, 1, 5, .aload_n 0), (5, 2, 7, .bipush 9), (7, 2, 9, .newarray .int), (9, 3, 12, .putfield 9), (12, 1, 13, .aload_n 0), (13, 2, 15, .bipush 9), (15, 2, 17, .newarray .int), (17, 3, 20, .putfield 15), (20, 1, 21, .aload_n 0), (21, 2, 23, .bipush 9), (23, 2, 25, .newarray .int), (25, 3, 28, .putfield 18), (28, 1, 29, .aload_n 0), (29, 2, 31, .bipush 9), (31, 2, 33, .newarray .int), (33, 3, 36, .putfield 21), (36, 1, 37, .aload_n 0), (37, 2, 39, .bipush 81), (39, 2, 41, .newarray .int), (41, 3, 44, .putfield 24), (44, 1, 45, .return_)]
theorem tX3_init : on_tab cX3_init dX3_init = true := by decide +kernel
def dfX3 : List Value := [.int 0, .null, .null, .null, .null, .null]
theorem dfX3_ok : ∀ j, j < 6 → defaultValue (tyX3 j) = vp_V dfX3 j := fun j hj => by
  have h : j = 0 ∨ j = 1 ∨ j = 2 ∨ j = 3 ∨ j = 4 ∨ j = 5 := by omega
  rcases h with h | h | h | h | h | h <;> subst h <;> rfl
def lfX3 (E : on_E) (z o : Nat) : List va_E := .inr (3, [.int 0, .ref (z + (o + 1)), .ref (z + (o + 2)), .ref (z + (o + 3)), .ref (z + (o + 4)), .ref (z + (o + 5))]) :: ([.inl (on_ca E 0, (9, .inl fun _ => 0)), .inl (on_ca E 0, (9, .inl fun _ => 0)), .inl (on_ca E 0, (9, .inl fun _ => 0)), .inl (on_ca E 0, (9, .inl fun _ => 0)), .inl (on_ca E 0, (81, .inl fun _ => 0))])
theorem cn_X3 {E : on_E} {z o : Nat} : on_Cn E yX3_init cX3_init 1 1 12 5 117 z o [] (.inr (3, dfX3)) (lfX3 E z o) := by
  refine on_ctor (lv := [some (.ref (z + o))]) (by decide) rfl rfl rfl (fun Y => ?_)
  show on_J Y E cX3_init "OppositeNets$Men" 1 12 1 5 117 z o _ 0 _ [] 0 _ []
  refine oj_aloadn 0 rfl rfl (on_ta tX3_init 0 rfl) ?_
  refine oj_obj kw_1_41 kw_1_28 kw_1_29 (by decide) (by decide) (on_ta tX3_init 1 rfl) ?_
  refine oj_aloadn 0 rfl rfl (on_ta tX3_init 2 rfl) ?_
  refine oj_bipush (on_ta tX3_init 3 rfl) rfl ?_
  refine oj_newi (N := 9) (by decide) (Nat.le_of_ble_eq_true rfl) (Nat.le_of_ble_eq_true rfl) kw_1_79 (on_ta tX3_init 4 rfl) ?_
  refine oj_putF (own := "OppositeNets$Men") (T := TX3) (N := 6) 3 1 on_in3 tyX3 tyX3_ok nmX3 rfl (by decide) rfl rfl kw_1_48 rfl rfl rfl (Nat.le_of_ble_eq_true rfl) (on_ta tX3_init 5 rfl) ?_
  refine oj_aloadn 0 rfl rfl (on_ta tX3_init 6 rfl) ?_
  refine oj_bipush (on_ta tX3_init 7 rfl) rfl ?_
  refine oj_newi (N := 9) (by decide) (Nat.le_of_ble_eq_true rfl) (Nat.le_of_ble_eq_true rfl) kw_1_79 (on_ta tX3_init 8 rfl) ?_
  refine oj_putF (own := "OppositeNets$Men") (T := TX3) (N := 6) 3 2 on_in3 tyX3 tyX3_ok nmX3 rfl (by decide) rfl rfl kw_1_52 rfl rfl rfl (Nat.le_of_ble_eq_true rfl) (on_ta tX3_init 9 rfl) ?_
  refine oj_aloadn 0 rfl rfl (on_ta tX3_init 10 rfl) ?_
  refine oj_bipush (on_ta tX3_init 11 rfl) rfl ?_
  refine oj_newi (N := 9) (by decide) (Nat.le_of_ble_eq_true rfl) (Nat.le_of_ble_eq_true rfl) kw_1_79 (on_ta tX3_init 12 rfl) ?_
  refine oj_putF (own := "OppositeNets$Men") (T := TX3) (N := 6) 3 3 on_in3 tyX3 tyX3_ok nmX3 rfl (by decide) rfl rfl kw_1_56 rfl rfl rfl (Nat.le_of_ble_eq_true rfl) (on_ta tX3_init 13 rfl) ?_
  refine oj_aloadn 0 rfl rfl (on_ta tX3_init 14 rfl) ?_
  refine oj_bipush (on_ta tX3_init 15 rfl) rfl ?_
  refine oj_newi (N := 9) (by decide) (Nat.le_of_ble_eq_true rfl) (Nat.le_of_ble_eq_true rfl) kw_1_79 (on_ta tX3_init 16 rfl) ?_
  refine oj_putF (own := "OppositeNets$Men") (T := TX3) (N := 6) 3 4 on_in3 tyX3 tyX3_ok nmX3 rfl (by decide) rfl rfl kw_1_60 rfl rfl rfl (Nat.le_of_ble_eq_true rfl) (on_ta tX3_init 17 rfl) ?_
  refine oj_aloadn 0 rfl rfl (on_ta tX3_init 18 rfl) ?_
  refine oj_bipush (on_ta tX3_init 19 rfl) rfl ?_
  refine oj_newi (N := 81) (by decide) (Nat.le_of_ble_eq_true rfl) (Nat.le_of_ble_eq_true rfl) kw_1_79 (on_ta tX3_init 20 rfl) ?_
  refine oj_putF (own := "OppositeNets$Men") (T := TX3) (N := 6) 3 5 on_in3 tyX3 tyX3_ok nmX3 rfl (by decide) rfl rfl kw_1_63 rfl rfl rfl (Nat.le_of_ble_eq_true rfl) (on_ta tX3_init 21 rfl) ?_
  exact oj_ret rfl (on_ta tX3_init 22 rfl) (Nat.le_of_ble_eq_true rfl) (Nat.le_of_ble_eq_true rfl)
def dX4_init : List (Nat × Nat × Nat × Instr) := [(0, 1, 1, .aload_n 0), (1, 3, 4, .invokespecial 3), (4, 1, 5, .aload_n 0), (5, 1, 6, .iconst 2), (6, 2, 8, .newarray .int), (8, 3, 11, .putfield 9), (11, 1, 12, .aload_n 0), (12, 1, 13, .iconst 2), (13, 2, 15, .newarray .int), (15, 3, 18, .putfield 15), (18, 1, 19, .aload_n 0), (19, 1, 20, .iconst 2), (20, 2, 22, .newarray .int), (22, 3, 25, .putfield 18), (25, 1, 26, .aload_n 0), (26, 2, 28, .bipush 8), (28, 2, 30, .newarray .int), (30, 3, 33, .putfield 21), (33, 1, 34, .aload_n 0), (34, 2, 36, .bipush 8), (36, 2, 38, .newarray .int), (38, 3, 41, .putfield 24), (41, 1, 42, .return_)]
theorem tX4_init : on_tab cX4_init dX4_init = true := by decide +kernel
def dfX4 : List Value := [.int 0, .null, .null, .null, .null, .null]
theorem dfX4_ok : ∀ j, j < 6 → defaultValue (tyX4 j) = vp_V dfX4 j := fun j hj => by
  have h : j = 0 ∨ j = 1 ∨ j = 2 ∨ j = 3 ∨ j = 4 ∨ j = 5 := by omega
  rcases h with h | h | h | h | h | h <;> subst h <;> rfl
def lfX4 (E : on_E) (z o : Nat) : List va_E := .inr (4, [.int 0, .ref (z + (o + 1)), .ref (z + (o + 2)), .ref (z + (o + 3)), .ref (z + (o + 4)), .ref (z + (o + 5))]) :: ([.inl (on_ca E 0, (2, .inl fun _ => 0)), .inl (on_ca E 0, (2, .inl fun _ => 0)), .inl (on_ca E 0, (2, .inl fun _ => 0)), .inl (on_ca E 0, (8, .inl fun _ => 0)), .inl (on_ca E 0, (8, .inl fun _ => 0))])
theorem cn_X4 {E : on_E} {z o : Nat} : on_Cn E yX4_init cX4_init 1 1 12 5 22 z o [] (.inr (4, dfX4)) (lfX4 E z o) := by
  refine on_ctor (lv := [some (.ref (z + o))]) (by decide) rfl rfl rfl (fun Y => ?_)
  show on_J Y E cX4_init "OppositeNets$Nets" 1 12 1 5 22 z o _ 0 _ [] 0 _ []
  refine oj_aloadn 0 rfl rfl (on_ta tX4_init 0 rfl) ?_
  refine oj_obj kw_1_85 kw_1_28 kw_1_29 (by decide) (by decide) (on_ta tX4_init 1 rfl) ?_
  refine oj_aloadn 0 rfl rfl (on_ta tX4_init 2 rfl) ?_
  refine oj_iconst (on_ta tX4_init 3 rfl) ?_
  refine oj_newi (N := 2) (by decide) (Nat.le_of_ble_eq_true rfl) (Nat.le_of_ble_eq_true rfl) kw_1_79 (on_ta tX4_init 4 rfl) ?_
  refine oj_putF (own := "OppositeNets$Nets") (T := TX4) (N := 6) 4 1 on_in4 tyX4 tyX4_ok nmX4 rfl (by decide) rfl rfl kw_1_91 rfl rfl rfl (Nat.le_of_ble_eq_true rfl) (on_ta tX4_init 5 rfl) ?_
  refine oj_aloadn 0 rfl rfl (on_ta tX4_init 6 rfl) ?_
  refine oj_iconst (on_ta tX4_init 7 rfl) ?_
  refine oj_newi (N := 2) (by decide) (Nat.le_of_ble_eq_true rfl) (Nat.le_of_ble_eq_true rfl) kw_1_79 (on_ta tX4_init 8 rfl) ?_
  refine oj_putF (own := "OppositeNets$Nets") (T := TX4) (N := 6) 4 2 on_in4 tyX4 tyX4_ok nmX4 rfl (by decide) rfl rfl kw_1_96 rfl rfl rfl (Nat.le_of_ble_eq_true rfl) (on_ta tX4_init 9 rfl) ?_
  refine oj_aloadn 0 rfl rfl (on_ta tX4_init 10 rfl) ?_
  refine oj_iconst (on_ta tX4_init 11 rfl) ?_
  refine oj_newi (N := 2) (by decide) (Nat.le_of_ble_eq_true rfl) (Nat.le_of_ble_eq_true rfl) kw_1_79 (on_ta tX4_init 12 rfl) ?_
  refine oj_putF (own := "OppositeNets$Nets") (T := TX4) (N := 6) 4 3 on_in4 tyX4 tyX4_ok nmX4 rfl (by decide) rfl rfl kw_1_100 rfl rfl rfl (Nat.le_of_ble_eq_true rfl) (on_ta tX4_init 13 rfl) ?_
  refine oj_aloadn 0 rfl rfl (on_ta tX4_init 14 rfl) ?_
  refine oj_bipush (on_ta tX4_init 15 rfl) rfl ?_
  refine oj_newi (N := 8) (by decide) (Nat.le_of_ble_eq_true rfl) (Nat.le_of_ble_eq_true rfl) kw_1_79 (on_ta tX4_init 16 rfl) ?_
  refine oj_putF (own := "OppositeNets$Nets") (T := TX4) (N := 6) 4 4 on_in4 tyX4 tyX4_ok nmX4 rfl (by decide) rfl rfl kw_1_106 rfl rfl rfl (Nat.le_of_ble_eq_true rfl) (on_ta tX4_init 17 rfl) ?_
  refine oj_aloadn 0 rfl rfl (on_ta tX4_init 18 rfl) ?_
  refine oj_bipush (on_ta tX4_init 19 rfl) rfl ?_
  refine oj_newi (N := 8) (by decide) (Nat.le_of_ble_eq_true rfl) (Nat.le_of_ble_eq_true rfl) kw_1_79 (on_ta tX4_init 20 rfl) ?_
  refine oj_putF (own := "OppositeNets$Nets") (T := TX4) (N := 6) 4 5 on_in4 tyX4 tyX4_ok nmX4 rfl (by decide) rfl rfl kw_1_111 rfl rfl rfl (Nat.le_of_ble_eq_true rfl) (on_ta tX4_init 21 rfl) ?_
  exact oj_ret rfl (on_ta tX4_init 22 rfl) (Nat.le_of_ble_eq_true rfl) (Nat.le_of_ble_eq_true rfl)
def dX9_init : List (Nat × Nat × Nat × Instr) := [(0, 1, 1, .aload_n 0), (1, 3, 4, .invokespecial 3), (4, 1, 5, .aload_n 0), (5, 2, 7, .bipush 9), (7, 2, 9, .newarray .int), (9, 3, 12, .putfield 9), (12, 1, 13, .aload_n 0), (13, 2, 15, .bipush 9), (15, 2, 17, .newarray .int), (17, 3, 20, .putfield 15), (20, 1, 21, .aload_n 0), (21, 2, 23, .bipush 9), (23, 2, 25, .newarray .int), (25, 3, 28, .putfield 18), (28, 1, 29, .aload_n 0), (29, 2, 31, .bipush 9), (31, 2, 33, .newarray .int), (33, 3, 36, .putfield 21), (36, 1, 37, .aload_n 0), (37, 2, 39, .bipush 9), (39, 2, 41, .newarray .int), (41, 3, 44, .putfield 24), (44, 1, 45, .aload_n 0), (45, 2, 47, .bipush 16), (47, 2, 49, .newarray .int), (49, 3, 52, .putfield 27), (52, 1, 53, .aload_n 0), (53, 2, 55, .bipush 16), (55, 2, 57, .newarray .int), (57, 3, 60, .putfield 30), (60, 1, 61, .aload_n 0), (61, 3, 64, .new 33), (64, 1, 65, .dup), (65, 3, 68, .invokespecial 35), (68, 3, 71, .putfield 36), (71, 1, 72, .aload_n 0), (72, 3, 75, .new 40), (75, 1, 76, .dup), (76, 3, 79, .invokespecial 42), (79, 3, 82, .putfield 43), (82, 1, 83, .aload_n 0), (83, 3, 86, .new 47), (86, 1, 87, .dup), (87, 3, 90, .invokespecial 49), (90, 3, 93, .putfield 50), (93, 1, 94, .aload_n 0), (94, 2, 96, .bipush 8), (96, 2, 98, .newarray .int), (98, 3, 101, .putfield 54), (101, 1, 102, .return_)]
theorem tX9_init : on_tab cX9_init dX9_init = true := by decide +kernel
def dfX9 : List Value := [.int 0, .int 0, .int 0, .int 0, .null, .null, .null, .int 0, .null, .null, .null, .null, .null, .null, .null, .null]
theorem dfX9_ok : ∀ j, j < 16 → defaultValue (tyX9 j) = vp_V dfX9 j := fun j hj => by
  have h : j = 0 ∨ j = 1 ∨ j = 2 ∨ j = 3 ∨ j = 4 ∨ j = 5 ∨ j = 6 ∨ j = 7 ∨ j = 8 ∨ j = 9 ∨ j = 10 ∨ j = 11 ∨ j = 12 ∨ j = 13 ∨ j = 14 ∨ j = 15 := by omega
  rcases h with h | h | h | h | h | h | h | h | h | h | h | h | h | h | h | h <;> subst h <;> rfl
def lfX9 (E : on_E) (z o : Nat) : List va_E := .inr (9, [.int 0, .int 0, .int 0, .int 0, .ref (z + (o + 1)), .ref (z + (o + 2)), .ref (z + (o + 3)), .int 0, .ref (z + (o + 4)), .ref (z + (o + 5)), .ref (z + (o + 6)), .ref (z + (o + 7)), .ref (z + (o + 8)), .ref (z + (o + 14)), .ref (z + (o + 20)), .ref (z + (o + 24))]) :: ([.inl (on_ca E 0, (9, .inl fun _ => 0)), .inl (on_ca E 0, (9, .inl fun _ => 0)), .inl (on_ca E 0, (9, .inl fun _ => 0)), .inl (on_ca E 0, (9, .inl fun _ => 0)), .inl (on_ca E 0, (9, .inl fun _ => 0)), .inl (on_ca E 0, (16, .inl fun _ => 0)), .inl (on_ca E 0, (16, .inl fun _ => 0))] ++ (lfX3 E z (o + 8) ++ (lfX4 E z (o + 14) ++ (lfX2 E z (o + 20) ++ ([.inl (on_ca E 0, (8, .inl fun _ => 0))])))))
theorem cn_X9 {E : on_E} {z o : Nat} : on_Cn E yX9_init cX9_init 1 2 32 24 600 z o [] (.inr (9, dfX9)) (lfX9 E z o) := by
  refine on_ctor (lv := [some (.ref (z + o))]) (by decide) rfl rfl rfl (fun Y => ?_)
  show on_J Y E cX9_init "OppositeNets$Street" 2 32 1 24 600 z o _ 0 _ [] 0 _ []
  refine oj_aloadn 0 rfl rfl (on_ta tX9_init 0 rfl) ?_
  refine oj_obj kw_1_35 kw_1_28 kw_1_29 (by decide) (by decide) (on_ta tX9_init 1 rfl) ?_
  refine oj_aloadn 0 rfl rfl (on_ta tX9_init 2 rfl) ?_
  refine oj_bipush (on_ta tX9_init 3 rfl) rfl ?_
  refine oj_newi (N := 9) (by decide) (Nat.le_of_ble_eq_true rfl) (Nat.le_of_ble_eq_true rfl) kw_1_79 (on_ta tX9_init 4 rfl) ?_
  refine oj_putF (own := "OppositeNets$Street") (T := TX9) (N := 16) 9 4 on_in9 tyX9 tyX9_ok nmX9 rfl (by decide) rfl rfl kw_1_166 rfl rfl rfl (Nat.le_of_ble_eq_true rfl) (on_ta tX9_init 5 rfl) ?_
  refine oj_aloadn 0 rfl rfl (on_ta tX9_init 6 rfl) ?_
  refine oj_bipush (on_ta tX9_init 7 rfl) rfl ?_
  refine oj_newi (N := 9) (by decide) (Nat.le_of_ble_eq_true rfl) (Nat.le_of_ble_eq_true rfl) kw_1_79 (on_ta tX9_init 8 rfl) ?_
  refine oj_putF (own := "OppositeNets$Street") (T := TX9) (N := 16) 9 5 on_in9 tyX9 tyX9_ok nmX9 rfl (by decide) rfl rfl kw_1_168 rfl rfl rfl (Nat.le_of_ble_eq_true rfl) (on_ta tX9_init 9 rfl) ?_
  refine oj_aloadn 0 rfl rfl (on_ta tX9_init 10 rfl) ?_
  refine oj_bipush (on_ta tX9_init 11 rfl) rfl ?_
  refine oj_newi (N := 9) (by decide) (Nat.le_of_ble_eq_true rfl) (Nat.le_of_ble_eq_true rfl) kw_1_79 (on_ta tX9_init 12 rfl) ?_
  refine oj_putF (own := "OppositeNets$Street") (T := TX9) (N := 16) 9 6 on_in9 tyX9 tyX9_ok nmX9 rfl (by decide) rfl rfl kw_1_170 rfl rfl rfl (Nat.le_of_ble_eq_true rfl) (on_ta tX9_init 13 rfl) ?_
  refine oj_aloadn 0 rfl rfl (on_ta tX9_init 14 rfl) ?_
  refine oj_bipush (on_ta tX9_init 15 rfl) rfl ?_
  refine oj_newi (N := 9) (by decide) (Nat.le_of_ble_eq_true rfl) (Nat.le_of_ble_eq_true rfl) kw_1_79 (on_ta tX9_init 16 rfl) ?_
  refine oj_putF (own := "OppositeNets$Street") (T := TX9) (N := 16) 9 8 on_in9 tyX9 tyX9_ok nmX9 rfl (by decide) rfl rfl kw_1_177 rfl rfl rfl (Nat.le_of_ble_eq_true rfl) (on_ta tX9_init 17 rfl) ?_
  refine oj_aloadn 0 rfl rfl (on_ta tX9_init 18 rfl) ?_
  refine oj_bipush (on_ta tX9_init 19 rfl) rfl ?_
  refine oj_newi (N := 9) (by decide) (Nat.le_of_ble_eq_true rfl) (Nat.le_of_ble_eq_true rfl) kw_1_79 (on_ta tX9_init 20 rfl) ?_
  refine oj_putF (own := "OppositeNets$Street") (T := TX9) (N := 16) 9 9 on_in9 tyX9 tyX9_ok nmX9 rfl (by decide) rfl rfl kw_1_179 rfl rfl rfl (Nat.le_of_ble_eq_true rfl) (on_ta tX9_init 21 rfl) ?_
  refine oj_aloadn 0 rfl rfl (on_ta tX9_init 22 rfl) ?_
  refine oj_bipush (on_ta tX9_init 23 rfl) rfl ?_
  refine oj_newi (N := 16) (by decide) (Nat.le_of_ble_eq_true rfl) (Nat.le_of_ble_eq_true rfl) kw_1_79 (on_ta tX9_init 24 rfl) ?_
  refine oj_putF (own := "OppositeNets$Street") (T := TX9) (N := 16) 9 10 on_in9 tyX9 tyX9_ok nmX9 rfl (by decide) rfl rfl kw_1_181 rfl rfl rfl (Nat.le_of_ble_eq_true rfl) (on_ta tX9_init 25 rfl) ?_
  refine oj_aloadn 0 rfl rfl (on_ta tX9_init 26 rfl) ?_
  refine oj_bipush (on_ta tX9_init 27 rfl) rfl ?_
  refine oj_newi (N := 16) (by decide) (Nat.le_of_ble_eq_true rfl) (Nat.le_of_ble_eq_true rfl) kw_1_79 (on_ta tX9_init 28 rfl) ?_
  refine oj_putF (own := "OppositeNets$Street") (T := TX9) (N := 16) 9 11 on_in9 tyX9 tyX9_ok nmX9 rfl (by decide) rfl rfl kw_1_183 rfl rfl rfl (Nat.le_of_ble_eq_true rfl) (on_ta tX9_init 29 rfl) ?_
  refine oj_aloadn 0 rfl rfl (on_ta tX9_init 30 rfl) ?_
  refine oj_new 3 (C := "OppositeNets$Men") (T := TX3) (n := 6) (fs := dfX3) rfl on_in3 tyX3 tyX3_ok kw_1_36 kw_1_37 kw_1_3 dfX3_ok (Nat.le_of_ble_eq_true rfl) (Nat.le_of_ble_eq_true rfl) (on_ta tX9_init 31 rfl) ?_
  refine oj_dup rfl (on_ta tX9_init 32 rfl) ?_
  refine oj_cN (As := []) (Lc := lfX3 E z (o + 8)) 0 kw_1_40 kw_1_39 kw_1_3 ⟨by decide, by decide, rfl⟩ rfl (show ("OppositeNets$Street", 35, (⟨"OppositeNets$Men", "<init>", "()V"⟩ : MethodName)) ∈ on_nest by decide) rfl (cn_X3) rfl rfl (Nat.le_of_ble_eq_true rfl) (Nat.le_of_ble_eq_true rfl) (on_ta tX9_init 33 rfl) ?_
  refine oj_putF (own := "OppositeNets$Street") (T := TX9) (N := 16) 9 12 on_in9 tyX9 tyX9_ok nmX9 rfl (by decide) rfl rfl kw_1_185 rfl rfl rfl (Nat.le_of_ble_eq_true rfl) (on_ta tX9_init 34 rfl) ?_
  refine oj_aloadn 0 rfl rfl (on_ta tX9_init 35 rfl) ?_
  refine oj_new 4 (C := "OppositeNets$Nets") (T := TX4) (n := 6) (fs := dfX4) rfl on_in4 tyX4 tyX4_ok kw_1_80 kw_1_81 kw_1_4 dfX4_ok (Nat.le_of_ble_eq_true rfl) (Nat.le_of_ble_eq_true rfl) (on_ta tX9_init 36 rfl) ?_
  refine oj_dup rfl (on_ta tX9_init 37 rfl) ?_
  refine oj_cN (As := []) (Lc := lfX4 E z (o + 14)) 0 kw_1_84 kw_1_83 kw_1_4 ⟨by decide, by decide, rfl⟩ rfl (show ("OppositeNets$Street", 42, (⟨"OppositeNets$Nets", "<init>", "()V"⟩ : MethodName)) ∈ on_nest by decide) rfl (cn_X4) rfl rfl (Nat.le_of_ble_eq_true rfl) (Nat.le_of_ble_eq_true rfl) (on_ta tX9_init 38 rfl) ?_
  refine oj_putF (own := "OppositeNets$Street") (T := TX9) (N := 16) 9 13 on_in9 tyX9 tyX9_ok nmX9 rfl (by decide) rfl rfl kw_1_190 rfl rfl rfl (Nat.le_of_ble_eq_true rfl) (on_ta tX9_init 39 rfl) ?_
  refine oj_aloadn 0 rfl rfl (on_ta tX9_init 40 rfl) ?_
  refine oj_new 2 (C := "OppositeNets$Jumps") (T := TX2) (n := 4) (fs := dfX2) rfl on_in2 tyX2 tyX2_ok kw_1_128 kw_1_129 kw_1_5 dfX2_ok (Nat.le_of_ble_eq_true rfl) (Nat.le_of_ble_eq_true rfl) (on_ta tX9_init 41 rfl) ?_
  refine oj_dup rfl (on_ta tX9_init 42 rfl) ?_
  refine oj_cN (As := []) (Lc := lfX2 E z (o + 20)) 0 kw_1_132 kw_1_131 kw_1_5 ⟨by decide, by decide, rfl⟩ rfl (show ("OppositeNets$Street", 49, (⟨"OppositeNets$Jumps", "<init>", "()V"⟩ : MethodName)) ∈ on_nest by decide) rfl (cn_X2) rfl rfl (Nat.le_of_ble_eq_true rfl) (Nat.le_of_ble_eq_true rfl) (on_ta tX9_init 43 rfl) ?_
  refine oj_putF (own := "OppositeNets$Street") (T := TX9) (N := 16) 9 14 on_in9 tyX9 tyX9_ok nmX9 rfl (by decide) rfl rfl kw_1_197 rfl rfl rfl (Nat.le_of_ble_eq_true rfl) (on_ta tX9_init 44 rfl) ?_
  refine oj_aloadn 0 rfl rfl (on_ta tX9_init 45 rfl) ?_
  refine oj_bipush (on_ta tX9_init 46 rfl) rfl ?_
  refine oj_newi (N := 8) (by decide) (Nat.le_of_ble_eq_true rfl) (Nat.le_of_ble_eq_true rfl) kw_1_79 (on_ta tX9_init 47 rfl) ?_
  refine oj_putF (own := "OppositeNets$Street") (T := TX9) (N := 16) 9 15 on_in9 tyX9 tyX9_ok nmX9 rfl (by decide) rfl rfl kw_1_199 rfl rfl rfl (Nat.le_of_ble_eq_true rfl) (on_ta tX9_init 48 rfl) ?_
  exact oj_ret rfl (on_ta tX9_init 49 rfl) (Nat.le_of_ble_eq_true rfl) (Nat.le_of_ble_eq_true rfl)
def dX8_init : List (Nat × Nat × Nat × Instr) := [(0, 1, 1, .aload_n 0), (1, 3, 4, .invokespecial 3), (4, 1, 5, .aload_n 0), (5, 1, 6, .iconst (-1)), (6, 3, 9, .putfield 9), (9, 1, 10, .aload_n 0), (10, 2, 12, .bipush 60), (12, 2, 14, .newarray .long), (14, 3, 17, .putfield 15), (17, 1, 18, .return_)]
theorem tX8_init : on_tab cX8_init dX8_init = true := by decide +kernel
def dfX8 : List Value := [.int 0, .int 0, .null]
theorem dfX8_ok : ∀ j, j < 3 → defaultValue (tyX8 j) = vp_V dfX8 j := fun j hj => by
  have h : j = 0 ∨ j = 1 ∨ j = 2 := by omega
  rcases h with h | h | h <;> subst h <;> rfl
def lfX8 (E : on_E) (z o : Nat) : List va_E := .inr (8, [.int (on_i (-1)), .int 0, .ref (z + (o + 1))]) :: ([.inl (on_ca E 2, (60, .inr (.inl fun _ => 0)))])
theorem cn_X8 {E : on_E} {z o : Nat} : on_Cn E yX8_init cX8_init 1 1 12 1 60 z o [] (.inr (8, dfX8)) (lfX8 E z o) := by
  refine on_ctor (lv := [some (.ref (z + o))]) (by decide) rfl rfl rfl (fun Y => ?_)
  show on_J Y E cX8_init "OppositeNets$Slot" 1 12 1 1 60 z o _ 0 _ [] 0 _ []
  refine oj_aloadn 0 rfl rfl (on_ta tX8_init 0 rfl) ?_
  refine oj_obj kw_2_162 kw_1_28 kw_1_29 (by decide) (by decide) (on_ta tX8_init 1 rfl) ?_
  refine oj_aloadn 0 rfl rfl (on_ta tX8_init 2 rfl) ?_
  refine oj_iconst (on_ta tX8_init 3 rfl) ?_
  refine oj_put (own := "OppositeNets$Slot") (T := TX8) (N := 3) 8 0 on_in8 tyX8 tyX8_ok nmX8 rfl (by decide) rfl rfl kw_2_163 rfl rfl rfl (Nat.le_of_ble_eq_true rfl) (on_ta tX8_init 4 rfl) ?_
  refine oj_aloadn 0 rfl rfl (on_ta tX8_init 5 rfl) ?_
  refine oj_bipush (on_ta tX8_init 6 rfl) rfl ?_
  refine oj_newl (N := 60) (by decide) (Nat.le_of_ble_eq_true rfl) (Nat.le_of_ble_eq_true rfl) kw_2_178 (on_ta tX8_init 7 rfl) ?_
  refine oj_putF (own := "OppositeNets$Slot") (T := TX8) (N := 3) 8 2 on_in8 tyX8 tyX8_ok nmX8 rfl (by decide) rfl rfl kw_2_168 rfl rfl rfl (Nat.le_of_ble_eq_true rfl) (on_ta tX8_init 8 rfl) ?_
  exact oj_ret rfl (on_ta tX8_init 9 rfl) (Nat.le_of_ble_eq_true rfl) (Nat.le_of_ble_eq_true rfl)
def dX0_init : List (Nat × Nat × Nat × Instr) := [(0, 1, 1, .aload_n 0), (1, 3, 4, .invokespecial 3), (4, 1, 5, .aload_n 0), (5, 2, 7, .bipush 16), (7, 2, 9, .newarray .int), (9, 3, 12, .putfield 9), (12, 1, 13, .aload_n 0), (13, 1, 14, .aload_n 1), (14, 3, 17, .putfield 15), (17, 1, 18, .return_)]
theorem tX0_init : on_tab cX0_init dX0_init = true := by decide +kernel
def dfX0 : List Value := [.null, .null]
theorem dfX0_ok : ∀ j, j < 2 → defaultValue (tyX0 j) = vp_V dfX0 j := fun j hj => by
  have h : j = 0 ∨ j = 1 := by omega
  rcases h with h | h <;> subst h <;> rfl
def lfX0 (E : on_E) (z o : Nat) (a1 : Nat) : List va_E := .inr (0, [.ref a1, .ref (z + (o + 1))]) :: ([.inl (on_ca E 0, (16, .inl fun _ => 0))])
theorem cn_X0 {E : on_E} {z o : Nat} (a1 : Nat) : on_Cn E yX0_init cX0_init 2 1 12 1 16 z o [.ref a1] (.inr (0, dfX0)) (lfX0 E z o a1) := by
  refine on_ctor (lv := [some (.ref (z + o)), some (.ref a1)]) (by decide) rfl rfl rfl (fun Y => ?_)
  show on_J Y E cX0_init "OppositeNets$Alarms" 1 12 2 1 16 z o _ 0 _ [] 0 _ []
  refine oj_aloadn 0 rfl rfl (on_ta tX0_init 0 rfl) ?_
  refine oj_obj kw_2_104 kw_1_28 kw_1_29 (by decide) (by decide) (on_ta tX0_init 1 rfl) ?_
  refine oj_aloadn 0 rfl rfl (on_ta tX0_init 2 rfl) ?_
  refine oj_bipush (on_ta tX0_init 3 rfl) rfl ?_
  refine oj_newi (N := 16) (by decide) (Nat.le_of_ble_eq_true rfl) (Nat.le_of_ble_eq_true rfl) kw_1_79 (on_ta tX0_init 4 rfl) ?_
  refine oj_putF (own := "OppositeNets$Alarms") (T := TX0) (N := 2) 0 1 on_in0 tyX0 tyX0_ok nmX0 rfl (by decide) rfl rfl kw_2_106 rfl rfl rfl (Nat.le_of_ble_eq_true rfl) (on_ta tX0_init 5 rfl) ?_
  refine oj_aloadn 0 rfl rfl (on_ta tX0_init 6 rfl) ?_
  refine oj_aloadn 1 rfl rfl (on_ta tX0_init 7 rfl) ?_
  refine oj_putF (own := "OppositeNets$Alarms") (T := TX0) (N := 2) 0 0 on_in0 tyX0 tyX0_ok nmX0 rfl (by decide) rfl rfl kw_2_105 rfl rfl rfl (Nat.le_of_ble_eq_true rfl) (on_ta tX0_init 8 rfl) ?_
  exact oj_ret rfl (on_ta tX0_init 9 rfl) (Nat.le_of_ble_eq_true rfl) (Nat.le_of_ble_eq_true rfl)
def dX5_init : List (Nat × Nat × Nat × Instr) := [(0, 1, 1, .aload_n 0), (1, 3, 4, .invokespecial 3), (4, 1, 5, .aload_n 0), (5, 2, 7, .bipush 8), (7, 2, 9, .newarray .int), (9, 3, 12, .putfield 9), (12, 1, 13, .aload_n 0), (13, 1, 14, .aload_n 1), (14, 3, 17, .putfield 15), (17, 1, 18, .return_)]
theorem tX5_init : on_tab cX5_init dX5_init = true := by decide +kernel
def dfX5 : List Value := [.null, .null, .int 0, .int 0]
theorem dfX5_ok : ∀ j, j < 4 → defaultValue (tyX5 j) = vp_V dfX5 j := fun j hj => by
  have h : j = 0 ∨ j = 1 ∨ j = 2 ∨ j = 3 := by omega
  rcases h with h | h | h | h <;> subst h <;> rfl
def lfX5 (E : on_E) (z o : Nat) (a1 : Nat) : List va_E := .inr (5, [.ref a1, .ref (z + (o + 1)), .int 0, .int 0]) :: ([.inl (on_ca E 0, (8, .inl fun _ => 0))])
theorem cn_X5 {E : on_E} {z o : Nat} (a1 : Nat) : on_Cn E yX5_init cX5_init 2 1 12 1 8 z o [.ref a1] (.inr (5, dfX5)) (lfX5 E z o a1) := by
  refine on_ctor (lv := [some (.ref (z + o)), some (.ref a1)]) (by decide) rfl rfl rfl (fun Y => ?_)
  show on_J Y E cX5_init "OppositeNets$Nights" 1 12 2 1 8 z o _ 0 _ [] 0 _ []
  refine oj_aloadn 0 rfl rfl (on_ta tX5_init 0 rfl) ?_
  refine oj_obj kw_2_117 kw_1_28 kw_1_29 (by decide) (by decide) (on_ta tX5_init 1 rfl) ?_
  refine oj_aloadn 0 rfl rfl (on_ta tX5_init 2 rfl) ?_
  refine oj_bipush (on_ta tX5_init 3 rfl) rfl ?_
  refine oj_newi (N := 8) (by decide) (Nat.le_of_ble_eq_true rfl) (Nat.le_of_ble_eq_true rfl) kw_1_79 (on_ta tX5_init 4 rfl) ?_
  refine oj_putF (own := "OppositeNets$Nights") (T := TX5) (N := 4) 5 1 on_in5 tyX5 tyX5_ok nmX5 rfl (by decide) rfl rfl kw_2_119 rfl rfl rfl (Nat.le_of_ble_eq_true rfl) (on_ta tX5_init 5 rfl) ?_
  refine oj_aloadn 0 rfl rfl (on_ta tX5_init 6 rfl) ?_
  refine oj_aloadn 1 rfl rfl (on_ta tX5_init 7 rfl) ?_
  refine oj_putF (own := "OppositeNets$Nights") (T := TX5) (N := 4) 5 0 on_in5 tyX5 tyX5_ok nmX5 rfl (by decide) rfl rfl kw_2_118 rfl rfl rfl (Nat.le_of_ble_eq_true rfl) (on_ta tX5_init 8 rfl) ?_
  exact oj_ret rfl (on_ta tX5_init 9 rfl) (Nat.le_of_ble_eq_true rfl) (Nat.le_of_ble_eq_true rfl)
def dX10_init : List (Nat × Nat × Nat × Instr) := [(0, 1, 1, .aload_n 0), (1, 3, 4, .invokespecial 3), (4, 1, 5, .aload_n 0), (5, 1, 6, .iconst 4), (6, 2, 8, .newarray .int), (8, 3, 11, .putfield 9), (11, 1, 12, .aload_n 0), (12, 1, 13, .aload_n 1), (13, 3, 16, .putfield 15), (16, 1, 17, .return_)]
theorem tX10_init : on_tab cX10_init dX10_init = true := by decide +kernel
def dfX10 : List Value := [.null, .null, .int 0, .int 0, .int 0]
theorem dfX10_ok : ∀ j, j < 5 → defaultValue (tyX10 j) = vp_V dfX10 j := fun j hj => by
  have h : j = 0 ∨ j = 1 ∨ j = 2 ∨ j = 3 ∨ j = 4 := by omega
  rcases h with h | h | h | h | h <;> subst h <;> rfl
def lfX10 (E : on_E) (z o : Nat) (a1 : Nat) : List va_E := .inr (10, [.ref a1, .ref (z + (o + 1)), .int 0, .int 0, .int 0]) :: ([.inl (on_ca E 0, (4, .inl fun _ => 0))])
theorem cn_X10 {E : on_E} {z o : Nat} (a1 : Nat) : on_Cn E yX10_init cX10_init 2 1 12 1 4 z o [.ref a1] (.inr (10, dfX10)) (lfX10 E z o a1) := by
  refine on_ctor (lv := [some (.ref (z + o)), some (.ref a1)]) (by decide) rfl rfl rfl (fun Y => ?_)
  show on_J Y E cX10_init "OppositeNets$Witness" 1 12 2 1 4 z o _ 0 _ [] 0 _ []
  refine oj_aloadn 0 rfl rfl (on_ta tX10_init 0 rfl) ?_
  refine oj_obj kw_2_138 kw_1_28 kw_1_29 (by decide) (by decide) (on_ta tX10_init 1 rfl) ?_
  refine oj_aloadn 0 rfl rfl (on_ta tX10_init 2 rfl) ?_
  refine oj_iconst (on_ta tX10_init 3 rfl) ?_
  refine oj_newi (N := 4) (by decide) (Nat.le_of_ble_eq_true rfl) (Nat.le_of_ble_eq_true rfl) kw_1_79 (on_ta tX10_init 4 rfl) ?_
  refine oj_putF (own := "OppositeNets$Witness") (T := TX10) (N := 5) 10 1 on_in10 tyX10 tyX10_ok nmX10 rfl (by decide) rfl rfl kw_2_140 rfl rfl rfl (Nat.le_of_ble_eq_true rfl) (on_ta tX10_init 5 rfl) ?_
  refine oj_aloadn 0 rfl rfl (on_ta tX10_init 6 rfl) ?_
  refine oj_aloadn 1 rfl rfl (on_ta tX10_init 7 rfl) ?_
  refine oj_putF (own := "OppositeNets$Witness") (T := TX10) (N := 5) 10 0 on_in10 tyX10 tyX10_ok nmX10 rfl (by decide) rfl rfl kw_2_139 rfl rfl rfl (Nat.le_of_ble_eq_true rfl) (on_ta tX10_init 8 rfl) ?_
  exact oj_ret rfl (on_ta tX10_init 9 rfl) (Nat.le_of_ble_eq_true rfl) (Nat.le_of_ble_eq_true rfl)
def dX1_init : List (Nat × Nat × Nat × Instr) := [(0, 1, 1, .aload_n 0), (1, 3, 4, .invokespecial 3), (4, 1, 5, .aload_n 0), (5, 3, 8, .sipush 1024), (8, 2, 10, .newarray .int), (10, 3, 13, .putfield 11), (13, 1, 14, .aload_n 0), (14, 3, 17, .sipush 1024), (17, 2, 19, .newarray .int), (19, 3, 22, .putfield 15), (22, 1, 23, .aload_n 0), (23, 3, 26, .sipush 1024), (26, 2, 28, .newarray .int), (28, 3, 31, .putfield 18), (31, 1, 32, .aload_n 0), (32, 1, 33, .aload_n 1), (33, 3, 36, .putfield 21), (36, 1, 37, .aload_n 0), (37, 1, 38, .aload_n 2), (38, 3, 41, .putfield 25), (41, 1, 42, .return_)]
theorem tX1_init : on_tab cX1_init dX1_init = true := by decide +kernel
def dfX1 : List Value := [.null, .null, .null, .null, .null, .int 0, .int 0, .int 0, .int 0]
theorem dfX1_ok : ∀ j, j < 9 → defaultValue (tyX1 j) = vp_V dfX1 j := fun j hj => by
  have h : j = 0 ∨ j = 1 ∨ j = 2 ∨ j = 3 ∨ j = 4 ∨ j = 5 ∨ j = 6 ∨ j = 7 ∨ j = 8 := by omega
  rcases h with h | h | h | h | h | h | h | h | h <;> subst h <;> rfl
def lfX1 (E : on_E) (z o : Nat) (a1 : Nat) (a2 : Nat) : List va_E := .inr (1, [.ref a1, .ref a2, .ref (z + (o + 1)), .ref (z + (o + 2)), .ref (z + (o + 3)), .int 0, .int 0, .int 0, .int 0]) :: ([.inl (on_ca E 0, (1024, .inl fun _ => 0)), .inl (on_ca E 0, (1024, .inl fun _ => 0)), .inl (on_ca E 0, (1024, .inl fun _ => 0))])
theorem cn_X1 {E : on_E} {z o : Nat} (a1 : Nat) (a2 : Nat) : on_Cn E yX1_init cX1_init 3 1 12 3 3072 z o [.ref a1, .ref a2] (.inr (1, dfX1)) (lfX1 E z o a1 a2) := by
  refine on_ctor (lv := [some (.ref (z + o)), some (.ref a1), some (.ref a2)]) (by decide) rfl rfl rfl (fun Y => ?_)
  show on_J Y E cX1_init "OppositeNets$Guard" 1 12 3 3 3072 z o _ 0 _ [] 0 _ []
  refine oj_aloadn 0 rfl rfl (on_ta tX1_init 0 rfl) ?_
  refine oj_obj kw_2_66 kw_1_28 kw_1_29 (by decide) (by decide) (on_ta tX1_init 1 rfl) ?_
  refine oj_aloadn 0 rfl rfl (on_ta tX1_init 2 rfl) ?_
  refine oj_sipush (on_ta tX1_init 3 rfl) rfl ?_
  refine oj_newi (N := 1024) (by decide) (Nat.le_of_ble_eq_true rfl) (Nat.le_of_ble_eq_true rfl) kw_1_79 (on_ta tX1_init 4 rfl) ?_
  refine oj_putF (own := "OppositeNets$Guard") (T := TX1) (N := 9) 1 2 on_in1 tyX1 tyX1_ok nmX1 rfl (by decide) rfl rfl kw_2_69 rfl rfl rfl (Nat.le_of_ble_eq_true rfl) (on_ta tX1_init 5 rfl) ?_
  refine oj_aloadn 0 rfl rfl (on_ta tX1_init 6 rfl) ?_
  refine oj_sipush (on_ta tX1_init 7 rfl) rfl ?_
  refine oj_newi (N := 1024) (by decide) (Nat.le_of_ble_eq_true rfl) (Nat.le_of_ble_eq_true rfl) kw_1_79 (on_ta tX1_init 8 rfl) ?_
  refine oj_putF (own := "OppositeNets$Guard") (T := TX1) (N := 9) 1 3 on_in1 tyX1 tyX1_ok nmX1 rfl (by decide) rfl rfl kw_2_70 rfl rfl rfl (Nat.le_of_ble_eq_true rfl) (on_ta tX1_init 9 rfl) ?_
  refine oj_aloadn 0 rfl rfl (on_ta tX1_init 10 rfl) ?_
  refine oj_sipush (on_ta tX1_init 11 rfl) rfl ?_
  refine oj_newi (N := 1024) (by decide) (Nat.le_of_ble_eq_true rfl) (Nat.le_of_ble_eq_true rfl) kw_1_79 (on_ta tX1_init 12 rfl) ?_
  refine oj_putF (own := "OppositeNets$Guard") (T := TX1) (N := 9) 1 4 on_in1 tyX1 tyX1_ok nmX1 rfl (by decide) rfl rfl kw_2_71 rfl rfl rfl (Nat.le_of_ble_eq_true rfl) (on_ta tX1_init 13 rfl) ?_
  refine oj_aloadn 0 rfl rfl (on_ta tX1_init 14 rfl) ?_
  refine oj_aloadn 1 rfl rfl (on_ta tX1_init 15 rfl) ?_
  refine oj_putF (own := "OppositeNets$Guard") (T := TX1) (N := 9) 1 0 on_in1 tyX1 tyX1_ok nmX1 rfl (by decide) rfl rfl kw_2_67 rfl rfl rfl (Nat.le_of_ble_eq_true rfl) (on_ta tX1_init 16 rfl) ?_
  refine oj_aloadn 0 rfl rfl (on_ta tX1_init 17 rfl) ?_
  refine oj_aloadn 2 rfl rfl (on_ta tX1_init 18 rfl) ?_
  refine oj_putF (own := "OppositeNets$Guard") (T := TX1) (N := 9) 1 1 on_in1 tyX1 tyX1_ok nmX1 rfl (by decide) rfl rfl kw_2_68 rfl rfl rfl (Nat.le_of_ble_eq_true rfl) (on_ta tX1_init 19 rfl) ?_
  exact oj_ret rfl (on_ta tX1_init 20 rfl) (Nat.le_of_ble_eq_true rfl) (Nat.le_of_ble_eq_true rfl)
def dX6_init : List (Nat × Nat × Nat × Instr) := [(0, 1, 1, .aload_n 0), (1, 3, 4, .invokespecial 3), (4, 1, 5, .aload_n 0), (5, 1, 6, .iconst (-1)), (6, 3, 9, .putfield 9), (9, 1, 10, .aload_n 0), (10, 1, 11, .aload_n 1), (11, 3, 14, .putfield 15), (14, 1, 15, .aload_n 0), (15, 1, 16, .aload_n 2), (16, 3, 19, .putfield 19), (19, 1, 20, .return_)]
theorem tX6_init : on_tab cX6_init dX6_init = true := by decide +kernel
def dfX6 : List Value := [.null, .null, .int 0, .int 0, .int 0, .int 0, .int 0, .int 0, .int 0, .int 0]
theorem dfX6_ok : ∀ j, j < 10 → defaultValue (tyX6 j) = vp_V dfX6 j := fun j hj => by
  have h : j = 0 ∨ j = 1 ∨ j = 2 ∨ j = 3 ∨ j = 4 ∨ j = 5 ∨ j = 6 ∨ j = 7 ∨ j = 8 ∨ j = 9 := by omega
  rcases h with h | h | h | h | h | h | h | h | h | h <;> subst h <;> rfl
def lfX6 (E : on_E) (z o : Nat) (a1 : Nat) (a2 : Nat) : List va_E := .inr (6, [.ref a1, .ref a2, .int 0, .int 0, .int 0, .int 0, .int 0, .int 0, .int 0, .int (on_i (-1))]) :: ([])
theorem cn_X6 {E : on_E} {z o : Nat} (a1 : Nat) (a2 : Nat) : on_Cn E yX6_init cX6_init 3 1 12 0 0 z o [.ref a1, .ref a2] (.inr (6, dfX6)) (lfX6 E z o a1 a2) := by
  refine on_ctor (lv := [some (.ref (z + o)), some (.ref a1), some (.ref a2)]) (by decide) rfl rfl rfl (fun Y => ?_)
  show on_J Y E cX6_init "OppositeNets$Reader" 1 12 3 0 0 z o _ 0 _ [] 0 _ []
  refine oj_aloadn 0 rfl rfl (on_ta tX6_init 0 rfl) ?_
  refine oj_obj kw_1_238 kw_1_28 kw_1_29 (by decide) (by decide) (on_ta tX6_init 1 rfl) ?_
  refine oj_aloadn 0 rfl rfl (on_ta tX6_init 2 rfl) ?_
  refine oj_iconst (on_ta tX6_init 3 rfl) ?_
  refine oj_put (own := "OppositeNets$Reader") (T := TX6) (N := 10) 6 9 on_in6 tyX6 tyX6_ok nmX6 rfl (by decide) rfl rfl kw_2_9 rfl rfl rfl (Nat.le_of_ble_eq_true rfl) (on_ta tX6_init 4 rfl) ?_
  refine oj_aloadn 0 rfl rfl (on_ta tX6_init 5 rfl) ?_
  refine oj_aloadn 1 rfl rfl (on_ta tX6_init 6 rfl) ?_
  refine oj_putF (own := "OppositeNets$Reader") (T := TX6) (N := 10) 6 0 on_in6 tyX6 tyX6_ok nmX6 rfl (by decide) rfl rfl kw_1_239 rfl rfl rfl (Nat.le_of_ble_eq_true rfl) (on_ta tX6_init 7 rfl) ?_
  refine oj_aloadn 0 rfl rfl (on_ta tX6_init 8 rfl) ?_
  refine oj_aloadn 2 rfl rfl (on_ta tX6_init 9 rfl) ?_
  refine oj_putF (own := "OppositeNets$Reader") (T := TX6) (N := 10) 6 1 on_in6 tyX6 tyX6_ok nmX6 rfl (by decide) rfl rfl kw_2_0 rfl rfl rfl (Nat.le_of_ble_eq_true rfl) (on_ta tX6_init 10 rfl) ?_
  exact oj_ret rfl (on_ta tX6_init 11 rfl) (Nat.le_of_ble_eq_true rfl) (Nat.le_of_ble_eq_true rfl)
