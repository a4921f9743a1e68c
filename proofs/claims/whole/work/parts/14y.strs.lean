def on_Sl (j : Nat) (k : Int → Option on_O) : Option on_O := k ((on_len.getD j 0 : Nat) : Int)
def on_chr (j : Nat) (i : Int) : Int := ((on_byt.getD j []).getD i.toNat 0).toInt
def on_Sc (j : Nat) (i : Int) (k : Int → Option on_O) : Option on_O := if 0 ≤ i ∧ i < ((on_len.getD j 0 : Nat) : Int) then k (on_chr j i) else none
def on_ic (a : Int) : Int := ((on_i a).toUInt32 % 65536).toInt32.toInt
theorem on_chr_ok : ∀ j : Nat, j < 17 → ∀ i : Nat, i < on_len.getD j 0 → on_ic (on_and (on_chr j (i : Int)) 255) = on_chr j (i : Int) ∧ narrow .char (.int (on_i (on_chr j (i : Int)))) = .int (on_i (on_chr j (i : Int))) := by decide +kernel
theorem on_len_ok : ∀ j : Nat, on_len.getD j 0 < 9 := by
  intro j
  by_cases h : j < 17
  · have : ∀ j : Nat, j < 17 → on_len.getD j 0 < 9 := by decide +kernel
    exact this j h
  · have h1 : on_len[j]? = none := List.getElem?_eq_none (by show 17 ≤ j; omega)
    rw [List.getD_eq_getElem?_getD, h1]
    decide
def on_MnL (a b : Int) (k : Int → Option on_O) : Option on_O := if on_RL a ∧ on_RL b then k (min a b) else none
def on_Ab (a : Int) (k : Int → Option on_O) : Option on_O := if on_R a then k (if 0 ≤ a then a else -a) else none
theorem kwML_s : Cond.static Lib.MathLoose.min_long.x ∈ on_T := kw_5_195
theorem kwML_c : Cond.code Lib.MathLoose.min_long.x Lib.MathLoose.min_long.code 4 (some .long) ∈ on_T := on_m5 196 (by decide +kernel) rfl
theorem kwMA_s : Cond.static Lib.Math.abs.name ∈ on_T := kw_9_121
theorem kwMA_c : Cond.code Lib.Math.abs.name Lib.Math.abs.code 1 (some .int) ∈ on_T := on_m9 122 (by decide +kernel) rfl
section ON14
variable {X : on_X} {E : on_E} {cc : ByteArray} {own : String} {rt : Option FieldType} {fr lo nL z n idx j : Nat} {σ : on_S} {x y : Option on_O} {pc pc2 : Nat} {lv : List (Option Value)} {rest : List Value} {a b : Int}
theorem on_ldcs {tx : String} (hq : (own, idx, tx, j) ∈ on_strs) (hd : on_dq cc pc 2 pc2 (.ldc idx)) (k : on_G X E cc own rt fr lo nL z n σ x pc2 lv (.ref (E.2.2.2.1 j) :: rest)) : on_G X E cc own rt fr lo nL z n σ x pc lv rest := by
  obtain ⟨p, e, R, s, m, args, below, meth, c, out⟩ := X
  intro hC hx H locs ls hP hS hl
  obtain ⟨cx, cb, cm, co, ct, cK, cE, ck, cr, cR, cz⟩ := id hC
  obtain ⟨hd, rfl⟩ := hd
  exact va_ldcS cx cb co (cE.1 _ hq) hd (k hC hx H locs ls hP hS hl)
theorem on_sgetv (hj : j < 17) (hw : Cond.fieldLink own idx "java/lang/String" "value" "[B" ∈ on_T) (hd : on_dq cc pc 3 pc2 (.getfield idx)) (k : on_G X E cc own rt fr lo nL z n σ x pc2 lv (.ref (E.2.2.2.2 j) :: rest)) : on_G X E cc own rt fr lo nL z n σ x pc lv (.ref (E.2.2.2.1 j) :: rest) := by
  obtain ⟨p, e, R, s, m, args, below, meth, c, out⟩ := X
  intro hC hx H locs ls hP hS hl
  obtain ⟨cx, cb, cm, co, ct, cK, cE, ck, cr, cR, cz⟩ := id hC
  obtain ⟨hd, rfl⟩ := hd
  exact vk_getf cx cb ((cE.2.1).1 j hj).2.2.1 hS co (ct _ hw) (fun _ h => h) hd (k hC hx H locs ls hP hS hl)
theorem on_sgetc (hj : j < 17) (hw : Cond.fieldLink own idx "java/lang/String" "coder" "B" ∈ on_T) (hd : on_dq cc pc 3 pc2 (.getfield idx)) (k : on_G X E cc own rt fr lo nL z n σ x pc2 lv (.int (on_i 0) :: rest)) : on_G X E cc own rt fr lo nL z n σ x pc lv (.ref (E.2.2.2.1 j) :: rest) := by
  obtain ⟨p, e, R, s, m, args, below, meth, c, out⟩ := X
  intro hC hx H locs ls hP hS hl
  obtain ⟨cx, cb, cm, co, ct, cK, cE, ck, cr, cR, cz⟩ := id hC
  obtain ⟨hd, rfl⟩ := hd
  exact vk_getf cx cb ((cE.2.1).1 j hj).2.1 hS co (ct _ hw) (fun _ h => h) hd (k hC hx H locs ls hP hS hl)
theorem on_sgetz  (hw : Cond.fieldLink own idx "java/lang/String" "COMPACT_STRINGS" "Z" ∈ on_T) (hd : on_dq cc pc 3 pc2 (.getstatic idx)) (k : on_G X E cc own rt fr lo nL z n σ x pc2 lv (.int (on_i 1) :: rest)) : on_G X E cc own rt fr lo nL z n σ x pc lv rest := by
  obtain ⟨p, e, R, s, m, args, below, meth, c, out⟩ := X
  intro hC hx H locs ls hP hS hl
  obtain ⟨cx, cb, cm, co, ct, cK, cE, ck, cr, cR, cz⟩ := id hC
  obtain ⟨hd, rfl⟩ := hd
  exact va_gets cx cb cE.2.2.1 hS co (ct _ hw) (fun _ h => h) hd (k hC hx H locs ls hP hS hl)
theorem on_sgetf  (hw : Cond.fieldLink own idx "jdk/internal/util/Preconditions" "SIOOBE_FORMATTER" "Ljava/util/function/BiFunction;" ∈ on_T) (hd : on_dq cc pc 3 pc2 (.getstatic idx)) (k : ∀ t : Option Nat, on_G X E cc own rt fr lo nL z n σ x pc2 lv (va_rf t :: rest)) : on_G X E cc own rt fr lo nL z n σ x pc lv rest := by
  obtain ⟨p, e, R, s, m, args, below, meth, c, out⟩ := X
  intro hC hx H locs ls hP hS hl
  obtain ⟨cx, cb, cm, co, ct, cK, cE, ck, cr, cR, cz⟩ := id hC
  obtain ⟨hd, rfl⟩ := hd
  rcases cE.2.2.2.2 with ht | ⟨t, ht⟩
  · exact va_gets cx cb ht hS co (ct _ hw) (fun _ h => h) hd (k none hC hx H locs ls hP hS hl)
  · exact va_gets cx cb ht hS co (ct _ hw) (fun _ h => h) hd (k (some t) hC hx H locs ls hP hS hl)
theorem on_salen (hj : j < 17) (hd : on_dq cc pc 1 pc2 .arraylength) (k : on_G X E cc own rt fr lo nL z n σ x pc2 lv (.int (on_i ((on_len.getD j 0 : Nat) : Int)) :: rest)) : on_G X E cc own rt fr lo nL z n σ x pc lv (.ref (E.2.2.2.2 j) :: rest) := by
  obtain ⟨p, e, R, s, m, args, below, meth, c, out⟩ := X
  intro hC hx H locs ls hP hS hl
  obtain ⟨cx, cb, cm, co, ct, cK, cE, ck, cr, cR, cz⟩ := id hC
  obtain ⟨hd, rfl⟩ := hd
  exact va_tlen cx cb ((cE.2.1).1 j hj).2.2.2 hS rfl hd (k hC hx H locs ls hP hS hl)
theorem on_sbald (hj : j < 17) (hi : 0 ≤ b ∧ b < ((on_len.getD j 0 : Nat) : Int)) (hd : on_dq cc pc 1 pc2 .baload) (k : on_G X E cc own rt fr lo nL z n σ x pc2 lv (.int (on_i (on_chr j b)) :: rest)) : on_G X E cc own rt fr lo nL z n σ x pc lv (.int (on_i b) :: .ref (E.2.2.2.2 j) :: rest) := by
  obtain ⟨p, e, R, s, m, args, below, meth, c, out⟩ := X
  intro hC hx H locs ls hP hS hl
  obtain ⟨cx, cb, cm, co, ct, cK, cE, ck, cr, cR, cz⟩ := id hC
  obtain ⟨hd, rfl⟩ := hd
  have hN := on_len_ok j
  have e1 := on_i_nat hi.1 (show b < 2147483648 by omega)
  refine va_tb cx cb ((cE.2.1).1 j hj).2.2.2 hS (on_i_in hi.1 hi.2 (by omega)) (v := .int (on_i (on_chr j b))) ?_ hd (k hC hx H locs ls hP hS hl)
  have e2 : (on_i b).toNatClampNeg = b.toNat := by omega
  show Value.int _ = _
  rw [e2, on_chr, on_ti]
theorem on_i2c  (hd : on_dq cc pc 1 pc2 .i2c) (k : on_G X E cc own rt fr lo nL z n σ x pc2 lv (.int (on_i (on_ic a)) :: rest)) : on_G X E cc own rt fr lo nL z n σ x pc lv (.int (on_i a) :: rest) := by
  obtain ⟨p, e, R, s, m, args, below, meth, c, out⟩ := X
  intro hC hx H locs ls hP hS hl
  obtain ⟨cx, cb, cm, co, ct, cK, cE, ck, cr, cR, cz⟩ := id hC
  obtain ⟨hd, rfl⟩ := hd
  exact lv_i2c cx cb hd (on_ti _).symm (k hC hx H locs ls hP hS hl)
theorem on_minl {kk : Int → Option on_O} (hw : Cond.methodLink own idx Lib.MathLoose.min_long.x ∈ on_T) (hr : on_ok 0 4 0 fr lo rest = true) (hd : on_dq cc pc 3 pc2 (.invokestatic idx)) (k : ∀ v : Int, on_G X E cc own rt fr lo nL z n σ (kk v) pc2 lv (.long (on_l v) :: rest)) : on_G X E cc own rt fr lo nL z n σ (on_MnL a b kk) pc lv (.long (on_l b) :: .long (on_l a) :: rest) := by
  obtain ⟨p, e, R, s, m, args, below, meth, c, out⟩ := X
  intro hC hx H locs ls hP hS hl
  obtain ⟨cx, cb, cm, co, ct, cK, cE, ck, cr, cR, cz⟩ := id hC
  obtain ⟨hd, rfl⟩ := hd
  unfold on_MnL at hx
  by_cases h : on_RL a ∧ on_RL b
  · rw [if_pos h] at hx
    subst cR
    simp only [on_ok, Bool.and_eq_true] at hr
    obtain ⟨⟨r1, r2⟩, r3⟩ := hr
    have r1 := Nat.le_of_ble_eq_true r1
    have r2 := Nat.le_of_ble_eq_true r2
    have r3 := Nat.le_of_ble_eq_true r3
    refine va_mmin_long cx cb (cm.trans hl.1.symm) co (ct _ hw) (ct _ kwML_s) (ct _ kwM_i) (ct _ kwML_c) (show 1 ≤ fr by omega) (show _ + 15 ≤ lo by omega) (Nat.le_refl _) (Nat.le_refl _) hd ?_
    have e : (if on_l b < on_l a then on_l b else on_l a) = on_l (min a b) := by
      split
      · rename_i q
        rw [on_l_lt h.2 h.1] at q; congr 1; omega
      · rename_i q
        rw [on_l_lt h.2 h.1] at q; congr 1; omega
    rw [e]
    exact k _ hC hx H locs ls hP hS hl
  · rw [if_neg h] at hx
    cases hx
theorem on_mabs {kk : Int → Option on_O} (hw : Cond.methodLink own idx Lib.Math.abs.name ∈ on_T) (hr : on_ok 0 2 0 fr lo rest = true) (hd : on_dq cc pc 3 pc2 (.invokestatic idx)) (k : ∀ v : Int, on_G X E cc own rt fr lo nL z n σ (kk v) pc2 lv (.int (on_i v) :: rest)) : on_G X E cc own rt fr lo nL z n σ (on_Ab a kk) pc lv (.int (on_i a) :: rest) := by
  obtain ⟨p, e, R, s, m, args, below, meth, c, out⟩ := X
  intro hC hx H locs ls hP hS hl
  obtain ⟨cx, cb, cm, co, ct, cK, cE, ck, cr, cR, cz⟩ := id hC
  obtain ⟨hd, rfl⟩ := hd
  unfold on_Ab at hx
  by_cases h : on_R a
  · rw [if_pos h] at hx
    subst cR
    simp only [on_ok, Bool.and_eq_true] at hr
    obtain ⟨⟨r1, r2⟩, r3⟩ := hr
    have r1 := Nat.le_of_ble_eq_true r1
    have r2 := Nat.le_of_ble_eq_true r2
    have r3 := Nat.le_of_ble_eq_true r3
    refine va_mabs cx cb (cm.trans hl.1.symm) co (ct _ hw) (ct _ kwMA_s) (ct _ kwM_i) (ct _ kwMA_c) (show 1 ≤ fr by omega) (show _ + 13 ≤ lo by omega) (Nat.le_refl _) (Nat.le_refl _) hd ?_
    have e0 : (0 : Int32) = on_i 0 := rfl
    have e : (if 0 ≤ on_i a then on_i a else 0 - on_i a) = on_i (if 0 ≤ a then a else -a) := by
      have e1 := on_i_le (show on_R 0 by decide) h
      by_cases q : 0 ≤ a
      · rw [if_pos (show (0 : Int32) ≤ on_i a from e1.mpr q), if_pos q]
      · rw [if_neg (show ¬ (0 : Int32) ≤ on_i a from fun t => q (e1.mp t)), if_neg q, e0, ← on_i_sub]; congr 1; omega
    rw [e]
    exact k _ hC hx H locs ls hP hS hl
  · rw [if_neg h] at hx
    cases hx
theorem on_cret (hn : narrow .char (.int (on_i a)) = .int (on_i a)) (hd : on_dq cc pc 1 pc2 .ireturn) : on_G X E cc own (some .char) fr lo nL z n σ (some (a, σ)) pc lv [.int (on_i a)] := by
  obtain ⟨p, e, R, s, m, args, below, meth, c, out⟩ := X
  intro hC hx H locs ls hP hS hl
  obtain ⟨cx, cb, cm, co, ct, cK, cE, ck, cr, cR, cz⟩ := id hC
  obtain ⟨hd, rfl⟩ := hd
  cases hx
  exact W.zret (v := on_i a) (ty := .char) cx cb cr hn (fun t ht hW => ⟨rfl, by rw [ht]; exact hP, hS.F ht⟩) hS.2.2 hd ck
theorem on_bret (hn : narrow .byte (.int (on_i a)) = .int (on_i a)) (hd : on_dq cc pc 1 pc2 .ireturn) : on_G X E cc own (some .byte) fr lo nL z n σ (some (a, σ)) pc lv [.int (on_i a)] := by
  obtain ⟨p, e, R, s, m, args, below, meth, c, out⟩ := X
  intro hC hx H locs ls hP hS hl
  obtain ⟨cx, cb, cm, co, ct, cK, cE, ck, cr, cR, cz⟩ := id hC
  obtain ⟨hd, rfl⟩ := hd
  cases hx
  exact W.zret (v := on_i a) (ty := .byte) cx cb cr hn (fun t ht hW => ⟨rfl, by rw [ht]; exact hP, hS.F ht⟩) hS.2.2 hd ck
theorem on_cT0i {f2 l2 ny : Nat} {y2 : MethodName} {cy : ByteArray} {r : Option on_O} {kk : Int → on_S → Option on_O} (hj : j < 17) (hM : on_Mv y2 cy ny (some .int) 0) (hw : Cond.methodLink own idx y2 ∈ on_T) (hqy : y2.cls = "java/lang/String") (hc : on_Sp E y2 cy ny (some .int) f2 l2 z n [.ref (E.2.2.2.1 j)] σ r) (hr : on_ok f2 ny l2 fr lo rest = true) (hd : on_dq cc pc 3 pc2 (.invokevirtual idx)) (k : ∀ (v : Int) (σ2 : on_S), on_G X E cc own rt fr lo nL z n σ2 (kk v σ2) pc2 lv (.int (on_i v) :: rest)) : on_G X E cc own rt fr lo nL z n σ (on_Cl r kk) pc lv (.ref (E.2.2.2.1 j) :: rest) := by
  obtain ⟨p, e, R, s, m, args, below, meth, c, out⟩ := X
  intro hC hx H locs ls hP hS hl
  obtain ⟨cx, cb, cm, co, ct, cK, cE, ck, cr, cR, cz⟩ := id hC
  obtain ⟨hd, rfl⟩ := hd
  unfold on_Cl at hx
  cases hq : r with
  | none => rw [hq] at hx; cases hx
  | some q =>
    rw [hq] at hx
    subst cR
    obtain ⟨m1, m2, m3, m4, m5, m6, m7⟩ := hM
    simp only [on_ok, Bool.and_eq_true] at hr
    obtain ⟨⟨r1, r2⟩, r3⟩ := hr
    have cb' : CallB _ s args own idx y2 cy ny (some .int) (.code y2 cy ny (some .int) :: on_T) { frames := f2, cells := 0, slots := 0, locals := l2 } 0 0 0 := callB_of (R := { frames := fr, cells := 0, slots := 0, locals := lo }) 0 ct (on_goodT m1) rfl rfl rfl (ct _ m4) (ct _ hw) ⟨m5, m6, m7⟩ ⟨Nat.le_of_ble_eq_true r1, Nat.le_of_ble_eq_true r2⟩
    refine on_runQ (q := q) (va_runV (As := []) (rest := rest) (C := y2.cls) ⟨cx, cb, cm, co, ct⟩ (hc q hq) ⟨cb', ct _ m2, ct _ m3⟩ ⟨on_U_blind, ?_, ?_⟩ rfl rfl hl.1 rfl (lv_room (Nat.le_of_ble_eq_true r3)) hd ⟨Nat.le_refl _, Nat.le_refl _⟩) hS ?_
    · have h1 := vk_recv cE.2.1 hj hS
      rw [hqy]
      exact h1
    · intro U hU hW
      exact ⟨rfl, by rw [hU]; exact hP, va_K.moved hW.alike cK, cE.warm hW (fun q h1 h2 => by rw [hU]; exact hS.2.1 q h1 h2)⟩
    · intro H1 locs1 g1 g2
      exact k q.1 q.2 hC hx H1 locs1 ls g1 g2 hl
theorem on_cT0z {f2 l2 ny : Nat} {y2 : MethodName} {cy : ByteArray} {r : Option on_O} {kk : Int → on_S → Option on_O} (hj : j < 17) (hM : on_Mv y2 cy ny (some .boolean) 0) (hw : Cond.methodLink own idx y2 ∈ on_T) (hqy : y2.cls = "java/lang/String") (hc : on_Sp E y2 cy ny (some .boolean) f2 l2 z n [.ref (E.2.2.2.1 j)] σ r) (hr : on_ok f2 ny l2 fr lo rest = true) (hd : on_dq cc pc 3 pc2 (.invokevirtual idx)) (k : ∀ (v : Int) (σ2 : on_S), on_G X E cc own rt fr lo nL z n σ2 (kk v σ2) pc2 lv (.int (on_i v) :: rest)) : on_G X E cc own rt fr lo nL z n σ (on_Cl r kk) pc lv (.ref (E.2.2.2.1 j) :: rest) := by
  obtain ⟨p, e, R, s, m, args, below, meth, c, out⟩ := X
  intro hC hx H locs ls hP hS hl
  obtain ⟨cx, cb, cm, co, ct, cK, cE, ck, cr, cR, cz⟩ := id hC
  obtain ⟨hd, rfl⟩ := hd
  unfold on_Cl at hx
  cases hq : r with
  | none => rw [hq] at hx; cases hx
  | some q =>
    rw [hq] at hx
    subst cR
    obtain ⟨m1, m2, m3, m4, m5, m6, m7⟩ := hM
    simp only [on_ok, Bool.and_eq_true] at hr
    obtain ⟨⟨r1, r2⟩, r3⟩ := hr
    have cb' : CallB _ s args own idx y2 cy ny (some .boolean) (.code y2 cy ny (some .boolean) :: on_T) { frames := f2, cells := 0, slots := 0, locals := l2 } 0 0 0 := callB_of (R := { frames := fr, cells := 0, slots := 0, locals := lo }) 0 ct (on_goodT m1) rfl rfl rfl (ct _ m4) (ct _ hw) ⟨m5, m6, m7⟩ ⟨Nat.le_of_ble_eq_true r1, Nat.le_of_ble_eq_true r2⟩
    refine on_runQ (q := q) (va_runV (As := []) (rest := rest) (C := y2.cls) ⟨cx, cb, cm, co, ct⟩ (hc q hq) ⟨cb', ct _ m2, ct _ m3⟩ ⟨on_U_blind, ?_, ?_⟩ rfl rfl hl.1 rfl (lv_room (Nat.le_of_ble_eq_true r3)) hd ⟨Nat.le_refl _, Nat.le_refl _⟩) hS ?_
    · have h1 := vk_recv cE.2.1 hj hS
      rw [hqy]
      exact h1
    · intro U hU hW
      exact ⟨rfl, by rw [hU]; exact hP, va_K.moved hW.alike cK, cE.warm hW (fun q h1 h2 => by rw [hU]; exact hS.2.1 q h1 h2)⟩
    · intro H1 locs1 g1 g2
      exact k q.1 q.2 hC hx H1 locs1 ls g1 g2 hl
theorem on_cT0b {f2 l2 ny : Nat} {y2 : MethodName} {cy : ByteArray} {r : Option on_O} {kk : Int → on_S → Option on_O} (hj : j < 17) (hM : on_Mv y2 cy ny (some .byte) 0) (hw : Cond.methodLink own idx y2 ∈ on_T) (hqy : y2.cls = "java/lang/String") (hc : on_Sp E y2 cy ny (some .byte) f2 l2 z n [.ref (E.2.2.2.1 j)] σ r) (hr : on_ok f2 ny l2 fr lo rest = true) (hd : on_dq cc pc 3 pc2 (.invokevirtual idx)) (k : ∀ (v : Int) (σ2 : on_S), on_G X E cc own rt fr lo nL z n σ2 (kk v σ2) pc2 lv (.int (on_i v) :: rest)) : on_G X E cc own rt fr lo nL z n σ (on_Cl r kk) pc lv (.ref (E.2.2.2.1 j) :: rest) := by
  obtain ⟨p, e, R, s, m, args, below, meth, c, out⟩ := X
  intro hC hx H locs ls hP hS hl
  obtain ⟨cx, cb, cm, co, ct, cK, cE, ck, cr, cR, cz⟩ := id hC
  obtain ⟨hd, rfl⟩ := hd
  unfold on_Cl at hx
  cases hq : r with
  | none => rw [hq] at hx; cases hx
  | some q =>
    rw [hq] at hx
    subst cR
    obtain ⟨m1, m2, m3, m4, m5, m6, m7⟩ := hM
    simp only [on_ok, Bool.and_eq_true] at hr
    obtain ⟨⟨r1, r2⟩, r3⟩ := hr
    have cb' : CallB _ s args own idx y2 cy ny (some .byte) (.code y2 cy ny (some .byte) :: on_T) { frames := f2, cells := 0, slots := 0, locals := l2 } 0 0 0 := callB_of (R := { frames := fr, cells := 0, slots := 0, locals := lo }) 0 ct (on_goodT m1) rfl rfl rfl (ct _ m4) (ct _ hw) ⟨m5, m6, m7⟩ ⟨Nat.le_of_ble_eq_true r1, Nat.le_of_ble_eq_true r2⟩
    refine on_runQ (q := q) (va_runV (As := []) (rest := rest) (C := y2.cls) ⟨cx, cb, cm, co, ct⟩ (hc q hq) ⟨cb', ct _ m2, ct _ m3⟩ ⟨on_U_blind, ?_, ?_⟩ rfl rfl hl.1 rfl (lv_room (Nat.le_of_ble_eq_true r3)) hd ⟨Nat.le_refl _, Nat.le_refl _⟩) hS ?_
    · have h1 := vk_recv cE.2.1 hj hS
      rw [hqy]
      exact h1
    · intro U hU hW
      exact ⟨rfl, by rw [hU]; exact hP, va_K.moved hW.alike cK, cE.warm hW (fun q h1 h2 => by rw [hU]; exact hS.2.1 q h1 h2)⟩
    · intro H1 locs1 g1 g2
      exact k q.1 q.2 hC hx H1 locs1 ls g1 g2 hl
theorem on_cT1c {f2 l2 ny : Nat} {y2 : MethodName} {cy : ByteArray} {w1 : Value} {r : Option on_O} {kk : Int → on_S → Option on_O} (hj : j < 17) (hM : on_Mv y2 cy ny (some .char) 1) (hw : Cond.methodLink own idx y2 ∈ on_T) (hqy : y2.cls = "java/lang/String") (hc : on_Sp E y2 cy ny (some .char) f2 l2 z n [.ref (E.2.2.2.1 j), w1] σ r) (hr : on_ok f2 ny l2 fr lo rest = true) (hd : on_dq cc pc 3 pc2 (.invokevirtual idx)) (k : ∀ (v : Int) (σ2 : on_S), on_G X E cc own rt fr lo nL z n σ2 (kk v σ2) pc2 lv (.int (on_i v) :: rest)) : on_G X E cc own rt fr lo nL z n σ (on_Cl r kk) pc lv (w1 :: .ref (E.2.2.2.1 j) :: rest) := by
  obtain ⟨p, e, R, s, m, args, below, meth, c, out⟩ := X
  intro hC hx H locs ls hP hS hl
  obtain ⟨cx, cb, cm, co, ct, cK, cE, ck, cr, cR, cz⟩ := id hC
  obtain ⟨hd, rfl⟩ := hd
  unfold on_Cl at hx
  cases hq : r with
  | none => rw [hq] at hx; cases hx
  | some q =>
    rw [hq] at hx
    subst cR
    obtain ⟨m1, m2, m3, m4, m5, m6, m7⟩ := hM
    simp only [on_ok, Bool.and_eq_true] at hr
    obtain ⟨⟨r1, r2⟩, r3⟩ := hr
    have cb' : CallB _ s args own idx y2 cy ny (some .char) (.code y2 cy ny (some .char) :: on_T) { frames := f2, cells := 0, slots := 0, locals := l2 } 0 0 1 := callB_of (R := { frames := fr, cells := 0, slots := 0, locals := lo }) 1 ct (on_goodT m1) rfl rfl rfl (ct _ m4) (ct _ hw) ⟨m5, m6, m7⟩ ⟨Nat.le_of_ble_eq_true r1, Nat.le_of_ble_eq_true r2⟩
    refine on_runQ (q := q) (va_runV (As := [w1]) (rest := rest) (C := y2.cls) ⟨cx, cb, cm, co, ct⟩ (hc q hq) ⟨cb', ct _ m2, ct _ m3⟩ ⟨on_U_blind, ?_, ?_⟩ rfl rfl hl.1 rfl (lv_room (Nat.le_of_ble_eq_true r3)) hd ⟨Nat.le_refl _, Nat.le_refl _⟩) hS ?_
    · have h1 := vk_recv cE.2.1 hj hS
      rw [hqy]
      exact h1
    · intro U hU hW
      exact ⟨rfl, by rw [hU]; exact hP, va_K.moved hW.alike cK, cE.warm hW (fun q h1 h2 => by rw [hU]; exact hS.2.1 q h1 h2)⟩
    · intro H1 locs1 g1 g2
      exact k q.1 q.2 hC hx H1 locs1 ls g1 g2 hl
theorem on_cS2c {f2 l2 ny : Nat} {y2 : MethodName} {cy : ByteArray} {w1 w2 : Value} {r : Option on_O} {kk : Int → on_S → Option on_O} (hM : on_Ms y2 cy ny (some .char) 2) (hw : Cond.methodLink own idx y2 ∈ on_T) (hc : on_Sp E y2 cy ny (some .char) f2 l2 z n [w1, w2] σ r) (hr : on_ok f2 ny l2 fr lo rest = true) (hd : on_dq cc pc 3 pc2 (.invokestatic idx)) (k : ∀ (v : Int) (σ2 : on_S), on_G X E cc own rt fr lo nL z n σ2 (kk v σ2) pc2 lv (.int (on_i v) :: rest)) : on_G X E cc own rt fr lo nL z n σ (on_Cl r kk) pc lv (w2 :: w1 :: rest) := by
  obtain ⟨p, e, R, s, m, args, below, meth, c, out⟩ := X
  intro hC hx H locs ls hP hS hl
  obtain ⟨cx, cb, cm, co, ct, cK, cE, ck, cr, cR, cz⟩ := id hC
  obtain ⟨hd, rfl⟩ := hd
  unfold on_Cl at hx
  cases hq : r with
  | none => rw [hq] at hx; cases hx
  | some q =>
    rw [hq] at hx
    subst cR
    obtain ⟨m1, m2, m4, m5, m6, m7⟩ := hM
    simp only [on_ok, Bool.and_eq_true] at hr
    obtain ⟨⟨r1, r2⟩, r3⟩ := hr
    have cb' : CallB _ s args own idx y2 cy ny (some .char) (.code y2 cy ny (some .char) :: on_T) { frames := f2, cells := 0, slots := 0, locals := l2 } 0 0 2 := callB_of (R := { frames := fr, cells := 0, slots := 0, locals := lo }) 2 ct (on_goodT m1) rfl rfl rfl (ct _ m4) (ct _ hw) ⟨m5, m6, m7⟩ ⟨Nat.le_of_ble_eq_true r1, Nat.le_of_ble_eq_true r2⟩
    refine on_runQ (q := q) (va_runS (As := [w1, w2]) (rest := rest) ⟨cx, cb, cm, co, ct⟩ (hc q hq) ⟨cb', ct _ m2⟩ ⟨on_U_blind, ?_⟩ rfl rfl hl.1 rfl (lv_room (Nat.le_of_ble_eq_true r3)) hd ⟨Nat.le_refl _, Nat.le_refl _⟩) hS ?_
    · intro U hU hW
      exact ⟨rfl, by rw [hU]; exact hP, va_K.moved hW.alike cK, cE.warm hW (fun q h1 h2 => by rw [hU]; exact hS.2.1 q h1 h2)⟩
    · intro H1 locs1 g1 g2
      exact k q.1 q.2 hC hx H1 locs1 ls g1 g2 hl
theorem on_cN1i {f2 l2 ny : Nat} {y2 : MethodName} {cy : ByteArray} {w1 : Value} {r : Option on_O} {kk : Int → on_S → Option on_O} (hM : on_Ms y2 cy ny (some .int) 1) (hw : (own, idx, y2) ∈ on_nest) (hc : on_Sp E y2 cy ny (some .int) f2 l2 z n [w1] σ r) (hr : on_ok f2 ny l2 fr lo rest = true) (hd : on_dq cc pc 3 pc2 (.invokestatic idx)) (k : ∀ (v : Int) (σ2 : on_S), on_G X E cc own rt fr lo nL z n σ2 (kk v σ2) pc2 lv (.int (on_i v) :: rest)) : on_G X E cc own rt fr lo nL z n σ (on_Cl r kk) pc lv (w1 :: rest) := by
  obtain ⟨p, e, R, s, m, args, below, meth, c, out⟩ := X
  intro hC hx H locs ls hP hS hl
  obtain ⟨cx, cb, cm, co, ct, cK, cE, ck, cr, cR, cz⟩ := id hC
  obtain ⟨hd, rfl⟩ := hd
  unfold on_Cl at hx
  cases hq : r with
  | none => rw [hq] at hx; cases hx
  | some q =>
    rw [hq] at hx
    subst cR
    obtain ⟨m1, m2, m4, m5, m6, m7⟩ := hM
    simp only [on_ok, Bool.and_eq_true] at hr
    obtain ⟨⟨r1, r2⟩, r3⟩ := hr
    have cb' : va_CN _ s args own idx y2 "OppositeNets" cy ny (some .int) (.code y2 cy ny (some .int) :: on_T) { frames := f2, cells := 0, slots := 0, locals := l2 } 0 0 1 := va_cnB (R := { frames := fr, cells := 0, slots := 0, locals := lo }) 1 ct (on_goodT m1) rfl rfl rfl (cE.2.2.2.1 _ hw) (ct _ m4) ⟨m5, m6, m7⟩ ⟨Nat.le_of_ble_eq_true r1, Nat.le_of_ble_eq_true r2⟩
    refine on_runQ (q := q) (va_runSN (As := [w1]) (rest := rest) ⟨cx, cb, cm, co, ct⟩ (hc q hq) ⟨cb', ct _ m2, trivial⟩ ⟨on_U_blind, ?_⟩ rfl rfl hl.1 rfl (lv_room (Nat.le_of_ble_eq_true r3)) hd ⟨Nat.le_refl _, Nat.le_refl _⟩) hS ?_
    · intro U hU hW
      exact ⟨rfl, by rw [hU]; exact hP, va_K.moved hW.alike cK, cE.warm hW (fun q h1 h2 => by rw [hU]; exact hS.2.1 q h1 h2)⟩
    · intro H1 locs1 g1 g2
      exact k q.1 q.2 hC hx H1 locs1 ls g1 g2 hl
end ON14
def tb_J0_coder_7d493 : List (Nat × Nat × Nat × Instr) := [(0, 3, 3, .getstatic 38), (3, 3, 6, .ifCond .eq 10), (6, 1, 7, .aload_n 0), (7, 3, 10, .getfield 15), (10, 3, 13, .goto 4), (13, 1, 14, .iconst 1), (14, 1, 15, .ireturn)]
set_option maxRecDepth 100000 in
theorem tk_J0_coder_7d493 (k : Nat) {pc n pc2 : Nat} {i : Instr} (hk : tb_J0_coder_7d493[k]? = some (pc, n, pc2, i)) : on_dq cJ0_coder_7d493 pc n pc2 i := on_ta (by decide +kernel) k hk
theorem ms_J0_coder_7d493 : on_Mv yJ0_coder_7d493 cJ0_coder_7d493 1 (some .byte) 0 := ⟨kw_3_48, kw_3_46, kw_3_47, kw_1_16, by decide, by decide, by decide +kernel⟩
def tb_J0_isLatin1_aae02 : List (Nat × Nat × Nat × Instr) := [(0, 3, 3, .getstatic 38), (3, 3, 6, .ifCond .eq 14), (6, 1, 7, .aload_n 0), (7, 3, 10, .getfield 15), (10, 3, 13, .ifCond .ne 7), (13, 1, 14, .iconst 1), (14, 3, 17, .goto 4), (17, 1, 18, .iconst 0), (18, 1, 19, .ireturn)]
set_option maxRecDepth 100000 in
theorem tk_J0_isLatin1_aae02 (k : Nat) {pc n pc2 : Nat} {i : Instr} (hk : tb_J0_isLatin1_aae02[k]? = some (pc, n, pc2, i)) : on_dq cJ0_isLatin1_aae02 pc n pc2 i := on_ta (by decide +kernel) k hk
theorem ms_J0_isLatin1_aae02 : on_Mv yJ0_isLatin1_aae02 cJ0_isLatin1_aae02 1 (some .boolean) 0 := ⟨kw_3_58, kw_3_56, kw_3_57, kw_1_16, by decide, by decide, by decide +kernel⟩
def tb_J0_length_8abf5 : List (Nat × Nat × Nat × Instr) := [(0, 1, 1, .aload_n 0), (1, 3, 4, .getfield 9), (4, 1, 5, .arraylength), (5, 1, 6, .aload_n 0), (6, 3, 9, .invokevirtual 335), (9, 1, 10, .ishr), (10, 1, 11, .ireturn)]
set_option maxRecDepth 100000 in
theorem tk_J0_length_8abf5 (k : Nat) {pc n pc2 : Nat} {i : Instr} (hk : tb_J0_length_8abf5[k]? = some (pc, n, pc2, i)) : on_dq cJ0_length_8abf5 pc n pc2 i := on_ta (by decide +kernel) k hk
theorem ms_J0_length_8abf5 : on_Mv yJ0_length_8abf5 cJ0_length_8abf5 1 (some .int) 0 := ⟨kw_3_44, kw_3_42, kw_3_43, kw_1_16, by decide, by decide, by decide +kernel⟩
def tb_J3_checkIndex_8e157 : List (Nat × Nat × Nat × Instr) := [(0, 1, 1, .iload_n 0), (1, 3, 4, .ifCond .lt 8), (4, 1, 5, .iload_n 0), (5, 1, 6, .iload_n 1), (6, 3, 9, .if_icmp .lt 10), (9, 1, 10, .aload_n 2), (10, 1, 11, .iload_n 0), (11, 1, 12, .iload_n 1), (12, 3, 15, .invokestatic 95), (15, 1, 16, .athrow), (16, 1, 17, .iload_n 0), (17, 1, 18, .ireturn)]
set_option maxRecDepth 100000 in
theorem tk_J3_checkIndex_8e157 (k : Nat) {pc n pc2 : Nat} {i : Instr} (hk : tb_J3_checkIndex_8e157[k]? = some (pc, n, pc2, i)) : on_dq cJ3_checkIndex_8e157 pc n pc2 i := on_ta (by decide +kernel) k hk
theorem ms_J3_checkIndex_8e157 : on_Ms yJ3_checkIndex_8e157 cJ3_checkIndex_8e157 3 (some .int) 3 := ⟨kw_3_69, kw_3_68, kw_1_18, by decide, by decide, by decide +kernel⟩
def tb_J0_checkIndex_df160 : List (Nat × Nat × Nat × Instr) := [(0, 1, 1, .iload_n 0), (1, 1, 2, .iload_n 1), (2, 3, 5, .getstatic 1053), (5, 3, 8, .invokestatic 1059), (8, 1, 9, .pop), (9, 1, 10, .return_)]
set_option maxRecDepth 100000 in
theorem tk_J0_checkIndex_df160 (k : Nat) {pc n pc2 : Nat} {i : Instr} (hk : tb_J0_checkIndex_df160[k]? = some (pc, n, pc2, i)) : on_dq cJ0_checkIndex_df160 pc n pc2 i := on_ta (by decide +kernel) k hk
theorem ms_J0_checkIndex_df160 : on_Ms yJ0_checkIndex_df160 cJ0_checkIndex_df160 2 none 2 := ⟨kw_3_64, kw_3_63, kw_1_16, by decide, by decide, by decide +kernel⟩
def tb_J1_charAt_3b067 : List (Nat × Nat × Nat × Instr) := [(0, 1, 1, .iload_n 1), (1, 1, 2, .aload_n 0), (2, 1, 3, .arraylength), (3, 3, 6, .invokestatic 9), (6, 1, 7, .aload_n 0), (7, 1, 8, .iload_n 1), (8, 1, 9, .baload), (9, 3, 12, .sipush 255), (12, 1, 13, .iand), (13, 1, 14, .i2c), (14, 1, 15, .ireturn)]
set_option maxRecDepth 100000 in
theorem tk_J1_charAt_3b067 (k : Nat) {pc n pc2 : Nat} {i : Instr} (hk : tb_J1_charAt_3b067[k]? = some (pc, n, pc2, i)) : on_dq cJ1_charAt_3b067 pc n pc2 i := on_ta (by decide +kernel) k hk
theorem ms_J1_charAt_3b067 : on_Ms yJ1_charAt_3b067 cJ1_charAt_3b067 2 (some .char) 2 := ⟨kw_3_61, kw_3_60, kw_1_17, by decide, by decide, by decide +kernel⟩
def tb_J0_charAt_5068e : List (Nat × Nat × Nat × Instr) := [(0, 1, 1, .aload_n 0), (1, 3, 4, .invokevirtual 492), (4, 3, 7, .ifCond .eq 12), (7, 1, 8, .aload_n 0), (8, 3, 11, .getfield 9), (11, 1, 12, .iload_n 1), (12, 3, 15, .invokestatic 495), (15, 1, 16, .ireturn), (16, 1, 17, .aload_n 0), (17, 3, 20, .getfield 9), (20, 1, 21, .iload_n 1), (21, 3, 24, .invokestatic 498), (24, 1, 25, .ireturn)]
set_option maxRecDepth 100000 in
theorem tk_J0_charAt_5068e (k : Nat) {pc n pc2 : Nat} {i : Instr} (hk : tb_J0_charAt_5068e[k]? = some (pc, n, pc2, i)) : on_dq cJ0_charAt_5068e pc n pc2 i := on_ta (by decide +kernel) k hk
theorem ms_J0_charAt_5068e : on_Mv yJ0_charAt_5068e cJ0_charAt_5068e 2 (some .char) 1 := ⟨kw_3_54, kw_3_52, kw_3_53, kw_1_16, by decide, by decide, by decide +kernel⟩
set_option maxRecDepth 100000 in
theorem ct_J0_coder_7d493 {E : on_E} {z n : Nat} {j : Nat} {σ : on_S} (hj : j < 17) : on_Sp E yJ0_coder_7d493 cJ0_coder_7d493 1 (some .byte) 0 0 z n [.ref (E.2.2.2.1 j)] σ (some (0, σ)) := by
  refine on_met [some (.ref (E.2.2.2.1 j))] (by decide) rfl rfl (fun X => ?_)
  rw [show (some (0, σ) : Option on_O) = on_Eq 1 0 none (some (0, σ)) from by unfold on_Eq; rw [if_pos (show on_R 1 ∧ on_R 0 by decide), if_neg (by decide)]]
  refine on_sgetz kw_3_49 (tk_J0_coder_7d493 0 rfl) ?_
  refine on_if_eq (tk_J0_coder_7d493 1 rfl) (tgt := 13) (by decide) ?_ ?_
  · refine on_al0 (tk_J0_coder_7d493 2 rfl) ?_
    refine on_sgetc hj kw_9_189 (tk_J0_coder_7d493 3 rfl) ?_
    refine on_goto (tk_J0_coder_7d493 4 rfl) (tgt := 14) (by decide) ?_
    exact on_bret (by decide) (tk_J0_coder_7d493 6 rfl)
  · exact on_none
set_option maxRecDepth 100000 in
theorem ct_J0_isLatin1_aae02 {E : on_E} {z n : Nat} {j : Nat} {σ : on_S} (hj : j < 17) : on_Sp E yJ0_isLatin1_aae02 cJ0_isLatin1_aae02 1 (some .boolean) 0 0 z n [.ref (E.2.2.2.1 j)] σ (some (1, σ)) := by
  refine on_met [some (.ref (E.2.2.2.1 j))] (by decide) rfl rfl (fun X => ?_)
  rw [show (some (1, σ) : Option on_O) = on_Eq 1 0 none (on_Eq 0 0 (some (1, σ)) none) from by unfold on_Eq; rw [if_pos (show on_R 1 ∧ on_R 0 by decide), if_neg (by decide), if_pos (show on_R 0 ∧ on_R 0 by decide), if_pos rfl]]
  refine on_sgetz kw_3_49 (tk_J0_isLatin1_aae02 0 rfl) ?_
  refine on_if_eq (tk_J0_isLatin1_aae02 1 rfl) (tgt := 17) (by decide) ?_ ?_
  · refine on_al0 (tk_J0_isLatin1_aae02 2 rfl) ?_
    refine on_sgetc hj kw_9_189 (tk_J0_isLatin1_aae02 3 rfl) ?_
    refine on_if_ne (tk_J0_isLatin1_aae02 4 rfl) (tgt := 17) (by decide) ?_ ?_
    · refine on_iconst (tk_J0_isLatin1_aae02 5 rfl) ?_
      refine on_goto (tk_J0_isLatin1_aae02 6 rfl) (tgt := 18) (by decide) ?_
      exact on_zret1 (tk_J0_isLatin1_aae02 8 rfl)
    · exact on_none
  · exact on_none
theorem on_shr0 (j : Nat) : on_shr ((on_len.getD j 0 : Nat) : Int) 0 = ((on_len.getD j 0 : Nat) : Int) := by
  have h := on_len_ok j
  have : ∀ q : Nat, q < 9 → on_shr (q : Int) 0 = (q : Int) := by decide +kernel
  exact this _ h
set_option maxRecDepth 100000 in
theorem ct_J0_length_8abf5 {E : on_E} {z n : Nat} {j : Nat} {σ : on_S} (hj : j < 17) : on_Sp E yJ0_length_8abf5 cJ0_length_8abf5 1 (some .int) 1 20 z n [.ref (E.2.2.2.1 j)] σ (some (((on_len.getD j 0 : Nat) : Int), σ)) := by
  refine on_met [some (.ref (E.2.2.2.1 j))] (by decide) rfl rfl (fun X => ?_)
  rw [show (some (((on_len.getD j 0 : Nat) : Int), σ) : Option on_O) = on_Cl (some (0, σ)) (fun v σ2 => some (on_shr ((on_len.getD j 0 : Nat) : Int) v, σ2)) from by unfold on_Cl; congr 2; have := on_shr0 j; exact this.symm]
  refine on_al0 (tk_J0_length_8abf5 0 rfl) ?_
  refine on_sgetv hj kw_9_188 (tk_J0_length_8abf5 1 rfl) ?_
  refine on_salen hj (tk_J0_length_8abf5 2 rfl) ?_
  refine on_al0 (tk_J0_length_8abf5 3 rfl) ?_
  refine on_cT0b hj ms_J0_coder_7d493 kw_3_45 rfl (ct_J0_coder_7d493 hj) rfl (tk_J0_length_8abf5 4 rfl) fun v σ2 => ?_
  refine on_ishr (tk_J0_length_8abf5 5 rfl) ?_
  exact on_iret (tk_J0_length_8abf5 6 rfl)
set_option maxRecDepth 100000 in
theorem ct_J3_checkIndex_8e157 {E : on_E} {z n : Nat} {t : Option Nat} {a b : Int} {σ : on_S} (h0 : 0 ≤ a) (h1 : a < b) (h2 : b < 2147483648) : on_Sp E yJ3_checkIndex_8e157 cJ3_checkIndex_8e157 3 (some .int) 0 0 z n [.int (on_i a), .int (on_i b), va_rf t] σ (some (a, σ)) := by
  suffices hh : ∀ X, on_G X E cJ3_checkIndex_8e157 yJ3_checkIndex_8e157.cls (some .int) 0 0 3 z n σ (some (a, σ)) 0 [some (.int (on_i a)), some (.int (on_i b)), some (va_rf t)] [] by
    cases t with
    | none => exact on_met [some (.int (on_i a)), some (.int (on_i b)), some .null] (by decide) rfl rfl hh
    | some t => exact on_met [some (.int (on_i a)), some (.int (on_i b)), some (.ref t)] (by decide) rfl rfl hh
  intro X
  rw [show (some (a, σ) : Option on_O) = on_Lt a 0 none (on_Lt a b (some (a, σ)) none) from by unfold on_Lt; rw [if_pos (show on_R a ∧ on_R 0 by unfold on_R; omega), if_neg (by omega), if_pos (show on_R a ∧ on_R b by unfold on_R; omega), if_pos h1]]
  refine on_il0 (tk_J3_checkIndex_8e157 0 rfl) ?_
  refine on_if_lt (tk_J3_checkIndex_8e157 1 rfl) (tgt := 9) (by decide) ?_ ?_
  · refine on_il0 (tk_J3_checkIndex_8e157 2 rfl) ?_
    refine on_il1 (tk_J3_checkIndex_8e157 3 rfl) ?_
    refine on_icmp_lt (tk_J3_checkIndex_8e157 4 rfl) (tgt := 16) (by decide) ?_ ?_
    · exact on_none
    · refine on_il0 (tk_J3_checkIndex_8e157 10 rfl) ?_
      exact on_iret (tk_J3_checkIndex_8e157 11 rfl)
  · exact on_none
set_option maxRecDepth 100000 in
theorem ct_J0_checkIndex_df160 {E : on_E} {z n : Nat} {a b : Int} {σ : on_S} (h0 : 0 ≤ a) (h1 : a < b) (h2 : b < 2147483648) : on_Sp E yJ0_checkIndex_df160 cJ0_checkIndex_df160 2 none 1 22 z n [.int (on_i a), .int (on_i b)] σ (some (0, σ)) := by
  refine on_met [some (.int (on_i a)), some (.int (on_i b))] (by decide) rfl rfl (fun X => ?_)
  rw [show (some (0, σ) : Option on_O) = on_Cl (some (a, σ)) (fun v σ2 => some (0, σ2)) from rfl]
  refine on_il0 (tk_J0_checkIndex_df160 0 rfl) ?_
  refine on_il1 (tk_J0_checkIndex_df160 1 rfl) ?_
  refine on_sgetf kw_3_65 (tk_J0_checkIndex_df160 2 rfl) fun t => ?_
  refine on_cS3i ms_J3_checkIndex_8e157 kw_3_67 (ct_J3_checkIndex_8e157 h0 h1 h2) rfl (tk_J0_checkIndex_df160 3 rfl) fun v σ2 => ?_
  refine on_pop rfl (tk_J0_checkIndex_df160 4 rfl) ?_
  exact on_vret (tk_J0_checkIndex_df160 5 rfl)
set_option maxRecDepth 100000 in
theorem ct_J1_charAt_3b067 {E : on_E} {z n : Nat} {j : Nat} {a : Int} {σ : on_S} (hj : j < 17) (h0 : 0 ≤ a) (h1 : a < ((on_len.getD j 0 : Nat) : Int)) : on_Sp E yJ1_charAt_3b067 cJ1_charAt_3b067 2 (some .char) 2 43 z n [.ref (E.2.2.2.2 j), .int (on_i a)] σ (some (on_chr j a, σ)) := by
  refine on_met [some (.ref (E.2.2.2.2 j)), some (.int (on_i a))] (by decide) rfl rfl (fun X => ?_)
  have hN := on_len_ok j
  have hc := on_chr_ok j hj a.toNat (by omega)
  rw [show ((a.toNat : Nat) : Int) = a by omega] at hc
  rw [show (some (on_chr j a, σ) : Option on_O) = on_Cl (some (0, σ)) (fun _ σ2 => some (on_chr j a, σ2)) from rfl]
  refine on_il1 (tk_J1_charAt_3b067 0 rfl) ?_
  refine on_al0 (tk_J1_charAt_3b067 1 rfl) ?_
  refine on_salen hj (tk_J1_charAt_3b067 2 rfl) ?_
  refine on_cS2v ms_J0_checkIndex_df160 kw_3_62 (ct_J0_checkIndex_df160 h0 h1 (by omega)) rfl (tk_J1_charAt_3b067 3 rfl) fun v σ2 => ?_
  refine on_al0 (tk_J1_charAt_3b067 4 rfl) ?_
  refine on_il1 (tk_J1_charAt_3b067 5 rfl) ?_
  refine on_sbald hj ⟨h0, h1⟩ (tk_J1_charAt_3b067 6 rfl) ?_
  refine on_sipush (tk_J1_charAt_3b067 7 rfl) sp_255 ?_
  refine on_iand (tk_J1_charAt_3b067 8 rfl) ?_
  refine on_i2c (tk_J1_charAt_3b067 9 rfl) ?_
  rw [hc.1]
  exact on_cret hc.2 (tk_J1_charAt_3b067 10 rfl)
theorem on_Sc_ok {j : Nat} {i : Int} {k : Int → Option on_O} (h0 : 0 ≤ i) (h1 : i < ((on_len.getD j 0 : Nat) : Int)) : on_Sc j i k = k (on_chr j i) := if_pos ⟨h0, h1⟩
section ON14b
variable {X : on_X} {E : on_E} {cc : ByteArray} {own : String} {rt : Option FieldType} {fr lo nL z n idx j : Nat} {σ : on_S} {x y : Option on_O} {pc pc2 : Nat} {lv : List (Option Value)} {rest : List Value} {a b : Int}
theorem on_cT0zE {f2 l2 ny : Nat} {y2 : MethodName} {cy : ByteArray} {v : Int} (hj : j < 17) (hM : on_Mv y2 cy ny (some .boolean) 0) (hw : Cond.methodLink own idx y2 ∈ on_T) (hqy : y2.cls = "java/lang/String") (hc : on_Sp E y2 cy ny (some .boolean) f2 l2 z n [.ref (E.2.2.2.1 j)] σ (some (v, σ))) (hr : on_ok f2 ny l2 fr lo rest = true) (hd : on_dq cc pc 3 pc2 (.invokevirtual idx)) (k : on_G X E cc own rt fr lo nL z n σ x pc2 lv (.int (on_i v) :: rest)) : on_G X E cc own rt fr lo nL z n σ x pc lv (.ref (E.2.2.2.1 j) :: rest) := by
  classical
  by_cases h : ∃ o, x = some o
  · obtain ⟨o, rfl⟩ := h
    have k2 : ∀ (v2 : Int) (σ2 : on_S), on_G X E cc own rt fr lo nL z n σ2 (if v2 = v ∧ σ2 = σ then some o else none) pc2 lv (.int (on_i v2) :: rest) := by
      intro v2 σ2
      by_cases q : v2 = v ∧ σ2 = σ
      · rw [if_pos q, q.1, q.2]; exact k
      · rw [if_neg q]; exact on_none
    have h1 := on_cT0z hj hM hw hqy hc hr hd k2
    unfold on_Cl at h1
    simpa using h1
  · have : x = none := by
      cases hx : x with
      | none => rfl
      | some o => exact absurd ⟨o, hx⟩ h
    rw [this]
    exact on_none
theorem on_slen {kk : Int → Option on_O} (hj : j < 17) (hw : Cond.methodLink own idx yJ0_length_8abf5 ∈ on_T) (hr : on_ok 1 1 20 fr lo rest = true) (hd : on_dq cc pc 3 pc2 (.invokevirtual idx)) (k : ∀ v : Int, on_G X E cc own rt fr lo nL z n σ (kk v) pc2 lv (.int (on_i v) :: rest)) : on_G X E cc own rt fr lo nL z n σ (on_Sl j kk) pc lv (.ref (E.2.2.2.1 j) :: rest) := by
  unfold on_Sl
  classical
  by_cases h : ∃ o, kk ((on_len.getD j 0 : Nat) : Int) = some o
  · obtain ⟨o, ho⟩ := h
    rw [ho]
    have k2 : ∀ (v2 : Int) (σ2 : on_S), on_G X E cc own rt fr lo nL z n σ2 (if v2 = ((on_len.getD j 0 : Nat) : Int) ∧ σ2 = σ then some o else none) pc2 lv (.int (on_i v2) :: rest) := by
      intro v2 σ2
      by_cases q : v2 = ((on_len.getD j 0 : Nat) : Int) ∧ σ2 = σ
      · rw [if_pos q, q.1, q.2, ← ho]; exact k _
      · rw [if_neg q]; exact on_none
    have h1 := on_cT0i (σ := σ) hj ms_J0_length_8abf5 hw rfl (ct_J0_length_8abf5 hj) hr hd k2
    unfold on_Cl at h1
    simpa using h1
  · have : kk ((on_len.getD j 0 : Nat) : Int) = none := by
      cases hx : kk ((on_len.getD j 0 : Nat) : Int) with
      | none => rfl
      | some o => exact absurd ⟨o, hx⟩ h
    rw [this]
    exact on_none
end ON14b
set_option maxRecDepth 100000 in
theorem ct_J0_charAt_5068e {E : on_E} {z n : Nat} {j : Nat} {a : Int} {σ : on_S} (hj : j < 17) (h0 : 0 ≤ a) (h1 : a < ((on_len.getD j 0 : Nat) : Int)) : on_Sp E yJ0_charAt_5068e cJ0_charAt_5068e 2 (some .char) 3 64 z n [.ref (E.2.2.2.1 j), .int (on_i a)] σ (some (on_chr j a, σ)) := by
  refine on_met [some (.ref (E.2.2.2.1 j)), some (.int (on_i a))] (by decide) rfl rfl (fun X => ?_)
  classical
  have hc := on_chr_ok j hj a.toNat (by omega)
  rw [show ((a.toNat : Nat) : Int) = a by omega] at hc
  rw [show (some (on_chr j a, σ) : Option on_O) = on_Eq 1 0 none (on_Cl (some (on_chr j a, σ)) (fun v σ2 => if v = on_chr j a ∧ σ2 = σ then some (on_chr j a, σ2) else none)) from by unfold on_Eq on_Cl; rw [if_pos (show on_R 1 ∧ on_R 0 by decide), if_neg (by decide)]; simp]
  refine on_al0 (tk_J0_charAt_5068e 0 rfl) ?_
  refine on_cT0zE hj ms_J0_isLatin1_aae02 kw_3_55 rfl (ct_J0_isLatin1_aae02 hj) rfl (tk_J0_charAt_5068e 1 rfl) ?_
  refine on_if_eq (tk_J0_charAt_5068e 2 rfl) (tgt := 16) (by decide) ?_ ?_
  · refine on_al0 (tk_J0_charAt_5068e 3 rfl) ?_
    refine on_sgetv hj kw_9_188 (tk_J0_charAt_5068e 4 rfl) ?_
    refine on_il1 (tk_J0_charAt_5068e 5 rfl) ?_
    refine on_cS2c ms_J1_charAt_3b067 kw_3_59 (ct_J1_charAt_3b067 hj h0 h1) rfl (tk_J0_charAt_5068e 6 rfl) fun v σ2 => ?_
    by_cases q : v = on_chr j a ∧ σ2 = σ
    · rw [if_pos q, q.1]
      exact on_cret hc.2 (tk_J0_charAt_5068e 7 rfl)
    · rw [if_neg q]; exact on_none
  · exact on_none
section ON14c
variable {X : on_X} {E : on_E} {cc : ByteArray} {own : String} {rt : Option FieldType} {fr lo nL z n idx j : Nat} {σ : on_S} {x y : Option on_O} {pc pc2 : Nat} {lv : List (Option Value)} {rest : List Value} {a b : Int}
theorem on_schr {kk : Int → Option on_O} (hj : j < 17) (hw : Cond.methodLink own idx yJ0_charAt_5068e ∈ on_T) (hr : on_ok 3 2 64 fr lo rest = true) (hd : on_dq cc pc 3 pc2 (.invokevirtual idx)) (k : ∀ v : Int, on_G X E cc own rt fr lo nL z n σ (kk v) pc2 lv (.int (on_i v) :: rest)) : on_G X E cc own rt fr lo nL z n σ (on_Sc j a kk) pc lv (.int (on_i a) :: .ref (E.2.2.2.1 j) :: rest) := by
  unfold on_Sc
  refine (Classical.em (0 ≤ a ∧ a < ((on_len.getD j 0 : Nat) : Int))).elim (fun h9 => ?_) (fun h9 => by rw [if_neg h9]; exact on_none)
  rw [if_pos h9]
  classical
  by_cases h : ∃ o, kk (on_chr j a) = some o
  · obtain ⟨o, ho⟩ := h
    rw [ho]
    have k2 : ∀ (v2 : Int) (σ2 : on_S), on_G X E cc own rt fr lo nL z n σ2 (if v2 = on_chr j a ∧ σ2 = σ then some o else none) pc2 lv (.int (on_i v2) :: rest) := by
      intro v2 σ2
      by_cases q : v2 = on_chr j a ∧ σ2 = σ
      · rw [if_pos q, q.1, q.2, ← ho]; exact k _
      · rw [if_neg q]; exact on_none
    have h1 := on_cT1c (σ := σ) hj ms_J0_charAt_5068e hw rfl (ct_J0_charAt_5068e hj h9.1 h9.2) hr hd k2
    unfold on_Cl at h1
    simpa using h1
  · have : kk (on_chr j a) = none := by
      cases hx : kk (on_chr j a) with
      | none => rfl
      | some o => exact absurd ⟨o, hx⟩ h
    rw [this]
    exact on_none
end ON14c
