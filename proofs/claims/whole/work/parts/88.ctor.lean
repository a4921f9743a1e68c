/-! constructors: cells are made, one behind the other -/
def on_wl (z : Nat) : Nat → List va_E → va_W
  | _, [] => []
  | c, e :: L => (z + c, e) :: on_wl z (c + 1) L
theorem on_wl_at (z : Nat) : ∀ (L : List va_E) (c i : Nat) (e : va_E), L[i]? = some e → (on_wl z c L)[i]? = some (z + (c + i), e) := by
  intro L
  induction L with
  | nil => intro c i e h; cases h
  | cons a L ih =>
    intro c i e h
    cases i with
    | zero => simp only [List.getElem?_cons_zero, Option.some.injEq] at h; subst h; rfl
    | succ i =>
      simp only [List.getElem?_cons_succ] at h
      show (on_wl z (c + 1) L)[i]? = _
      rw [ih (c + 1) i e h]
      congr 2; omega
theorem on_wl_len (z : Nat) : ∀ (L : List va_E) (c : Nat), (on_wl z c L).length = L.length := by
  intro L
  induction L with
  | nil => intro c; rfl
  | cons a L ih => intro c; show (on_wl z (c + 1) L).length + 1 = L.length + 1; rw [ih]
theorem on_wl_inv {z c i : Nat} {L : List va_E} {q : Nat × va_E} (h : (on_wl z c L)[i]? = some q) : ∃ e, L[i]? = some e ∧ q = (z + (c + i), e) := by
  have hl := (List.getElem?_eq_some_iff.mp h).1
  rw [on_wl_len] at hl
  have h2 := on_wl_at z L c i L[i] (List.getElem?_eq_getElem hl)
  rw [h] at h2
  exact ⟨L[i], List.getElem?_eq_getElem hl, Option.some.inj h2⟩
theorem on_wl_app (z : Nat) : ∀ (L M : List va_E) (c : Nat), on_wl z c (L ++ M) = on_wl z c L ++ on_wl z (c + L.length) M := by
  intro L
  induction L with
  | nil => intro M c; rfl
  | cons a L ih =>
    intro M c
    show (z + c, a) :: on_wl z (c + 1) (L ++ M) = (z + c, a) :: (on_wl z (c + 1) L ++ on_wl z (c + (L.length + 1)) M)
    rw [ih, show c + 1 + L.length = c + (L.length + 1) by omega]
theorem on_wl_set (z : Nat) (e : va_E) : ∀ (L : List va_E) (c i : Nat), (on_wl z c L).set i (z + (c + i), e) = on_wl z c (L.set i e) := by
  intro L
  induction L with
  | nil => intro c i; rfl
  | cons a L ih =>
    intro c i
    cases i with
    | zero => rfl
    | succ i =>
      show (z + c, a) :: (on_wl z (c + 1) L).set i (z + (c + (i + 1)), e) = (z + c, a) :: on_wl z (c + 1) (L.set i e)
      rw [show c + (i + 1) = c + 1 + i by omega, ih]
theorem on_wl_D (z c : Nat) (L : List va_E) : va_D (fun q => z + c ≤ q) (on_wl z c L) := by
  refine ⟨fun i j p q hi hj h => ?_, fun k q hk => ?_⟩
  · obtain ⟨e, -, rfl⟩ := on_wl_inv hi
    obtain ⟨e', -, rfl⟩ := on_wl_inv hj
    simp only at h
    omega
  · obtain ⟨e, -, rfl⟩ := on_wl_inv hk
    show z + c ≤ z + (c + k)
    omega
def on_Rj (E : on_E) (z o : Nat) (L : List va_E) (H : Heap) : Prop := H.size = z + (o + L.length) ∧ va_P E.2.1 vwCl (on_wl z o L) H
/-- one more cell -/
theorem on_Rj.grow {E : on_E} {z o : Nat} {L : List va_E} {H H1 : Heap} (h : on_Rj E z o L H) {x : va_E} (z1 : H1.size = H.size + 1) (o1 : ∀ q : Nat, q < H.size → H1[q]? = H[q]?) (hx : va_at E.2.1 vwCl (H.size, x) H1) : on_Rj E z o (L ++ [x]) H1 := by
  refine ⟨by rw [z1, h.1, List.length_append]; exact (Nat.add_assoc _ _ _).trans (by rw [Nat.add_assoc]; rfl), ?_⟩
  rw [on_wl_app]
  refine (va_P.kept h.2 (fun k x hx => o1 x.1 ((h.2 k x hx).lt))).app (fun k q hq => ?_)
  obtain ⟨e, h1, rfl⟩ := on_wl_inv hq
  have hk : k < 1 := (List.getElem?_eq_some_iff.mp h1).1
  have hk0 : k = 0 := by omega
  subst hk0
  simp only [List.getElem?_cons_zero, Option.some.injEq] at h1
  subst h1
  rw [show z + (o + L.length + 0) = H.size by rw [h.1]; rfl]
  exact hx
/-- what a constructor leaves -/
def on_Qn (E : on_E) (z o : Nat) (Lf : List va_E) : Array Value → State → Outcome → State → Prop := fun _ st oc t => oc = .returned none ∧ on_Rj E z o Lf t.heap ∧ va_F (fun q => z + o ≤ q) st t
/-- a constructor's contract -/
def on_Cn (E : on_E) (y : MethodName) (cy : ByteArray) (ny fr lo mc ms z o : Nat) (av : List Value) (e0 : va_E) (Lf : List va_E) : Prop := Met E.1 y (.code y cy ny none :: on_T) { frames := fr, cells := mc, slots := ms, locals := lo } (va_Pc (.ref (z + o) :: av) (fun U => on_Rj E z o [e0] U.heap ∧ va_K E.2.1 vwCl (on_tys E) U ∧ on_Ex E z U)) (on_Qn E z o Lf) mc ms (fun q => z + o ≤ q)
abbrev on_Y : Type := Program × Env × Room × State × MethodId × Array Value × List Frame × Method × Code
def on_cy (Y : on_Y) (E : on_E) (cc : ByteArray) (own : String) (fr lo nL mc ms z o : Nat) : Prop := match Y with
  | (p, _, R, s, m, args, _, meth, c) => p.tables.exec = Jvm.exec ∧ c.code = cc ∧ c.maxLocals = nL ∧ s.vm.findClass own = some m.cls ∧ (∀ w ∈ on_T, w.before args s = true) ∧ va_K E.2.1 vwCl (on_tys E) s ∧ on_Ex E z s ∧ meth.locks = false ∧ meth.sig.returnType = none ∧ R = { frames := fr, cells := mc, slots := ms, locals := lo } ∧ s.heap.size = z + (o + 1) ∧ meth.name = "<init>"
def on_J (Y : on_Y) (E : on_E) (cc : ByteArray) (own : String) (fr lo nL mc ms z o : Nat) (Lf : List va_E) (ks : Nat) (e0 : va_E) (L : List va_E) (pc : Nat) (lv : List (Option Value)) (st : List Value) : Prop := match Y with
  | (p, e, R, s, m, args, below, meth, c) => on_cy (p, e, R, s, m, args, below, meth, c) E cc own fr lo nL mc ms z o → ∀ (H : Heap) (locs : List Loc) (ls : Array Slot), on_Rj E z o (e0 :: L) H → va_S (fun q => z + o ≤ q) s.heap H locs → on_L ls nL lv → W p E.1 e R s m args below meth c H locs L.length ks (MQ below (on_Qn E z o Lf) args s mc ms (fun q => z + o ≤ q)) (F0 m pc ls st)
section ONJ
variable {Y : on_Y} {E : on_E} {cc : ByteArray} {own : String} {fr lo nL mc ms z o ks : Nat} {Lf : List va_E} {e0 : va_E} {L : List va_E} {pc pc2 tgt : Nat} {lv : List (Option Value)} {st rest : List Value} {a b : Int}
theorem oj_iconst  (hd : on_dq cc pc 1 pc2 (.iconst a)) (k : on_J Y E cc own fr lo nL mc ms z o Lf ks e0 L pc2 lv (.int (on_i a) :: rest)) : on_J Y E cc own fr lo nL mc ms z o Lf ks e0 L pc lv rest := by
  obtain ⟨p, e, R, s, m, args, below, meth, c⟩ := Y
  intro hC H locs ls hP hS hl
  obtain ⟨cx, cb, cm, co, ct, cK, cE, ck, cr, cR, cz, cn⟩ := id hC
  obtain ⟨hd, rfl⟩ := hd
  exact lv_iconst cx cb hd rfl (k hC H locs ls hP hS hl)
theorem oj_bipush  (hd : on_dq cc pc 2 pc2 (.bipush a)) (hv : (Int8.ofInt a).toInt32 = on_i a) (k : on_J Y E cc own fr lo nL mc ms z o Lf ks e0 L pc2 lv (.int (on_i a) :: rest)) : on_J Y E cc own fr lo nL mc ms z o Lf ks e0 L pc lv rest := by
  obtain ⟨p, e, R, s, m, args, below, meth, c⟩ := Y
  intro hC H locs ls hP hS hl
  obtain ⟨cx, cb, cm, co, ct, cK, cE, ck, cr, cR, cz, cn⟩ := id hC
  obtain ⟨hd, rfl⟩ := hd
  exact lv_bipush cx cb hd hv (k hC H locs ls hP hS hl)
theorem oj_sipush  (hd : on_dq cc pc 3 pc2 (.sipush a)) (hv : (Int16.ofInt a).toInt32 = on_i a) (k : on_J Y E cc own fr lo nL mc ms z o Lf ks e0 L pc2 lv (.int (on_i a) :: rest)) : on_J Y E cc own fr lo nL mc ms z o Lf ks e0 L pc lv rest := by
  obtain ⟨p, e, R, s, m, args, below, meth, c⟩ := Y
  intro hC H locs ls hP hS hl
  obtain ⟨cx, cb, cm, co, ct, cK, cE, ck, cr, cR, cz, cn⟩ := id hC
  obtain ⟨hd, rfl⟩ := hd
  exact lv_sipush cx cb hd hv (k hC H locs ls hP hS hl)
theorem oj_iloadn (i : Nat) {f : Fin 4} {v : Int32} (hk : lv[i]? = some (some (.int v))) (hf : (f : Nat) = i) (hd : on_dq cc pc 1 pc2 (.iload_n f)) (k : on_J Y E cc own fr lo nL mc ms z o Lf ks e0 L pc2 lv (.int v :: rest)) : on_J Y E cc own fr lo nL mc ms z o Lf ks e0 L pc lv rest := by
  obtain ⟨p, e, R, s, m, args, below, meth, c⟩ := Y
  intro hC H locs ls hP hS hl
  obtain ⟨cx, cb, cm, co, ct, cK, cE, ck, cr, cR, cz, cn⟩ := id hC
  obtain ⟨hd, rfl⟩ := hd
  exact lv_iload_n cx cb hd hf (on_L_get hl i hk) (k hC H locs ls hP hS hl)
theorem oj_iload (i : Nat) {v : Int32} (hk : lv[i]? = some (some (.int v))) (hd : on_dq cc pc 2 pc2 (.iload i)) (k : on_J Y E cc own fr lo nL mc ms z o Lf ks e0 L pc2 lv (.int v :: rest)) : on_J Y E cc own fr lo nL mc ms z o Lf ks e0 L pc lv rest := by
  obtain ⟨p, e, R, s, m, args, below, meth, c⟩ := Y
  intro hC H locs ls hP hS hl
  obtain ⟨cx, cb, cm, co, ct, cK, cE, ck, cr, cR, cz, cn⟩ := id hC
  obtain ⟨hd, rfl⟩ := hd
  exact lv_iload cx cb hd (on_L_get hl i hk) (k hC H locs ls hP hS hl)
theorem oj_istoren (i : Nat) {f : Fin 4} {v : Int32} (hf : (f : Nat) = i) (hi : i < nL) (ho : ∀ j, j + 1 = i → ∀ w, lv[j]? = some (some w) → w.category = 1) (hd : on_dq cc pc 1 pc2 (.istore_n f)) (k : on_J Y E cc own fr lo nL mc ms z o Lf ks e0 L pc2 (lv.set i (some (.int v))) rest) : on_J Y E cc own fr lo nL mc ms z o Lf ks e0 L pc lv (.int v :: rest) := by
  obtain ⟨p, e, R, s, m, args, below, meth, c⟩ := Y
  intro hC H locs ls hP hS hl
  obtain ⟨cx, cb, cm, co, ct, cK, cE, ck, cr, cR, cz, cn⟩ := id hC
  obtain ⟨hd, rfl⟩ := hd
  exact lv_istore_n cx cb hd hf (on_L_has hl) hi rfl (fun ls2 h2 => k hC H locs ls2 hP hS (on_L_st1 hl hi ho h2))
theorem oj_istore (i : Nat) {v : Int32} (hi : i < nL) (ho : ∀ j, j + 1 = i → ∀ w, lv[j]? = some (some w) → w.category = 1) (hd : on_dq cc pc 2 pc2 (.istore i)) (k : on_J Y E cc own fr lo nL mc ms z o Lf ks e0 L pc2 (lv.set i (some (.int v))) rest) : on_J Y E cc own fr lo nL mc ms z o Lf ks e0 L pc lv (.int v :: rest) := by
  obtain ⟨p, e, R, s, m, args, below, meth, c⟩ := Y
  intro hC H locs ls hP hS hl
  obtain ⟨cx, cb, cm, co, ct, cK, cE, ck, cr, cR, cz, cn⟩ := id hC
  obtain ⟨hd, rfl⟩ := hd
  exact lv_istore cx cb hd (on_L_has hl) hi rfl (fun ls2 h2 => k hC H locs ls2 hP hS (on_L_st1 hl hi ho h2))
theorem oj_aloadn (i : Nat) {f : Fin 4} {v : Nat} (hk : lv[i]? = some (some (.ref v))) (hf : (f : Nat) = i) (hd : on_dq cc pc 1 pc2 (.aload_n f)) (k : on_J Y E cc own fr lo nL mc ms z o Lf ks e0 L pc2 lv (.ref v :: rest)) : on_J Y E cc own fr lo nL mc ms z o Lf ks e0 L pc lv rest := by
  obtain ⟨p, e, R, s, m, args, below, meth, c⟩ := Y
  intro hC H locs ls hP hS hl
  obtain ⟨cx, cb, cm, co, ct, cK, cE, ck, cr, cR, cz, cn⟩ := id hC
  obtain ⟨hd, rfl⟩ := hd
  exact lv_aload_n cx cb hd hf (on_L_get hl i hk) (k hC H locs ls hP hS hl)
theorem oj_aload (i : Nat) {v : Nat} (hk : lv[i]? = some (some (.ref v))) (hd : on_dq cc pc 2 pc2 (.aload i)) (k : on_J Y E cc own fr lo nL mc ms z o Lf ks e0 L pc2 lv (.ref v :: rest)) : on_J Y E cc own fr lo nL mc ms z o Lf ks e0 L pc lv rest := by
  obtain ⟨p, e, R, s, m, args, below, meth, c⟩ := Y
  intro hC H locs ls hP hS hl
  obtain ⟨cx, cb, cm, co, ct, cK, cE, ck, cr, cR, cz, cn⟩ := id hC
  obtain ⟨hd, rfl⟩ := hd
  exact lv_aload cx cb hd (on_L_get hl i hk) (k hC H locs ls hP hS hl)
theorem oj_iincg (i : Nat) {q : Int} (hk : lv[i]? = some (some (.int (on_i a)))) (hi : i < nL) (ho : ∀ j, j + 1 = i → ∀ w, lv[j]? = some (some w) → w.category = 1) (hd : on_dq cc pc 3 pc2 (.iinc i q)) (k : on_J Y E cc own fr lo nL mc ms z o Lf ks e0 L pc2 (lv.set i (some (.int (on_i (a + q))))) rest) : on_J Y E cc own fr lo nL mc ms z o Lf ks e0 L pc lv rest := by
  obtain ⟨p, e, R, s, m, args, below, meth, c⟩ := Y
  intro hC H locs ls hP hS hl
  obtain ⟨cx, cb, cm, co, ct, cK, cE, ck, cr, cR, cz, cn⟩ := id hC
  obtain ⟨hd, rfl⟩ := hd
  obtain ⟨kk, hkk⟩ := List.getElem?_of_mem (on_pl_mem.mpr hk)
  exact lv_iinc cx cb hd (on_L_has hl) hkk (on_i_add a q).symm hi rfl (fun ls2 h2 => k hC H locs ls2 hP hS (on_L_st1 hl hi ho h2))
theorem oj_iadd  (hd : on_dq cc pc 1 pc2 .iadd) (k : on_J Y E cc own fr lo nL mc ms z o Lf ks e0 L pc2 lv (.int (on_i (a + b)) :: rest)) : on_J Y E cc own fr lo nL mc ms z o Lf ks e0 L pc lv (.int (on_i b) :: .int (on_i a) :: rest) := by
  obtain ⟨p, e, R, s, m, args, below, meth, c⟩ := Y
  intro hC H locs ls hP hS hl
  obtain ⟨cx, cb, cm, co, ct, cK, cE, ck, cr, cR, cz, cn⟩ := id hC
  obtain ⟨hd, rfl⟩ := hd
  refine lv_iadd cx cb hd ?_
  rw [← on_i_add]
  exact k hC H locs ls hP hS hl
theorem oj_ior  (hd : on_dq cc pc 1 pc2 .ior) (k : on_J Y E cc own fr lo nL mc ms z o Lf ks e0 L pc2 lv (.int (on_i (on_or a b)) :: rest)) : on_J Y E cc own fr lo nL mc ms z o Lf ks e0 L pc lv (.int (on_i b) :: .int (on_i a) :: rest) := by
  obtain ⟨p, e, R, s, m, args, below, meth, c⟩ := Y
  intro hC H locs ls hP hS hl
  obtain ⟨cx, cb, cm, co, ct, cK, cE, ck, cr, cR, cz, cn⟩ := id hC
  obtain ⟨hd, rfl⟩ := hd
  refine lv_ior cx cb hd ?_
  have k := k hC H locs ls hP hS hl
  rw [on_or, on_ti] at k
  exact k
theorem oj_ishl  (hd : on_dq cc pc 1 pc2 .ishl) (k : on_J Y E cc own fr lo nL mc ms z o Lf ks e0 L pc2 lv (.int (on_i (on_shl a b)) :: rest)) : on_J Y E cc own fr lo nL mc ms z o Lf ks e0 L pc lv (.int (on_i b) :: .int (on_i a) :: rest) := by
  obtain ⟨p, e, R, s, m, args, below, meth, c⟩ := Y
  intro hC H locs ls hP hS hl
  obtain ⟨cx, cb, cm, co, ct, cK, cE, ck, cr, cR, cz, cn⟩ := id hC
  obtain ⟨hd, rfl⟩ := hd
  refine lv_ishl cx cb hd ?_
  have k := k hC H locs ls hP hS hl
  rw [on_shl, on_ti] at k
  exact k
theorem oj_dup {v : Value} (hv : v.category = 1) (hd : on_dq cc pc 1 pc2 .dup) (k : on_J Y E cc own fr lo nL mc ms z o Lf ks e0 L pc2 lv (v :: v :: rest)) : on_J Y E cc own fr lo nL mc ms z o Lf ks e0 L pc lv (v :: rest) := by
  obtain ⟨p, e, R, s, m, args, below, meth, c⟩ := Y
  intro hC H locs ls hP hS hl
  obtain ⟨cx, cb, cm, co, ct, cK, cE, ck, cr, cR, cz, cn⟩ := id hC
  obtain ⟨hd, rfl⟩ := hd
  exact lv_dup cx cb hd hv (k hC H locs ls hP hS hl)
theorem oj_goto {off : Int} (hd : on_dq cc pc 3 pc2 (.goto off)) (ht : (pc : Int) + off = (tgt : Int)) (k : on_J Y E cc own fr lo nL mc ms z o Lf ks e0 L tgt lv rest) : on_J Y E cc own fr lo nL mc ms z o Lf ks e0 L pc lv rest := by
  obtain ⟨p, e, R, s, m, args, below, meth, c⟩ := Y
  intro hC H locs ls hP hS hl
  obtain ⟨cx, cb, cm, co, ct, cK, cE, ck, cr, cR, cz, cn⟩ := id hC
  obtain ⟨hd, rfl⟩ := hd
  exact lv_goto cx cb hd ht (k hC H locs ls hP hS hl)
theorem oj_icge {off : Int} (hd : on_dq cc pc 3 pc2 (.if_icmp .ge off)) (ht : (pc : Int) + off = (tgt : Int)) (ha : on_R a) (hb : on_R b) (kf : a < b → on_J Y E cc own fr lo nL mc ms z o Lf ks e0 L pc2 lv rest) (kt : b ≤ a → on_J Y E cc own fr lo nL mc ms z o Lf ks e0 L tgt lv rest) : on_J Y E cc own fr lo nL mc ms z o Lf ks e0 L pc lv (.int (on_i b) :: .int (on_i a) :: rest) := by
  obtain ⟨p, e, R, s, m, args, below, meth, c⟩ := Y
  intro hC H locs ls hP hS hl
  obtain ⟨cx, cb, cm, co, ct, cK, cE, ck, cr, cR, cz, cn⟩ := id hC
  obtain ⟨hd, rfl⟩ := hd
  refine lv_icmp_ge cx cb hd ht (fun h => kt ((on_i_le hb ha).mp h) hC H locs ls hP hS hl) (fun h => kf ?_ hC H locs ls hP hS hl)
  have := mt (on_i_le hb ha).mpr h
  omega
theorem oj_iceq {off : Int} (hd : on_dq cc pc 3 pc2 (.if_icmp .eq off)) (ht : (pc : Int) + off = (tgt : Int)) (ha : on_R a) (hb : on_R b) (kf : a ≠ b → on_J Y E cc own fr lo nL mc ms z o Lf ks e0 L pc2 lv rest) (kt : a = b → on_J Y E cc own fr lo nL mc ms z o Lf ks e0 L tgt lv rest) : on_J Y E cc own fr lo nL mc ms z o Lf ks e0 L pc lv (.int (on_i b) :: .int (on_i a) :: rest) := by
  obtain ⟨p, e, R, s, m, args, below, meth, c⟩ := Y
  intro hC H locs ls hP hS hl
  obtain ⟨cx, cb, cm, co, ct, cK, cE, ck, cr, cR, cz, cn⟩ := id hC
  obtain ⟨hd, rfl⟩ := hd
  exact lv_icmp_eq cx cb hd ht (fun h => kt ((on_i_eq ha hb).mp h) hC H locs ls hP hS hl) (fun h => kf (mt (on_i_eq ha hb).mpr h) hC H locs ls hP hS hl)
theorem oj_ret (hL : Lf = e0 :: L) (hd : on_dq cc pc 1 pc2 .return_) (hm : L.length ≤ mc) (hq : ks ≤ ms) : on_J Y E cc own fr lo nL mc ms z o Lf ks e0 L pc lv [] := by
  obtain ⟨p, e, R, s, m, args, below, meth, c⟩ := Y
  intro hC H locs ls hP hS hl
  obtain ⟨cx, cb, cm, co, ct, cK, cE, ck, cr, cR, cz, cn⟩ := id hC
  obtain ⟨hd, rfl⟩ := hd
  subst hL
  exact W.widen hm hq (W.vret cx cb cr (fun t ht hW => ⟨rfl, by rw [ht]; exact hP, hS.F ht⟩) hS.2.2 hd ck)
theorem oj_obj {idx : Nat} {a : Nat} (hlink : Cond.methodLink own idx Lib.objectInit ∈ on_T) (hinst : Cond.instanceMethod Lib.objectInit ∈ on_T) (hcode : Cond.code Lib.objectInit ⟨#[0xb1]⟩ 1 none ∈ on_T) (hf : 1 ≤ fr) (hlo : 12 ≤ lo) (hd : on_dq cc pc 3 pc2 (.invokespecial idx)) (k : on_J Y E cc own fr lo nL mc ms z o Lf ks e0 L pc2 lv []) : on_J Y E cc own fr lo nL mc ms z o Lf ks e0 L pc lv [.ref a] := by
  obtain ⟨p, e, R, s, m, args, below, meth, c⟩ := Y
  intro hC H locs ls hP hS hl
  obtain ⟨cx, cb, cm, co, ct, cK, cE, ck, cr, cR, cz, cn⟩ := id hC
  obtain ⟨hd, rfl⟩ := hd
  refine W.objInit cx cb co (ct _ hlink) (ct _ hinst) (ct _ hcode) rfl (by rw [cm]; exact hl.1) rfl hd (by rw [cR]; exact hf) (by rw [cR]; exact hlo) ?_
  exact W.eq (g2 := F0 m (pc + 3) ls []) rfl (k hC H locs ls hP hS hl)
/-- the heap is as large as what was made says -/
theorem oj_size {p : Program} {l : Launch} {e : Env} {R : Room} {s : State} {m : MethodId} {args : Array Value} {below : List Frame} {meth : Method} {c : Code} {H : Heap} {locs : List Loc} {cl sl k : Nat} {Q : State → Prop} {g : JFrame} (hk : s.heap.size = k) (hlow : k + cl ≤ H.size) (h : H.size = k + cl → W p l e R s m args below meth c H locs cl sl Q g) : W p l e R s m args below meth c H locs cl sl Q g := by
  intro T hT X
  have h2 : T.heap.size ≤ s.heap.size + cl := X.same.2.2.1
  refine h ?_ T hT X
  rw [hT, hk] at h2
  omega
theorem oj_newa (at' : ArrayType) {ty : FieldType} {j N : Nat} {a0 : vp_A} (hty : newarray.typeOf at' = ty) (hj : (on_tys E)[j]? = some (on_ca E j, ty)) (hpr : ∀ (U : State) (cA : ClassId), va_RA U cA ty → U.vm.findClass ("[" ++ ty.toString) = some cA) (ha : ∀ cA : ClassId, vp_cell cA a0 = arrV cA N (fun _ => defaultValue ty)) (harr : Cond.arrayClass ty ∈ on_T) (hN : N < 30000) (hby : N * componentBytes ty ≤ 536870912) (hc : L.length + 1 ≤ mc) (hs : ks + N ≤ ms) (hd : on_dq cc pc 2 pc2 (.newarray at')) (k : on_J Y E cc own fr lo nL mc ms z o Lf (ks + N) e0 (L ++ [.inl (on_ca E j, a0)]) pc2 lv (.ref (z + (o + (L.length + 1))) :: rest)) : on_J Y E cc own fr lo nL mc ms z o Lf ks e0 L pc lv (.int (on_i (N : Int)) :: rest) := by
  obtain ⟨p, e, R, s, m, args, below, meth, c⟩ := Y
  intro hC H locs ls hP hS hl
  obtain ⟨cx, cb, cm, co, ct, cK, cE, ck, cr, cR, cz, cn⟩ := id hC
  obtain ⟨hd, rfl⟩ := hd
  subst hty
  have hn0 : ¬ on_i (N : Int) < 0 := by
    rw [show (0 : Int32) = on_i 0 from rfl, on_i_lt (by omega) (by omega)]; omega
  have hnn : (on_i (N : Int)).toNatClampNeg = N := by have := on_i_nat (i := (N : Int)) (by omega) (by omega); omega
  refine va_newaK cx cb (ct _ harr) rfl hd rfl hn0 hnn hby (by rw [cR]; exact hc) (by rw [cR]; exact hs) rfl fun H1 cA e1 z1 o1 hAr hNm => ?_
  have ec : cA = on_ca E j := Option.some.inj (hNm.symm.trans (hpr s _ (cK.2 j _ hj).2))
  subst ec
  have hP1 : on_Rj E z o (e0 :: L ++ [.inl (on_ca E j, a0)]) H1 := hP.grow z1 o1 (by show H1[H.size]? = some (vp_cell _ _); rw [ha]; exact e1)
  have ez : H.size = z + (o + (L.length + 1)) := hP.1
  have K := k hC H1 locs ls hP1 ⟨Nat.le_trans hS.1 (by omega), fun x h1 h2 => (o1 x (Nat.lt_of_lt_of_le h1 hS.1)).trans (hS.2.1 x h1 h2), hS.2.2⟩ hl
  rw [List.length_append] at K
  rw [ez]
  exact K
theorem oj_newi {N : Nat} (hN : N < 30000) (hc : L.length + 1 ≤ mc) (hs : ks + N ≤ ms) (harr : Cond.arrayClass .int ∈ on_T) (hd : on_dq cc pc 2 pc2 (.newarray .int)) (k : on_J Y E cc own fr lo nL mc ms z o Lf (ks + N) e0 (L ++ [.inl (on_ca E 0, (N, .inl fun _ => 0))]) pc2 lv (.ref (z + (o + (L.length + 1))) :: rest)) : on_J Y E cc own fr lo nL mc ms z o Lf ks e0 L pc lv (.int (on_i (N : Int)) :: rest) := oj_newa .int (ty := .int) (j := 0) rfl rfl (fun _ _ h => h) (fun cA => vp_cell_i ..) harr hN (by show N * 4 ≤ _; omega) hc hs hd k
theorem oj_newb {N : Nat} (hN : N < 30000) (hc : L.length + 1 ≤ mc) (hs : ks + N ≤ ms) (harr : Cond.arrayClass .byte ∈ on_T) (hd : on_dq cc pc 2 pc2 (.newarray .byte)) (k : on_J Y E cc own fr lo nL mc ms z o Lf (ks + N) e0 (L ++ [.inl (on_ca E 1, (N, .inl fun _ => 0))]) pc2 lv (.ref (z + (o + (L.length + 1))) :: rest)) : on_J Y E cc own fr lo nL mc ms z o Lf ks e0 L pc lv (.int (on_i (N : Int)) :: rest) := oj_newa .byte (ty := .byte) (j := 1) rfl rfl (fun _ _ h => h) (fun cA => vp_cell_i ..) harr hN (by show N * 1 ≤ _; omega) hc hs hd k
theorem oj_newl {N : Nat} (hN : N < 30000) (hc : L.length + 1 ≤ mc) (hs : ks + N ≤ ms) (harr : Cond.arrayClass .long ∈ on_T) (hd : on_dq cc pc 2 pc2 (.newarray .long)) (k : on_J Y E cc own fr lo nL mc ms z o Lf (ks + N) e0 (L ++ [.inl (on_ca E 2, (N, .inr (.inl fun _ => 0)))]) pc2 lv (.ref (z + (o + (L.length + 1))) :: rest)) : on_J Y E cc own fr lo nL mc ms z o Lf ks e0 L pc lv (.int (on_i (N : Int)) :: rest) := oj_newa .long (ty := .long) (j := 2) rfl rfl (fun _ _ h => h) (fun cA => vp_cell_l ..) harr hN (by show N * 8 ≤ _; omega) hc hs hd k
theorem oj_newz {N : Nat} (hN : N < 30000) (hc : L.length + 1 ≤ mc) (hs : ks + N ≤ ms) (harr : Cond.arrayClass .boolean ∈ on_T) (hd : on_dq cc pc 2 pc2 (.newarray .boolean)) (k : on_J Y E cc own fr lo nL mc ms z o Lf (ks + N) e0 (L ++ [.inl (on_ca E 3, (N, .inl fun _ => 0))]) pc2 lv (.ref (z + (o + (L.length + 1))) :: rest)) : on_J Y E cc own fr lo nL mc ms z o Lf ks e0 L pc lv (.int (on_i (N : Int)) :: rest) := oj_newa .boolean (ty := .boolean) (j := 3) rfl rfl (fun _ _ h => h) (fun cA => vp_cell_i ..) harr hN (by show N * 1 ≤ _; omega) hc hs hd k
theorem oj_new (ci : Nat) {C : String} {T : u_T} {n idx : Nat} {fs : List Value} (hq : vwCl[ci]? = some (C, T, n)) (hin : ∀ w ∈ u_ws C T n, w ∈ on_T) (ty : Nat → FieldType) (hty : ∀ k, k < n → parseFieldDescriptor (T k).2.2.1 = some (ty k)) (hcl : Cond.classLink own idx C ∈ on_T) (hinst : Cond.instantiable C n ∈ on_T) (hini : Cond.initialized C ∈ on_T) (hfs : ∀ j, j < n → defaultValue (ty j) = vp_V fs j) (hc : L.length + 1 ≤ mc) (hs : ks + n ≤ ms) (hd : on_dq cc pc 3 pc2 (.new idx)) (k : on_J Y E cc own fr lo nL mc ms z o Lf (ks + n) e0 (L ++ [.inr (ci, fs)]) pc2 lv (.ref (z + (o + (L.length + 1))) :: rest)) : on_J Y E cc own fr lo nL mc ms z o Lf ks e0 L pc lv rest := by
  obtain ⟨p, e, R, s, m, args, below, meth, c⟩ := Y
  intro hC H locs ls hP hS hl
  obtain ⟨cx, cb, cm, co, ct, cK, cE, ck, cr, cR, cz, cn⟩ := id hC
  obtain ⟨hd, rfl⟩ := hd
  have hKn := cK.1 ci _ hq
  refine W.newcK cx cb co (ct _ hcl) (ct _ hinst) (ct _ hini) rfl hd (by rw [cR]; exact hc) (by rw [cR]; exact hs) hKn.2.1 rfl fun H1 kC hkC e1 z1 o1 => ?_
  have hP1 : on_Rj E z o (e0 :: L ++ [.inr (ci, fs)]) H1 := hP.grow z1 o1 ⟨_, hq, (u_born ty ct hin hKn hkC e1 hty).to hfs⟩
  have ez : H.size = z + (o + (L.length + 1)) := hP.1
  have K := k hC H1 locs ls hP1 ⟨Nat.le_trans hS.1 (by omega), fun x h1 h2 => (o1 x (Nat.lt_of_lt_of_le h1 hS.1)).trans (hS.2.1 x h1 h2), hS.2.2⟩ hl
  rw [List.length_append] at K
  rw [ez]
  exact K
theorem oj_put (ci k : Nat) {T : u_T} {N idx : Nat} {fs : List Value} {v : Value} {ty : FieldType} (hin : ∀ w ∈ u_ws own T N, w ∈ on_T) (ty0 : Nat → FieldType) (hty : ∀ k, k < N → parseFieldDescriptor (T k).2.2.1 = some (ty0 k)) (hnm : ∀ a, a < N → ∀ b, b < N → a ≠ b → (T a).2.1 ≠ (T b).2.1) (hq : vwCl[ci]? = some (own, T, N)) (hk : k < N) (hfin : (T k).2.2.2 = false) (hown : (T k).1 = own) (hw : Cond.fieldLink own idx own (T k).2.1 (T k).2.2.1 ∈ on_T) (hdd : parseFieldDescriptor (T k).2.2.1 = some ty) (hn : narrow ty v = v) (hfit : fits ty v = true) (hl : k < fs.length) (hd : on_dq cc pc 3 pc2 (.putfield idx)) (kk : on_J Y E cc own fr lo nL mc ms z o Lf ks (.inr (ci, fs.set k v)) L pc2 lv rest) : on_J Y E cc own fr lo nL mc ms z o Lf ks (.inr (ci, fs)) L pc lv (v :: .ref (z + o) :: rest) := by
  obtain ⟨p, e, R, s, m, args, below, meth, c⟩ := Y
  intro hC H locs ls hP hS hl'
  obtain ⟨cx, cb, cm, co, ct, cK, cE, ck, cr, cR, cz, cn⟩ := id hC
  obtain ⟨hd, rfl⟩ := hd
  refine va_put (ref := own) (ty := ty) cx cb ct hin ty0 hty hnm co cK hP.2 (on_wl_D z o _) hS 0 (on_wl_at z _ o 0 _ rfl) hq k hk (ct _ hw) (fun x h => by rw [hown] at h; exact h) hfin hdd hn hfit hl hd (fun H1 locs1 g1 _ g3 => ?_)
  rw [on_wl_set] at g1
  have g1 : va_P E.2.1 vwCl (on_wl z o (.inr (ci, fs.set k v) :: L)) H1 := g1
  refine oj_size cz ?_ (fun hz => kk hC H1 locs1 ls ⟨by rw [hz]; show z + (o + 1) + L.length = z + (o + (L.length + 1)); omega, g1⟩ g3 hl')
  obtain ⟨x, hx⟩ : ∃ x, (on_wl z o (.inr (ci, fs.set k v) :: L))[L.length]? = some x := ⟨_, List.getElem?_eq_getElem (by rw [on_wl_len]; exact Nat.lt_succ_self _)⟩
  have h1 := (g1 L.length x hx).lt
  obtain ⟨e, -, rfl⟩ := on_wl_inv hx
  simp only at h1
  omega
theorem oj_putF (ci k : Nat) {T : u_T} {N idx : Nat} {fs : List Value} {v : Value} {ty : FieldType} (hin : ∀ w ∈ u_ws own T N, w ∈ on_T) (ty0 : Nat → FieldType) (hty : ∀ k, k < N → parseFieldDescriptor (T k).2.2.1 = some (ty0 k)) (hnm : ∀ a, a < N → ∀ b, b < N → a ≠ b → (T a).2.1 ≠ (T b).2.1) (hq : vwCl[ci]? = some (own, T, N)) (hk : k < N) (hfin : (T k).2.2.2 = true) (hown : (T k).1 = own) (hw : Cond.fieldLink own idx own (T k).2.1 (T k).2.2.1 ∈ on_T) (hdd : parseFieldDescriptor (T k).2.2.1 = some ty) (hn : narrow ty v = v) (hfit : fits ty v = true) (hl : k < fs.length) (hd : on_dq cc pc 3 pc2 (.putfield idx)) (kk : on_J Y E cc own fr lo nL mc ms z o Lf ks (.inr (ci, fs.set k v)) L pc2 lv rest) : on_J Y E cc own fr lo nL mc ms z o Lf ks (.inr (ci, fs)) L pc lv (v :: .ref (z + o) :: rest) := by
  obtain ⟨p, e, R, s, m, args, below, meth, c⟩ := Y
  intro hC H locs ls hP hS hl'
  obtain ⟨cx, cb, cm, co, ct, cK, cE, ck, cr, cR, cz, cn⟩ := id hC
  obtain ⟨hd, rfl⟩ := hd
  refine va_putF (ref := own) (ty := ty) cx cb ct hin ty0 hty hnm co cK hP.2 (on_wl_D z o _) hS 0 (on_wl_at z _ o 0 _ rfl) hq k hk (ct _ hw) (fun x h => by rw [hown] at h; exact h) hfin cn hown hdd hn hfit hl hd (fun H1 locs1 g1 _ g3 => ?_)
  rw [on_wl_set] at g1
  have g1 : va_P E.2.1 vwCl (on_wl z o (.inr (ci, fs.set k v) :: L)) H1 := g1
  refine oj_size cz ?_ (fun hz => kk hC H1 locs1 ls ⟨by rw [hz]; show z + (o + 1) + L.length = z + (o + (L.length + 1)); omega, g1⟩ g3 hl')
  obtain ⟨x, hx⟩ : ∃ x, (on_wl z o (.inr (ci, fs.set k v) :: L))[L.length]? = some x := ⟨_, List.getElem?_eq_getElem (by rw [on_wl_len]; exact Nat.lt_succ_self _)⟩
  have h1 := (g1 L.length x hx).lt
  obtain ⟨e, -, rfl⟩ := on_wl_inv hx
  simp only at h1
  omega
end ONJ
/-- a constructor, walked -/
theorem on_ctor {E : on_E} {y : MethodName} {cy : ByteArray} {ny fr lo mc ms z o : Nat} {av : List Value} {e0 : va_E} {Lf : List va_E} (lv : List (Option Value)) (hpl : plainName y.cls = true) (hnm : y.name = "<init>") (hlv : lv = on_ent (.ref (z + o) :: av) ++ List.replicate (ny - (on_ent (.ref (z + o) :: av)).length) none) (hle : lv.length = ny) (hh : ∀ Y, on_J Y E cy y.cls fr lo ny mc ms z o Lf 0 e0 [] 0 lv []) : on_Cn E y cy ny fr lo mc ms z o av e0 Lf := by
  refine Met.ofW (cc := cy) (maxL := ny) (ret := none) hpl rfl ?_
  intro p e s m args below meth c s₁ B hml hv
  obtain ⟨rfl, hP, hK, hE⟩ := hv
  have hts := atoms_spec (ws := .code y cy ny none :: on_T) B.pre
  have hle2 : (lg_sl (.ref (z + o) :: av)).length ≤ ny := by
    rw [← on_ent_len, ← hle, hlv]
    simp
  have hl := lv_entry (.ref (z + o) :: av) (n := ny) hle2
  rw [lg_entry_eq]
  generalize (lg_sl (.ref (z + o) :: av) ++ List.replicate (ny - (lg_sl (.ref (z + o) :: av)).length) Slot.unset).toArray = ls at hl ⊢
  have hL : on_L ls ny lv := by
    refine ⟨hl.1, hl.2.1, hle, fun k v hk => ?_⟩
    rw [hlv] at hk
    have hk2 : (on_ent (.ref (z + o) :: av))[k]? = some (some v) := by
      rw [List.getElem?_append] at hk
      split at hk
      · exact hk
      · simp [List.getElem?_replicate] at hk
    have := on_ent_mem (.ref (z + o) :: av) 0 k v hk2
    have h9 := hl.2.2 (k, v) (by simpa using this)
    exact h9
  exact hh (p, e, { frames := fr, cells := mc, slots := ms, locals := lo }, s, m, (.ref (z + o) :: av).toArray, below, meth, c) ⟨B.exec, B.bytes, hml, findClass_of_methodNamed B.named, fun w hw => hts w (List.mem_cons_of_mem _ hw), hK, hE, B.notSynchronized, B.returns, rfl, hP.1, ((name_of_methodNamed B.named B.method).1).trans hnm⟩ s.heap [] ls hP va_S.rf hL
