/-! the judgement on_G: at this place of a method, with this pure world and this pure rest of the work, the machine comes to the method's end as the rest says -/
/-- strings and nest words: what isn't among on_T -/
def on_strs : List (String × Nat × String × Nat) := [("OppositeNets$Reader", 131, "street", 0), ("OppositeNets$Reader", 137, "houses", 1), ("OppositeNets$Reader", 144, "storeys", 2), ("OppositeNets$Reader", 88, "window", 3), ("OppositeNets$Reader", 93, "man", 4), ("OppositeNets$Reader", 166, "strength", 5), ("OppositeNets$Reader", 98, "net", 6), ("OppositeNets$Reader", 178, "at", 7), ("OppositeNets$Reader", 187, "knots", 8), ("OppositeNets$Reader", 191, "wears", 9), ("OppositeNets$Reader", 193, "wet", 10), ("OppositeNets$Reader", 103, "stands", 11), ("OppositeNets$Reader", 108, "quarrel", 12), ("OppositeNets$Reader", 113, "feud", 13), ("OppositeNets$Reader", 118, "jumper", 14), ("OppositeNets$Reader", 219, "weight", 15), ("OppositeNets$Reader", 123, "road", 16), ("OppositeNetsModel", 241, "street", 0), ("OppositeNetsModel", 243, "houses", 1), ("OppositeNetsModel", 245, "storeys", 2), ("OppositeNetsModel", 208, "window", 3), ("OppositeNetsModel", 210, "man", 4), ("OppositeNetsModel", 212, "net", 6), ("OppositeNetsModel", 214, "stands", 11), ("OppositeNetsModel", 216, "quarrel", 12), ("OppositeNetsModel", 218, "feud", 13), ("OppositeNetsModel", 220, "jumper", 14), ("OppositeNetsModel", 222, "road", 16), ("OppositeNetsModel", 224, "strength", 5), ("OppositeNetsModel", 184, "at", 7), ("OppositeNetsModel", 192, "knots", 8), ("OppositeNetsModel", 198, "wears", 9), ("OppositeNetsModel", 200, "wet", 10), ("OppositeNetsModel", 239, "weight", 15)]
def on_len : List Nat := [6, 6, 7, 6, 3, 8, 3, 2, 5, 5, 3, 6, 7, 4, 6, 6, 4]
def on_byt : List (List Int32) := [[115, 116, 114, 101, 101, 116], [104, 111, 117, 115, 101, 115], [115, 116, 111, 114, 101, 121, 115], [119, 105, 110, 100, 111, 119], [109, 97, 110], [115, 116, 114, 101, 110, 103, 116, 104], [110, 101, 116], [97, 116], [107, 110, 111, 116, 115], [119, 101, 97, 114, 115], [119, 101, 116], [115, 116, 97, 110, 100, 115], [113, 117, 97, 114, 114, 101, 108], [102, 101, 117, 100], [106, 117, 109, 112, 101, 114], [119, 101, 105, 103, 104, 116], [114, 111, 97, 100]]
def on_nest : List (String × Nat × MethodName) := [("OppositeNets", 15, ⟨"OppositeNets$Street", "<init>", "()V"⟩), ("OppositeNets$Street", 35, ⟨"OppositeNets$Men", "<init>", "()V"⟩), ("OppositeNets$Street", 42, ⟨"OppositeNets$Nets", "<init>", "()V"⟩), ("OppositeNets$Street", 49, ⟨"OppositeNets$Jumps", "<init>", "()V"⟩), ("OppositeNets", 81, ⟨"OppositeNets$Slot", "<init>", "()V"⟩), ("OppositeNets$Rings", 110, ⟨"OppositeNets", "factorial", "(I)I"⟩)]
def on_Ex (E : on_E) (z : Nat) (U : State) : Prop :=
  (∀ q ∈ on_strs, vk_R q.1 q.2.1 q.2.2.1 (E.2.2.2.1 q.2.2.2) U) ∧ vk_S 17 on_len on_byt E.2.2.2.1 E.2.2.2.2 (fun q => z ≤ q) U U.heap ∧ va_Z "java/lang/String" "COMPACT_STRINGS" "Z" (.int 1) (fun q => z ≤ q) U U.heap ∧ (∀ q ∈ on_nest, va_Nw (.methodLinkNest q.1 q.2.1 q.2.2 "OppositeNets") U) ∧ va_Zq "jdk/internal/util/Preconditions" "SIOOBE_FORMATTER" "Ljava/util/function/BiFunction;" (fun q => z ≤ q) U U.heap
theorem on_Ex.same {E : on_E} {z : Nat} {u U : State} (hv : U.vm = u.vm) (hh : U.heap = u.heap) (h : on_Ex E z u) : on_Ex E z U := by
  obtain ⟨h1, h2, h3, h4, h5⟩ := h
  have ha : u.vm.Alike U.vm := by rw [hv]; exact Vm.Alike.refl u.vm
  refine ⟨fun q hq => vk_R.same hv (h1 q hq), by rw [hh]; exact h2.moved ha, by rw [hh]; exact h3.moved ha, fun q hq => va_Nw.same rfl hv.symm (h4 q hq), by rw [hh]; exact h5.moved ha⟩
theorem on_Ex.warm {E : on_E} {z : Nat} {s U : State} (hW : s.WarmedH U.vm) (hh : ∀ q : Nat, q < s.heap.size → ¬ z ≤ q → U.heap[q]? = s.heap[q]?) (h : on_Ex E z s) : on_Ex E z U := by
  obtain ⟨h1, h2, h3, h4, h5⟩ := h
  exact ⟨fun q hq => vk_R.warm hW (h1 q hq), (h2.moved hW.alike).kept hh, (h3.moved hW.alike).kept hh, fun q hq => va_Nw.warmM hW (h4 q hq), (h5.moved hW.alike).kept hh⟩
/-- what a method finds at its entry -/
def on_U (E : on_E) (z n : Nat) (σ : on_S) (U : State) : Prop := on_Rep E z n σ U.heap ∧ va_K E.2.1 vwCl (on_tys E) U ∧ on_Ex E z U
def on_rv (rt : Option FieldType) (v : Int) : Option Value := match rt with
  | none => none
  | some .long => some (.long (on_l v))
  | some _ => some (.int (on_i v))
def on_Qc (E : on_E) (rt : Option FieldType) (z n : Nat) (out : on_O) : Array Value → State → Outcome → State → Prop := fun _ st oc t => oc = .returned (on_rv rt out.1) ∧ on_Rep E z n out.2 t.heap ∧ va_F (fun q => z ≤ q) st t
/-- a method's contract -/
def on_Sp (E : on_E) (y : MethodName) (cy : ByteArray) (ny : Nat) (rt : Option FieldType) (fr lo z n : Nat) (av : List Value) (σ : on_S) (r : Option on_O) : Prop :=
  ∀ out : on_O, r = some out → Met E.1 y (.code y cy ny rt :: on_T) { frames := fr, cells := 0, slots := 0, locals := lo } (va_Pc av (on_U E z n σ)) (on_Qc E rt z n out) 0 0 (fun q => z ≤ q)
/-- the locals, by their places -/
def on_L (ls : Array Slot) (nL : Nat) (lv : List (Option Value)) : Prop := ls.size = nL ∧ lv_wf ls ∧ lv.length = nL ∧ ∀ (k : Nat) (v : Value), lv[k]? = some (some v) → ls[k]? = some (.val v)
abbrev on_X : Type := Program × Env × Room × State × MethodId × Array Value × List Frame × Method × Code × on_O
def on_cx (X : on_X) (E : on_E) (cc : ByteArray) (own : String) (rt : Option FieldType) (fr lo nL z n : Nat) : Prop := match X with
  | (p, _, R, s, m, args, _, meth, c, _) => p.tables.exec = Jvm.exec ∧ c.code = cc ∧ c.maxLocals = nL ∧ s.vm.findClass own = some m.cls ∧ (∀ w ∈ on_T, w.before args s = true) ∧ va_K E.2.1 vwCl (on_tys E) s ∧ on_Ex E z s ∧ meth.locks = false ∧ meth.sig.returnType = rt ∧ R = { frames := fr, cells := 0, slots := 0, locals := lo } ∧ s.heap.size = z + n
def on_G (X : on_X) (E : on_E) (cc : ByteArray) (own : String) (rt : Option FieldType) (fr lo nL z n : Nat) (σ : on_S) (x : Option on_O) (pc : Nat) (lv : List (Option Value)) (st : List Value) : Prop := match X with
  | (p, e, R, s, m, args, below, meth, c, out) => on_cx X E cc own rt fr lo nL z n → x = some out → ∀ (H : Heap) (locs : List Loc) (ls : Array Slot), on_Rep E z n σ H → va_S (fun q => z ≤ q) s.heap H locs → on_L ls nL lv → W p E.1 e R s m args below meth c H locs 0 0 (MQ below (on_Qc E rt z n out) args s 0 0 (fun q => z ≤ q)) (F0 m pc ls st)
theorem on_T_good {w : Cond} (h : w ∈ on_T) : (w.onTables && w.keeps) = true ∨ ∃ ty, w = .arrayClass ty := good_of_word (List.mem_filter.mp h).2
theorem on_goodIn {w0 w1 : Cond} (h : w1 ∈ on_T) : GoodIn (w0 :: on_T) (w1 :: on_T) := by
  intro w hw
  rcases List.mem_cons.mp hw with rfl | hw
  · exact ⟨List.mem_cons_of_mem _ h, on_T_good h⟩
  · exact ⟨List.mem_cons_of_mem _ hw, on_T_good hw⟩
theorem on_goodT {w1 : Cond} (h : w1 ∈ on_T) : GoodIn on_T (w1 :: on_T) := by
  intro w hw
  rcases List.mem_cons.mp hw with rfl | hw
  · exact ⟨h, on_T_good h⟩
  · exact ⟨hw, on_T_good hw⟩
theorem on_L_get {ls : Array Slot} {nL : Nat} {lv : List (Option Value)} (h : on_L ls nL lv) (k : Nat) {v : Value} (hk : lv[k]? = some (some v)) : ls[k]? = some (.val v) := h.2.2.2 k v hk
/-- a store at k: the place below holds no two-word value -/
def on_one (a : Option Value) : Prop := ∀ v, a = some v → v.category = 1

def on_pl (lv : List (Option Value)) : List (Nat × Value) := (List.range lv.length).filterMap fun k => match lv[k]? with
  | some (some v) => some (k, v)
  | _ => none
theorem on_pl_mem {lv : List (Option Value)} {k : Nat} {v : Value} : (k, v) ∈ on_pl lv ↔ lv[k]? = some (some v) := by
  unfold on_pl
  rw [List.mem_filterMap]
  constructor
  · rintro ⟨j, -, hj⟩
    cases h : lv[j]? with
    | none => simp [h] at hj
    | some o =>
      cases o with
      | none => simp [h] at hj
      | some w =>
        simp only [h, Option.some.injEq, Prod.mk.injEq] at hj
        obtain ⟨rfl, rfl⟩ := hj
        exact h
  · intro h
    refine ⟨k, List.mem_range.mpr (List.getElem?_eq_some_iff.mp h).1, ?_⟩
    simp [h]
theorem on_L_has {ls : Array Slot} {nL : Nat} {lv : List (Option Value)} (h : on_L ls nL lv) : lv_has ls nL (on_pl lv) := ⟨h.1, h.2.1, fun q hq => h.2.2.2 q.1 q.2 (on_pl_mem.mp hq)⟩
theorem on_L_st1 {ls ls' : Array Slot} {nL i : Nat} {lv : List (Option Value)} {v : Value} (h : on_L ls nL lv) (hi : i < nL) (ho : ∀ j, j + 1 = i → ∀ w, lv[j]? = some (some w) → w.category = 1) (h' : lv_has ls' nL ((i, v) :: (on_pl lv).filter (fun q => !(q.1 == i) && !(q.1 + 1 == i && q.2.category == 2)))) : on_L ls' nL (lv.set i (some v)) := by
  obtain ⟨h1, h2, h3⟩ := h'
  refine ⟨h1, h2, by rw [List.length_set]; exact h.2.2.1, fun k w hk => ?_⟩
  rw [List.getElem?_set] at hk
  by_cases e : i = k
  · subst e
    have hl : i < lv.length := by rw [h.2.2.1]; exact hi
    simp only [if_true, hl] at hk
    cases hk
    exact h3 (i, v) List.mem_cons_self
  · simp only [e, if_false] at hk
    refine h3 (k, w) (List.mem_cons_of_mem _ (List.mem_filter.mpr ⟨on_pl_mem.mpr hk, ?_⟩))
    have e1 : (k == i) = false := by simp; exact fun q => e q.symm
    by_cases e2 : k + 1 = i
    · have := ho k e2 w hk
      simp [e1, this]
    · simp [e1, e2]
theorem on_L_st2 {ls ls' : Array Slot} {nL i : Nat} {lv : List (Option Value)} {v : Value} (h : on_L ls nL lv) (hi : i + 1 < nL) (ho : ∀ j, j + 1 = i → ∀ w, lv[j]? = some (some w) → w.category = 1) (h' : lv_has ls' nL ((i, v) :: (on_pl lv).filter (fun q => !(q.1 == i) && (!(q.1 == i + 1) && !(q.1 + 1 == i && q.2.category == 2))))) : on_L ls' nL ((lv.set i (some v)).set (i + 1) none) := by
  obtain ⟨h1, h2, h3⟩ := h'
  refine ⟨h1, h2, by rw [List.length_set, List.length_set]; exact h.2.2.1, fun k w hk => ?_⟩
  rw [List.getElem?_set] at hk
  by_cases e0 : i + 1 = k
  · simp only [e0, if_true, List.length_set] at hk
    split at hk
    · cases hk
    · cases hk
  · simp only [e0, if_false] at hk
    rw [List.getElem?_set] at hk
    by_cases e : i = k
    · subst e
      have hl : i < lv.length := by rw [h.2.2.1]; omega
      simp only [if_true, hl] at hk
      cases hk
      exact h3 (i, v) List.mem_cons_self
    · simp only [e, if_false] at hk
      refine h3 (k, w) (List.mem_cons_of_mem _ (List.mem_filter.mpr ⟨on_pl_mem.mpr hk, ?_⟩))
      have e1 : (k == i) = false := by simp; exact fun q => e q.symm
      have e3 : (k == i + 1) = false := by simp; exact fun q => e0 q.symm
      by_cases e2 : k + 1 = i
      · have := ho k e2 w hk
        simp [e1, e3, this]
      · simp [e1, e2, e3]
theorem on_L_drop {ls : Array Slot} {nL i : Nat} {lv : List (Option Value)} (h : on_L ls nL lv) : on_L ls nL (lv.set i none) := by
  refine ⟨h.1, h.2.1, by rw [List.length_set]; exact h.2.2.1, fun k w hk => ?_⟩
  rw [List.getElem?_set] at hk
  by_cases e : i = k
  · simp only [e, if_true] at hk
    split at hk <;> cases hk
  · simp only [e, if_false] at hk
    exact h.2.2.2 k w hk
section ON7
variable {X : on_X} {E : on_E} {cc : ByteArray} {own : String} {rt : Option FieldType} {fr lo nL z n : Nat} {σ : on_S} {x y : Option on_O} {pc pc2 tgt : Nat} {lv : List (Option Value)} {st rest : List Value} {a b : Int}
theorem on_iconst  (hd : on_dq cc pc 1 pc2 (.iconst a)) (k : on_G X E cc own rt fr lo nL z n σ x pc2 lv (.int (on_i a) :: rest)) : on_G X E cc own rt fr lo nL z n σ x pc lv rest := by
  obtain ⟨p, e, R, s, m, args, below, meth, c, out⟩ := X
  intro hC hx H locs ls hP hS hl
  obtain ⟨cx, cb, cm, co, ct, cK, cE, ck, cr, cR, cz⟩ := id hC
  obtain ⟨hd, rfl⟩ := hd
  exact lv_iconst cx cb hd rfl (k hC hx H locs ls hP hS hl)
theorem on_bipush  (hd : on_dq cc pc 2 pc2 (.bipush a)) (hv : (Int8.ofInt a).toInt32 = on_i a) (k : on_G X E cc own rt fr lo nL z n σ x pc2 lv (.int (on_i a) :: rest)) : on_G X E cc own rt fr lo nL z n σ x pc lv rest := by
  obtain ⟨p, e, R, s, m, args, below, meth, c, out⟩ := X
  intro hC hx H locs ls hP hS hl
  obtain ⟨cx, cb, cm, co, ct, cK, cE, ck, cr, cR, cz⟩ := id hC
  obtain ⟨hd, rfl⟩ := hd
  exact lv_bipush cx cb hd hv (k hC hx H locs ls hP hS hl)
theorem on_sipush  (hd : on_dq cc pc 3 pc2 (.sipush a)) (hv : (Int16.ofInt a).toInt32 = on_i a) (k : on_G X E cc own rt fr lo nL z n σ x pc2 lv (.int (on_i a) :: rest)) : on_G X E cc own rt fr lo nL z n σ x pc lv rest := by
  obtain ⟨p, e, R, s, m, args, below, meth, c, out⟩ := X
  intro hC hx H locs ls hP hS hl
  obtain ⟨cx, cb, cm, co, ct, cK, cE, ck, cr, cR, cz⟩ := id hC
  obtain ⟨hd, rfl⟩ := hd
  exact lv_sipush cx cb hd hv (k hC hx H locs ls hP hS hl)
theorem on_lconst0  (hd : on_dq cc pc 1 pc2 (.lconst 0)) (k : on_G X E cc own rt fr lo nL z n σ x pc2 lv (.long (on_l 0) :: rest)) : on_G X E cc own rt fr lo nL z n σ x pc lv rest := by
  obtain ⟨p, e, R, s, m, args, below, meth, c, out⟩ := X
  intro hC hx H locs ls hP hS hl
  obtain ⟨cx, cb, cm, co, ct, cK, cE, ck, cr, cR, cz⟩ := id hC
  obtain ⟨hd, rfl⟩ := hd
  exact lv_lconst cx cb hd (by decide) (k hC hx H locs ls hP hS hl)
theorem on_lconst1  (hd : on_dq cc pc 1 pc2 (.lconst 1)) (k : on_G X E cc own rt fr lo nL z n σ x pc2 lv (.long (on_l 1) :: rest)) : on_G X E cc own rt fr lo nL z n σ x pc lv rest := by
  obtain ⟨p, e, R, s, m, args, below, meth, c, out⟩ := X
  intro hC hx H locs ls hP hS hl
  obtain ⟨cx, cb, cm, co, ct, cK, cE, ck, cr, cR, cz⟩ := id hC
  obtain ⟨hd, rfl⟩ := hd
  exact lv_lconst cx cb hd (by decide) (k hC hx H locs ls hP hS hl)
theorem on_ldc {i : Nat} {v : Int32} (hw : Cond.constant own i v ∈ on_T) (hv : v = on_i a) (hd : on_dq cc pc 2 pc2 (.ldc i)) (k : on_G X E cc own rt fr lo nL z n σ x pc2 lv (.int (on_i a) :: rest)) : on_G X E cc own rt fr lo nL z n σ x pc lv rest := by
  obtain ⟨p, e, R, s, m, args, below, meth, c, out⟩ := X
  intro hC hx H locs ls hP hS hl
  obtain ⟨cx, cb, cm, co, ct, cK, cE, ck, cr, cR, cz⟩ := id hC
  obtain ⟨hd, rfl⟩ := hd
  subst hv
  exact lv_ldc cx cb co (ct _ hw) hd (k hC hx H locs ls hP hS hl)
theorem on_ldcw {i : Nat} {v : Int32} (hw : Cond.constant own i v ∈ on_T) (hv : v = on_i a) (hd : on_dq cc pc 3 pc2 (.ldc_w i)) (k : on_G X E cc own rt fr lo nL z n σ x pc2 lv (.int (on_i a) :: rest)) : on_G X E cc own rt fr lo nL z n σ x pc lv rest := by
  obtain ⟨p, e, R, s, m, args, below, meth, c, out⟩ := X
  intro hC hx H locs ls hP hS hl
  obtain ⟨cx, cb, cm, co, ct, cK, cE, ck, cr, cR, cz⟩ := id hC
  obtain ⟨hd, rfl⟩ := hd
  subst hv
  exact lv_ldcw cx cb co (ct _ hw) hd (k hC hx H locs ls hP hS hl)
theorem on_ldc2 {i : Nat} {v : Int64} (hw : Cond.constantLong own i v ∈ on_T) (hv : v = on_l a) (hd : on_dq cc pc 3 pc2 (.ldc2_w i)) (k : on_G X E cc own rt fr lo nL z n σ x pc2 lv (.long (on_l a) :: rest)) : on_G X E cc own rt fr lo nL z n σ x pc lv rest := by
  obtain ⟨p, e, R, s, m, args, below, meth, c, out⟩ := X
  intro hC hx H locs ls hP hS hl
  obtain ⟨cx, cb, cm, co, ct, cK, cE, ck, cr, cR, cz⟩ := id hC
  obtain ⟨hd, rfl⟩ := hd
  subst hv
  exact lv_ldc2 cx cb co (ct _ hw) hd (k hC hx H locs ls hP hS hl)
theorem on_iloadn (i : Nat) {f : Fin 4} {v : Int32} (hk : lv[i]? = some (some (.int v))) (hf : (f : Nat) = i) (hd : on_dq cc pc 1 pc2 (.iload_n f)) (k : on_G X E cc own rt fr lo nL z n σ x pc2 lv (.int v :: rest)) : on_G X E cc own rt fr lo nL z n σ x pc lv rest := by
  obtain ⟨p, e, R, s, m, args, below, meth, c, out⟩ := X
  intro hC hx H locs ls hP hS hl
  obtain ⟨cx, cb, cm, co, ct, cK, cE, ck, cr, cR, cz⟩ := id hC
  obtain ⟨hd, rfl⟩ := hd
  exact lv_iload_n cx cb hd hf (on_L_get hl i hk) (k hC hx H locs ls hP hS hl)
theorem on_iload (i : Nat) {v : Int32} (hk : lv[i]? = some (some (.int v))) (hd : on_dq cc pc 2 pc2 (.iload i)) (k : on_G X E cc own rt fr lo nL z n σ x pc2 lv (.int v :: rest)) : on_G X E cc own rt fr lo nL z n σ x pc lv rest := by
  obtain ⟨p, e, R, s, m, args, below, meth, c, out⟩ := X
  intro hC hx H locs ls hP hS hl
  obtain ⟨cx, cb, cm, co, ct, cK, cE, ck, cr, cR, cz⟩ := id hC
  obtain ⟨hd, rfl⟩ := hd
  exact lv_iload cx cb hd (on_L_get hl i hk) (k hC hx H locs ls hP hS hl)
theorem on_istoren (i : Nat) {f : Fin 4} {v : Int32} (hf : (f : Nat) = i) (hi : i < nL) (ho : ∀ j, j + 1 = i → ∀ w, lv[j]? = some (some w) → w.category = 1) (hd : on_dq cc pc 1 pc2 (.istore_n f)) (k : on_G X E cc own rt fr lo nL z n σ x pc2 (lv.set i (some (.int v))) rest) : on_G X E cc own rt fr lo nL z n σ x pc lv (.int v :: rest) := by
  obtain ⟨p, e, R, s, m, args, below, meth, c, out⟩ := X
  intro hC hx H locs ls hP hS hl
  obtain ⟨cx, cb, cm, co, ct, cK, cE, ck, cr, cR, cz⟩ := id hC
  obtain ⟨hd, rfl⟩ := hd
  exact lv_istore_n cx cb hd hf (on_L_has hl) hi rfl (fun ls2 h2 => k hC hx H locs ls2 hP hS (on_L_st1 hl hi ho h2))
theorem on_istore (i : Nat) {v : Int32} (hi : i < nL) (ho : ∀ j, j + 1 = i → ∀ w, lv[j]? = some (some w) → w.category = 1) (hd : on_dq cc pc 2 pc2 (.istore i)) (k : on_G X E cc own rt fr lo nL z n σ x pc2 (lv.set i (some (.int v))) rest) : on_G X E cc own rt fr lo nL z n σ x pc lv (.int v :: rest) := by
  obtain ⟨p, e, R, s, m, args, below, meth, c, out⟩ := X
  intro hC hx H locs ls hP hS hl
  obtain ⟨cx, cb, cm, co, ct, cK, cE, ck, cr, cR, cz⟩ := id hC
  obtain ⟨hd, rfl⟩ := hd
  exact lv_istore cx cb hd (on_L_has hl) hi rfl (fun ls2 h2 => k hC hx H locs ls2 hP hS (on_L_st1 hl hi ho h2))
theorem on_lloadn (i : Nat) {f : Fin 4} {v : Int64} (hk : lv[i]? = some (some (.long v))) (hf : (f : Nat) = i) (hd : on_dq cc pc 1 pc2 (.lload_n f)) (k : on_G X E cc own rt fr lo nL z n σ x pc2 lv (.long v :: rest)) : on_G X E cc own rt fr lo nL z n σ x pc lv rest := by
  obtain ⟨p, e, R, s, m, args, below, meth, c, out⟩ := X
  intro hC hx H locs ls hP hS hl
  obtain ⟨cx, cb, cm, co, ct, cK, cE, ck, cr, cR, cz⟩ := id hC
  obtain ⟨hd, rfl⟩ := hd
  exact lv_lload_n cx cb hd hf (on_L_get hl i hk) (k hC hx H locs ls hP hS hl)
theorem on_lload (i : Nat) {v : Int64} (hk : lv[i]? = some (some (.long v))) (hd : on_dq cc pc 2 pc2 (.lload i)) (k : on_G X E cc own rt fr lo nL z n σ x pc2 lv (.long v :: rest)) : on_G X E cc own rt fr lo nL z n σ x pc lv rest := by
  obtain ⟨p, e, R, s, m, args, below, meth, c, out⟩ := X
  intro hC hx H locs ls hP hS hl
  obtain ⟨cx, cb, cm, co, ct, cK, cE, ck, cr, cR, cz⟩ := id hC
  obtain ⟨hd, rfl⟩ := hd
  exact lv_lload cx cb hd (on_L_get hl i hk) (k hC hx H locs ls hP hS hl)
theorem on_lstoren (i : Nat) {f : Fin 4} {v : Int64} (hf : (f : Nat) = i) (hi : i + 1 < nL) (ho : ∀ j, j + 1 = i → ∀ w, lv[j]? = some (some w) → w.category = 1) (hd : on_dq cc pc 1 pc2 (.lstore_n f)) (k : on_G X E cc own rt fr lo nL z n σ x pc2 ((lv.set i (some (.long v))).set (i + 1) none) rest) : on_G X E cc own rt fr lo nL z n σ x pc lv (.long v :: rest) := by
  obtain ⟨p, e, R, s, m, args, below, meth, c, out⟩ := X
  intro hC hx H locs ls hP hS hl
  obtain ⟨cx, cb, cm, co, ct, cK, cE, ck, cr, cR, cz⟩ := id hC
  obtain ⟨hd, rfl⟩ := hd
  exact lv_lstore_n cx cb hd hf (on_L_has hl) hi rfl (fun ls2 h2 => k hC hx H locs ls2 hP hS (on_L_st2 hl hi ho h2))
theorem on_lstore (i : Nat) {v : Int64} (hi : i + 1 < nL) (ho : ∀ j, j + 1 = i → ∀ w, lv[j]? = some (some w) → w.category = 1) (hd : on_dq cc pc 2 pc2 (.lstore i)) (k : on_G X E cc own rt fr lo nL z n σ x pc2 ((lv.set i (some (.long v))).set (i + 1) none) rest) : on_G X E cc own rt fr lo nL z n σ x pc lv (.long v :: rest) := by
  obtain ⟨p, e, R, s, m, args, below, meth, c, out⟩ := X
  intro hC hx H locs ls hP hS hl
  obtain ⟨cx, cb, cm, co, ct, cK, cE, ck, cr, cR, cz⟩ := id hC
  obtain ⟨hd, rfl⟩ := hd
  exact lv_lstore cx cb hd (on_L_has hl) hi rfl (fun ls2 h2 => k hC hx H locs ls2 hP hS (on_L_st2 hl hi ho h2))
theorem on_aloadn (i : Nat) {f : Fin 4} {v : Nat} (hk : lv[i]? = some (some (.ref v))) (hf : (f : Nat) = i) (hd : on_dq cc pc 1 pc2 (.aload_n f)) (k : on_G X E cc own rt fr lo nL z n σ x pc2 lv (.ref v :: rest)) : on_G X E cc own rt fr lo nL z n σ x pc lv rest := by
  obtain ⟨p, e, R, s, m, args, below, meth, c, out⟩ := X
  intro hC hx H locs ls hP hS hl
  obtain ⟨cx, cb, cm, co, ct, cK, cE, ck, cr, cR, cz⟩ := id hC
  obtain ⟨hd, rfl⟩ := hd
  exact lv_aload_n cx cb hd hf (on_L_get hl i hk) (k hC hx H locs ls hP hS hl)
theorem on_aload (i : Nat) {v : Nat} (hk : lv[i]? = some (some (.ref v))) (hd : on_dq cc pc 2 pc2 (.aload i)) (k : on_G X E cc own rt fr lo nL z n σ x pc2 lv (.ref v :: rest)) : on_G X E cc own rt fr lo nL z n σ x pc lv rest := by
  obtain ⟨p, e, R, s, m, args, below, meth, c, out⟩ := X
  intro hC hx H locs ls hP hS hl
  obtain ⟨cx, cb, cm, co, ct, cK, cE, ck, cr, cR, cz⟩ := id hC
  obtain ⟨hd, rfl⟩ := hd
  exact lv_aload cx cb hd (on_L_get hl i hk) (k hC hx H locs ls hP hS hl)
theorem on_astoren (i : Nat) {f : Fin 4} {v : Nat} (hf : (f : Nat) = i) (hi : i < nL) (ho : ∀ j, j + 1 = i → ∀ w, lv[j]? = some (some w) → w.category = 1) (hd : on_dq cc pc 1 pc2 (.astore_n f)) (k : on_G X E cc own rt fr lo nL z n σ x pc2 (lv.set i (some (.ref v))) rest) : on_G X E cc own rt fr lo nL z n σ x pc lv (.ref v :: rest) := by
  obtain ⟨p, e, R, s, m, args, below, meth, c, out⟩ := X
  intro hC hx H locs ls hP hS hl
  obtain ⟨cx, cb, cm, co, ct, cK, cE, ck, cr, cR, cz⟩ := id hC
  obtain ⟨hd, rfl⟩ := hd
  exact lv_astore_n cx cb hd hf (on_L_has hl) hi rfl (fun ls2 h2 => k hC hx H locs ls2 hP hS (on_L_st1 hl hi ho h2))
theorem on_astore (i : Nat) {v : Nat} (hi : i < nL) (ho : ∀ j, j + 1 = i → ∀ w, lv[j]? = some (some w) → w.category = 1) (hd : on_dq cc pc 2 pc2 (.astore i)) (k : on_G X E cc own rt fr lo nL z n σ x pc2 (lv.set i (some (.ref v))) rest) : on_G X E cc own rt fr lo nL z n σ x pc lv (.ref v :: rest) := by
  obtain ⟨p, e, R, s, m, args, below, meth, c, out⟩ := X
  intro hC hx H locs ls hP hS hl
  obtain ⟨cx, cb, cm, co, ct, cK, cE, ck, cr, cR, cz⟩ := id hC
  obtain ⟨hd, rfl⟩ := hd
  exact lv_astore cx cb hd (on_L_has hl) hi rfl (fun ls2 h2 => k hC hx H locs ls2 hP hS (on_L_st1 hl hi ho h2))
theorem on_iincg (i : Nat) {q : Int} (hk : lv[i]? = some (some (.int (on_i a)))) (hi : i < nL) (ho : ∀ j, j + 1 = i → ∀ w, lv[j]? = some (some w) → w.category = 1) (hd : on_dq cc pc 3 pc2 (.iinc i q)) (k : on_G X E cc own rt fr lo nL z n σ x pc2 (lv.set i (some (.int (on_i (a + q))))) rest) : on_G X E cc own rt fr lo nL z n σ x pc lv rest := by
  obtain ⟨p, e, R, s, m, args, below, meth, c, out⟩ := X
  intro hC hx H locs ls hP hS hl
  obtain ⟨cx, cb, cm, co, ct, cK, cE, ck, cr, cR, cz⟩ := id hC
  obtain ⟨hd, rfl⟩ := hd
  obtain ⟨kk, hkk⟩ := List.getElem?_of_mem (on_pl_mem.mpr hk)
  exact lv_iinc cx cb hd (on_L_has hl) hkk (on_i_add a q).symm hi rfl (fun ls2 h2 => k hC hx H locs ls2 hP hS (on_L_st1 hl hi ho h2))
theorem on_dropg (i : Nat) (k : on_G X E cc own rt fr lo nL z n σ x pc (lv.set i none) rest) : on_G X E cc own rt fr lo nL z n σ x pc lv rest := by
  obtain ⟨p, e, R, s, m, args, below, meth, c, out⟩ := X
  intro hC hx H locs ls hP hS hl
  obtain ⟨cx, cb, cm, co, ct, cK, cE, ck, cr, cR, cz⟩ := id hC
  exact k hC hx H locs ls hP hS (on_L_drop hl)
theorem on_iadd  (hd : on_dq cc pc 1 pc2 .iadd) (k : on_G X E cc own rt fr lo nL z n σ x pc2 lv (.int (on_i (a + b)) :: rest)) : on_G X E cc own rt fr lo nL z n σ x pc lv (.int (on_i b) :: .int (on_i a) :: rest) := by
  obtain ⟨p, e, R, s, m, args, below, meth, c, out⟩ := X
  intro hC hx H locs ls hP hS hl
  obtain ⟨cx, cb, cm, co, ct, cK, cE, ck, cr, cR, cz⟩ := id hC
  obtain ⟨hd, rfl⟩ := hd
  refine lv_iadd cx cb hd ?_
  rw [← on_i_add]
  exact k hC hx H locs ls hP hS hl
theorem on_isub  (hd : on_dq cc pc 1 pc2 .isub) (k : on_G X E cc own rt fr lo nL z n σ x pc2 lv (.int (on_i (a - b)) :: rest)) : on_G X E cc own rt fr lo nL z n σ x pc lv (.int (on_i b) :: .int (on_i a) :: rest) := by
  obtain ⟨p, e, R, s, m, args, below, meth, c, out⟩ := X
  intro hC hx H locs ls hP hS hl
  obtain ⟨cx, cb, cm, co, ct, cK, cE, ck, cr, cR, cz⟩ := id hC
  obtain ⟨hd, rfl⟩ := hd
  refine lv_isub cx cb hd ?_
  rw [← on_i_sub]
  exact k hC hx H locs ls hP hS hl
theorem on_imul  (hd : on_dq cc pc 1 pc2 .imul) (k : on_G X E cc own rt fr lo nL z n σ x pc2 lv (.int (on_i (a * b)) :: rest)) : on_G X E cc own rt fr lo nL z n σ x pc lv (.int (on_i b) :: .int (on_i a) :: rest) := by
  obtain ⟨p, e, R, s, m, args, below, meth, c, out⟩ := X
  intro hC hx H locs ls hP hS hl
  obtain ⟨cx, cb, cm, co, ct, cK, cE, ck, cr, cR, cz⟩ := id hC
  obtain ⟨hd, rfl⟩ := hd
  refine lv_imul cx cb hd ?_
  rw [← on_i_mul]
  exact k hC hx H locs ls hP hS hl
theorem on_ladd  (hd : on_dq cc pc 1 pc2 .ladd) (k : on_G X E cc own rt fr lo nL z n σ x pc2 lv (.long (on_l (a + b)) :: rest)) : on_G X E cc own rt fr lo nL z n σ x pc lv (.long (on_l b) :: .long (on_l a) :: rest) := by
  obtain ⟨p, e, R, s, m, args, below, meth, c, out⟩ := X
  intro hC hx H locs ls hP hS hl
  obtain ⟨cx, cb, cm, co, ct, cK, cE, ck, cr, cR, cz⟩ := id hC
  obtain ⟨hd, rfl⟩ := hd
  refine lv_ladd cx cb hd ?_
  rw [← on_l_add]
  exact k hC hx H locs ls hP hS hl
theorem on_lsub  (hd : on_dq cc pc 1 pc2 .lsub) (k : on_G X E cc own rt fr lo nL z n σ x pc2 lv (.long (on_l (a - b)) :: rest)) : on_G X E cc own rt fr lo nL z n σ x pc lv (.long (on_l b) :: .long (on_l a) :: rest) := by
  obtain ⟨p, e, R, s, m, args, below, meth, c, out⟩ := X
  intro hC hx H locs ls hP hS hl
  obtain ⟨cx, cb, cm, co, ct, cK, cE, ck, cr, cR, cz⟩ := id hC
  obtain ⟨hd, rfl⟩ := hd
  refine lv_lsub cx cb hd ?_
  rw [← on_l_sub]
  exact k hC hx H locs ls hP hS hl
theorem on_lmul  (hd : on_dq cc pc 1 pc2 .lmul) (k : on_G X E cc own rt fr lo nL z n σ x pc2 lv (.long (on_l (a * b)) :: rest)) : on_G X E cc own rt fr lo nL z n σ x pc lv (.long (on_l b) :: .long (on_l a) :: rest) := by
  obtain ⟨p, e, R, s, m, args, below, meth, c, out⟩ := X
  intro hC hx H locs ls hP hS hl
  obtain ⟨cx, cb, cm, co, ct, cK, cE, ck, cr, cR, cz⟩ := id hC
  obtain ⟨hd, rfl⟩ := hd
  refine lv_lmul cx cb hd ?_
  rw [← on_l_mul]
  exact k hC hx H locs ls hP hS hl
theorem on_iand  (hd : on_dq cc pc 1 pc2 .iand) (k : on_G X E cc own rt fr lo nL z n σ x pc2 lv (.int (on_i (on_and a b)) :: rest)) : on_G X E cc own rt fr lo nL z n σ x pc lv (.int (on_i b) :: .int (on_i a) :: rest) := by
  obtain ⟨p, e, R, s, m, args, below, meth, c, out⟩ := X
  intro hC hx H locs ls hP hS hl
  obtain ⟨cx, cb, cm, co, ct, cK, cE, ck, cr, cR, cz⟩ := id hC
  obtain ⟨hd, rfl⟩ := hd
  refine lv_iand cx cb hd ?_
  have k := k hC hx H locs ls hP hS hl
  rw [on_and, on_ti] at k
  exact k
theorem on_ior  (hd : on_dq cc pc 1 pc2 .ior) (k : on_G X E cc own rt fr lo nL z n σ x pc2 lv (.int (on_i (on_or a b)) :: rest)) : on_G X E cc own rt fr lo nL z n σ x pc lv (.int (on_i b) :: .int (on_i a) :: rest) := by
  obtain ⟨p, e, R, s, m, args, below, meth, c, out⟩ := X
  intro hC hx H locs ls hP hS hl
  obtain ⟨cx, cb, cm, co, ct, cK, cE, ck, cr, cR, cz⟩ := id hC
  obtain ⟨hd, rfl⟩ := hd
  refine lv_ior cx cb hd ?_
  have k := k hC hx H locs ls hP hS hl
  rw [on_or, on_ti] at k
  exact k
theorem on_ixor  (hd : on_dq cc pc 1 pc2 .ixor) (k : on_G X E cc own rt fr lo nL z n σ x pc2 lv (.int (on_i (on_xor a b)) :: rest)) : on_G X E cc own rt fr lo nL z n σ x pc lv (.int (on_i b) :: .int (on_i a) :: rest) := by
  obtain ⟨p, e, R, s, m, args, below, meth, c, out⟩ := X
  intro hC hx H locs ls hP hS hl
  obtain ⟨cx, cb, cm, co, ct, cK, cE, ck, cr, cR, cz⟩ := id hC
  obtain ⟨hd, rfl⟩ := hd
  refine lv_ixor cx cb hd ?_
  have k := k hC hx H locs ls hP hS hl
  rw [on_xor, on_ti] at k
  exact k
theorem on_ishl  (hd : on_dq cc pc 1 pc2 .ishl) (k : on_G X E cc own rt fr lo nL z n σ x pc2 lv (.int (on_i (on_shl a b)) :: rest)) : on_G X E cc own rt fr lo nL z n σ x pc lv (.int (on_i b) :: .int (on_i a) :: rest) := by
  obtain ⟨p, e, R, s, m, args, below, meth, c, out⟩ := X
  intro hC hx H locs ls hP hS hl
  obtain ⟨cx, cb, cm, co, ct, cK, cE, ck, cr, cR, cz⟩ := id hC
  obtain ⟨hd, rfl⟩ := hd
  refine lv_ishl cx cb hd ?_
  have k := k hC hx H locs ls hP hS hl
  rw [on_shl, on_ti] at k
  exact k
theorem on_ishr  (hd : on_dq cc pc 1 pc2 .ishr) (k : on_G X E cc own rt fr lo nL z n σ x pc2 lv (.int (on_i (on_shr a b)) :: rest)) : on_G X E cc own rt fr lo nL z n σ x pc lv (.int (on_i b) :: .int (on_i a) :: rest) := by
  obtain ⟨p, e, R, s, m, args, below, meth, c, out⟩ := X
  intro hC hx H locs ls hP hS hl
  obtain ⟨cx, cb, cm, co, ct, cK, cE, ck, cr, cR, cz⟩ := id hC
  obtain ⟨hd, rfl⟩ := hd
  refine lv_ishr cx cb hd ?_
  have k := k hC hx H locs ls hP hS hl
  rw [on_shr, on_ti] at k
  exact k
theorem on_ineg  (hd : on_dq cc pc 1 pc2 .ineg) (k : on_G X E cc own rt fr lo nL z n σ x pc2 lv (.int (on_i (-a)) :: rest)) : on_G X E cc own rt fr lo nL z n σ x pc lv (.int (on_i a) :: rest) := by
  obtain ⟨p, e, R, s, m, args, below, meth, c, out⟩ := X
  intro hC hx H locs ls hP hS hl
  obtain ⟨cx, cb, cm, co, ct, cK, cE, ck, cr, cR, cz⟩ := id hC
  obtain ⟨hd, rfl⟩ := hd
  refine lv_ineg cx cb hd ?_
  have k := k hC hx H locs ls hP hS hl
  rw [show on_i (-a) = -on_i a from Int32.ofInt_neg a] at k
  exact k
theorem on_iushr  (hd : on_dq cc pc 1 pc2 .iushr) (k : on_G X E cc own rt fr lo nL z n σ x pc2 lv (.int (on_i (on_ushr a b)) :: rest)) : on_G X E cc own rt fr lo nL z n σ x pc lv (.int (on_i b) :: .int (on_i a) :: rest) := by
  obtain ⟨p, e, R, s, m, args, below, meth, c, out⟩ := X
  intro hC hx H locs ls hP hS hl
  obtain ⟨cx, cb, cm, co, ct, cK, cE, ck, cr, cR, cz⟩ := id hC
  obtain ⟨hd, rfl⟩ := hd
  exact lv_iushr cx cb hd (on_ti _).symm (k hC hx H locs ls hP hS hl)
theorem on_idiv {kk : Int → Option on_O} (hd : on_dq cc pc 1 pc2 .idiv) (k : ∀ v : Int, on_G X E cc own rt fr lo nL z n σ (kk v) pc2 lv (.int (on_i v) :: rest)) : on_G X E cc own rt fr lo nL z n σ (on_Dv a b kk) pc lv (.int (on_i b) :: .int (on_i a) :: rest) := by
  obtain ⟨p, e, R, s, m, args, below, meth, c, out⟩ := X
  intro hC hx H locs ls hP hS hl
  obtain ⟨cx, cb, cm, co, ct, cK, cE, ck, cr, cR, cz⟩ := id hC
  obtain ⟨hd, rfl⟩ := hd
  unfold on_Dv at hx
  by_cases hr : on_R a ∧ on_R b ∧ 0 < b
  · rw [if_pos hr] at hx
    refine lv_idiv cx cb hd (on_i_ne hr.2.1 hr.2.2) ?_
    rw [on_i_div hr.1 hr.2.1 hr.2.2]
    exact k _ hC hx H locs ls hP hS hl
  · rw [if_neg hr] at hx
    cases hx
theorem on_irem {kk : Int → Option on_O} (hd : on_dq cc pc 1 pc2 .irem) (k : ∀ v : Int, on_G X E cc own rt fr lo nL z n σ (kk v) pc2 lv (.int (on_i v) :: rest)) : on_G X E cc own rt fr lo nL z n σ (on_Rm a b kk) pc lv (.int (on_i b) :: .int (on_i a) :: rest) := by
  obtain ⟨p, e, R, s, m, args, below, meth, c, out⟩ := X
  intro hC hx H locs ls hP hS hl
  obtain ⟨cx, cb, cm, co, ct, cK, cE, ck, cr, cR, cz⟩ := id hC
  obtain ⟨hd, rfl⟩ := hd
  unfold on_Rm at hx
  by_cases hr : on_R a ∧ on_R b ∧ 0 < b
  · rw [if_pos hr] at hx
    refine lv_irem cx cb hd (on_i_ne hr.2.1 hr.2.2) ?_
    rw [on_i_rem hr.1 hr.2.1 hr.2.2]
    exact k _ hC hx H locs ls hP hS hl
  · rw [if_neg hr] at hx
    cases hx
theorem on_ldiv {kk : Int → Option on_O} (hd : on_dq cc pc 1 pc2 .ldiv) (k : ∀ v : Int, on_G X E cc own rt fr lo nL z n σ (kk v) pc2 lv (.long (on_l v) :: rest)) : on_G X E cc own rt fr lo nL z n σ (on_DvL a b kk) pc lv (.long (on_l b) :: .long (on_l a) :: rest) := by
  obtain ⟨p, e, R, s, m, args, below, meth, c, out⟩ := X
  intro hC hx H locs ls hP hS hl
  obtain ⟨cx, cb, cm, co, ct, cK, cE, ck, cr, cR, cz⟩ := id hC
  obtain ⟨hd, rfl⟩ := hd
  unfold on_DvL at hx
  by_cases hr : on_RL a ∧ on_RL b ∧ 0 < b
  · rw [if_pos hr] at hx
    refine lv_ldiv cx cb hd (on_l_ne hr.2.1 hr.2.2) ?_
    rw [on_l_div hr.1 hr.2.1 hr.2.2]
    exact k _ hC hx H locs ls hP hS hl
  · rw [if_neg hr] at hx
    cases hx
theorem on_lrem {kk : Int → Option on_O} (hd : on_dq cc pc 1 pc2 .lrem) (k : ∀ v : Int, on_G X E cc own rt fr lo nL z n σ (kk v) pc2 lv (.long (on_l v) :: rest)) : on_G X E cc own rt fr lo nL z n σ (on_RmL a b kk) pc lv (.long (on_l b) :: .long (on_l a) :: rest) := by
  obtain ⟨p, e, R, s, m, args, below, meth, c, out⟩ := X
  intro hC hx H locs ls hP hS hl
  obtain ⟨cx, cb, cm, co, ct, cK, cE, ck, cr, cR, cz⟩ := id hC
  obtain ⟨hd, rfl⟩ := hd
  unfold on_RmL at hx
  by_cases hr : on_RL a ∧ on_RL b ∧ 0 < b
  · rw [if_pos hr] at hx
    refine lv_lrem cx cb hd (on_l_ne hr.2.1 hr.2.2) ?_
    rw [on_l_rem hr.1 hr.2.1 hr.2.2]
    exact k _ hC hx H locs ls hP hS hl
  · rw [if_neg hr] at hx
    cases hx
theorem on_xi2l  (hd : on_dq cc pc 1 pc2 .i2l) (k : on_G X E cc own rt fr lo nL z n σ x pc2 lv (.long (on_l a) :: rest)) : on_G X E cc own rt fr lo nL z n σ (on_Ck a x) pc lv (.int (on_i a) :: rest) := by
  obtain ⟨p, e, R, s, m, args, below, meth, c, out⟩ := X
  intro hC hx H locs ls hP hS hl
  obtain ⟨cx, cb, cm, co, ct, cK, cE, ck, cr, cR, cz⟩ := id hC
  obtain ⟨hd, rfl⟩ := hd
  unfold on_Ck at hx
  by_cases hr : on_R a
  · rw [if_pos hr] at hx
    exact lv_i2l cx cb hd (on_i2l hr) (k hC hx H locs ls hP hS hl)
  · rw [if_neg hr] at hx
    cases hx
theorem on_xl2i  (hd : on_dq cc pc 1 pc2 .l2i) (k : on_G X E cc own rt fr lo nL z n σ x pc2 lv (.int (on_i a) :: rest)) : on_G X E cc own rt fr lo nL z n σ x pc lv (.long (on_l a) :: rest) := by
  obtain ⟨p, e, R, s, m, args, below, meth, c, out⟩ := X
  intro hC hx H locs ls hP hS hl
  obtain ⟨cx, cb, cm, co, ct, cK, cE, ck, cr, cR, cz⟩ := id hC
  obtain ⟨hd, rfl⟩ := hd
  exact lv_l2i cx cb hd (on_l2i a) (k hC hx H locs ls hP hS hl)
theorem on_i2b  (hd : on_dq cc pc 1 pc2 .i2b) (k : on_G X E cc own rt fr lo nL z n σ x pc2 lv (.int (on_i (on_ib a)) :: rest)) : on_G X E cc own rt fr lo nL z n σ x pc lv (.int (on_i a) :: rest) := by
  obtain ⟨p, e, R, s, m, args, below, meth, c, out⟩ := X
  intro hC hx H locs ls hP hS hl
  obtain ⟨cx, cb, cm, co, ct, cK, cE, ck, cr, cR, cz⟩ := id hC
  obtain ⟨hd, rfl⟩ := hd
  exact lv_i2b cx cb hd (on_ti _).symm (k hC hx H locs ls hP hS hl)
theorem on_i2s  (hd : on_dq cc pc 1 pc2 .i2s) (k : on_G X E cc own rt fr lo nL z n σ x pc2 lv (.int (on_i (on_is a)) :: rest)) : on_G X E cc own rt fr lo nL z n σ x pc lv (.int (on_i a) :: rest) := by
  obtain ⟨p, e, R, s, m, args, below, meth, c, out⟩ := X
  intro hC hx H locs ls hP hS hl
  obtain ⟨cx, cb, cm, co, ct, cK, cE, ck, cr, cR, cz⟩ := id hC
  obtain ⟨hd, rfl⟩ := hd
  exact lv_i2s cx cb hd (on_ti _).symm (k hC hx H locs ls hP hS hl)
theorem on_land  (hd : on_dq cc pc 1 pc2 .land) (k : on_G X E cc own rt fr lo nL z n σ x pc2 lv (.long (on_l (on_andl a b)) :: rest)) : on_G X E cc own rt fr lo nL z n σ x pc lv (.long (on_l b) :: .long (on_l a) :: rest) := by
  obtain ⟨p, e, R, s, m, args, below, meth, c, out⟩ := X
  intro hC hx H locs ls hP hS hl
  obtain ⟨cx, cb, cm, co, ct, cK, cE, ck, cr, cR, cz⟩ := id hC
  obtain ⟨hd, rfl⟩ := hd
  refine lv_land cx cb hd ?_
  have k := k hC hx H locs ls hP hS hl
  rw [on_andl, on_tl] at k
  exact k
theorem on_lor  (hd : on_dq cc pc 1 pc2 .lor) (k : on_G X E cc own rt fr lo nL z n σ x pc2 lv (.long (on_l (on_orl a b)) :: rest)) : on_G X E cc own rt fr lo nL z n σ x pc lv (.long (on_l b) :: .long (on_l a) :: rest) := by
  obtain ⟨p, e, R, s, m, args, below, meth, c, out⟩ := X
  intro hC hx H locs ls hP hS hl
  obtain ⟨cx, cb, cm, co, ct, cK, cE, ck, cr, cR, cz⟩ := id hC
  obtain ⟨hd, rfl⟩ := hd
  refine lv_lor cx cb hd ?_
  have k := k hC hx H locs ls hP hS hl
  rw [on_orl, on_tl] at k
  exact k
theorem on_lshl  (hd : on_dq cc pc 1 pc2 .lshl) (k : on_G X E cc own rt fr lo nL z n σ x pc2 lv (.long (on_l (on_shll a b)) :: rest)) : on_G X E cc own rt fr lo nL z n σ x pc lv (.int (on_i b) :: .long (on_l a) :: rest) := by
  obtain ⟨p, e, R, s, m, args, below, meth, c, out⟩ := X
  intro hC hx H locs ls hP hS hl
  obtain ⟨cx, cb, cm, co, ct, cK, cE, ck, cr, cR, cz⟩ := id hC
  obtain ⟨hd, rfl⟩ := hd
  exact lv_lshl cx cb hd (on_tl _).symm (k hC hx H locs ls hP hS hl)
theorem on_lshr  (hd : on_dq cc pc 1 pc2 .lshr) (k : on_G X E cc own rt fr lo nL z n σ x pc2 lv (.long (on_l (on_shrl a b)) :: rest)) : on_G X E cc own rt fr lo nL z n σ x pc lv (.int (on_i b) :: .long (on_l a) :: rest) := by
  obtain ⟨p, e, R, s, m, args, below, meth, c, out⟩ := X
  intro hC hx H locs ls hP hS hl
  obtain ⟨cx, cb, cm, co, ct, cK, cE, ck, cr, cR, cz⟩ := id hC
  obtain ⟨hd, rfl⟩ := hd
  exact lv_lshr cx cb hd (on_tl _).symm (k hC hx H locs ls hP hS hl)
theorem on_dup {v : Value} (hv : v.category = 1) (hd : on_dq cc pc 1 pc2 .dup) (k : on_G X E cc own rt fr lo nL z n σ x pc2 lv (v :: v :: rest)) : on_G X E cc own rt fr lo nL z n σ x pc lv (v :: rest) := by
  obtain ⟨p, e, R, s, m, args, below, meth, c, out⟩ := X
  intro hC hx H locs ls hP hS hl
  obtain ⟨cx, cb, cm, co, ct, cK, cE, ck, cr, cR, cz⟩ := id hC
  obtain ⟨hd, rfl⟩ := hd
  exact lv_dup cx cb hd hv (k hC hx H locs ls hP hS hl)
theorem on_dup2 {v w : Value} (hv : v.category = 1) (hw : w.category = 1) (hd : on_dq cc pc 1 pc2 .dup2) (k : on_G X E cc own rt fr lo nL z n σ x pc2 lv (v :: w :: v :: w :: rest)) : on_G X E cc own rt fr lo nL z n σ x pc lv (v :: w :: rest) := by
  obtain ⟨p, e, R, s, m, args, below, meth, c, out⟩ := X
  intro hC hx H locs ls hP hS hl
  obtain ⟨cx, cb, cm, co, ct, cK, cE, ck, cr, cR, cz⟩ := id hC
  obtain ⟨hd, rfl⟩ := hd
  exact lv_dup2_11 cx cb hd hv hw (k hC hx H locs ls hP hS hl)
theorem on_pop {v : Value} (hv : v.category = 1) (hd : on_dq cc pc 1 pc2 .pop) (k : on_G X E cc own rt fr lo nL z n σ x pc2 lv rest) : on_G X E cc own rt fr lo nL z n σ x pc lv (v :: rest) := by
  obtain ⟨p, e, R, s, m, args, below, meth, c, out⟩ := X
  intro hC hx H locs ls hP hS hl
  obtain ⟨cx, cb, cm, co, ct, cK, cE, ck, cr, cR, cz⟩ := id hC
  obtain ⟨hd, rfl⟩ := hd
  exact lv_pop cx cb hd hv (k hC hx H locs ls hP hS hl)
theorem on_goto {off : Int} (hd : on_dq cc pc 3 pc2 (.goto off)) (ht : (pc : Int) + off = (tgt : Int)) (k : on_G X E cc own rt fr lo nL z n σ x tgt lv rest) : on_G X E cc own rt fr lo nL z n σ x pc lv rest := by
  obtain ⟨p, e, R, s, m, args, below, meth, c, out⟩ := X
  intro hC hx H locs ls hP hS hl
  obtain ⟨cx, cb, cm, co, ct, cK, cE, ck, cr, cR, cz⟩ := id hC
  obtain ⟨hd, rfl⟩ := hd
  exact lv_goto cx cb hd ht (k hC hx H locs ls hP hS hl)
theorem on_icmp_eq {off : Int} (hd : on_dq cc pc 3 pc2 (.if_icmp .eq off)) (ht : (pc : Int) + off = (tgt : Int)) (kf : on_G X E cc own rt fr lo nL z n σ y pc2 lv rest) (kt : on_G X E cc own rt fr lo nL z n σ x tgt lv rest) : on_G X E cc own rt fr lo nL z n σ (on_Eq a b x y) pc lv (.int (on_i b) :: .int (on_i a) :: rest) := by
  obtain ⟨p, e, R, s, m, args, below, meth, c, out⟩ := X
  intro hC hx H locs ls hP hS hl
  obtain ⟨cx, cb, cm, co, ct, cK, cE, ck, cr, cR, cz⟩ := id hC
  obtain ⟨hd, rfl⟩ := hd
  unfold on_Eq at hx
  by_cases hr : on_R a ∧ on_R b
  · rw [if_pos hr] at hx
    refine lv_icmp_eq cx cb hd ht (fun h => ?_) (fun h => ?_)
    · exact kt hC (by rw [show (if a = b then x else y) = _ from if_pos ((on_i_eq hr.1 hr.2).mp h)] at hx; exact hx) H locs ls hP hS hl
    · exact kf hC (by rw [show (if a = b then x else y) = _ from if_neg (fun q => h ((on_i_eq hr.1 hr.2).mpr q))] at hx; exact hx) H locs ls hP hS hl
  · rw [if_neg hr] at hx
    cases hx
theorem on_if_eq {off : Int} (hd : on_dq cc pc 3 pc2 (.ifCond .eq off)) (ht : (pc : Int) + off = (tgt : Int)) (kf : on_G X E cc own rt fr lo nL z n σ y pc2 lv rest) (kt : on_G X E cc own rt fr lo nL z n σ x tgt lv rest) : on_G X E cc own rt fr lo nL z n σ (on_Eq a 0 x y) pc lv (.int (on_i a) :: rest) := by
  obtain ⟨p, e, R, s, m, args, below, meth, c, out⟩ := X
  intro hC hx H locs ls hP hS hl
  obtain ⟨cx, cb, cm, co, ct, cK, cE, ck, cr, cR, cz⟩ := id hC
  obtain ⟨hd, rfl⟩ := hd
  unfold on_Eq at hx
  by_cases hr : on_R a ∧ on_R 0
  · rw [if_pos hr] at hx
    have e0 : (0 : Int32) = on_i 0 := rfl
    refine lv_if_eq cx cb hd ht (fun h => ?_) (fun h => ?_)
    · exact kt hC (by rw [show (if a = 0 then x else y) = _ from if_pos ((on_i_eq hr.1 hr.2).mp h)] at hx; exact hx) H locs ls hP hS hl
    · exact kf hC (by rw [show (if a = 0 then x else y) = _ from if_neg (fun q => h ((on_i_eq hr.1 hr.2).mpr q))] at hx; exact hx) H locs ls hP hS hl
  · rw [if_neg hr] at hx
    cases hx
theorem on_icmp_ne {off : Int} (hd : on_dq cc pc 3 pc2 (.if_icmp .ne off)) (ht : (pc : Int) + off = (tgt : Int)) (kf : on_G X E cc own rt fr lo nL z n σ x pc2 lv rest) (kt : on_G X E cc own rt fr lo nL z n σ y tgt lv rest) : on_G X E cc own rt fr lo nL z n σ (on_Eq a b x y) pc lv (.int (on_i b) :: .int (on_i a) :: rest) := by
  obtain ⟨p, e, R, s, m, args, below, meth, c, out⟩ := X
  intro hC hx H locs ls hP hS hl
  obtain ⟨cx, cb, cm, co, ct, cK, cE, ck, cr, cR, cz⟩ := id hC
  obtain ⟨hd, rfl⟩ := hd
  unfold on_Eq at hx
  by_cases hr : on_R a ∧ on_R b
  · rw [if_pos hr] at hx
    refine lv_icmp_ne cx cb hd ht (fun h => ?_) (fun h => ?_)
    · exact kt hC (by rw [show (if a = b then x else y) = _ from if_neg (fun q => h ((on_i_eq hr.1 hr.2).mpr q))] at hx; exact hx) H locs ls hP hS hl
    · exact kf hC (by rw [show (if a = b then x else y) = _ from if_pos ((on_i_eq hr.1 hr.2).mp h)] at hx; exact hx) H locs ls hP hS hl
  · rw [if_neg hr] at hx
    cases hx
theorem on_if_ne {off : Int} (hd : on_dq cc pc 3 pc2 (.ifCond .ne off)) (ht : (pc : Int) + off = (tgt : Int)) (kf : on_G X E cc own rt fr lo nL z n σ x pc2 lv rest) (kt : on_G X E cc own rt fr lo nL z n σ y tgt lv rest) : on_G X E cc own rt fr lo nL z n σ (on_Eq a 0 x y) pc lv (.int (on_i a) :: rest) := by
  obtain ⟨p, e, R, s, m, args, below, meth, c, out⟩ := X
  intro hC hx H locs ls hP hS hl
  obtain ⟨cx, cb, cm, co, ct, cK, cE, ck, cr, cR, cz⟩ := id hC
  obtain ⟨hd, rfl⟩ := hd
  unfold on_Eq at hx
  by_cases hr : on_R a ∧ on_R 0
  · rw [if_pos hr] at hx
    have e0 : (0 : Int32) = on_i 0 := rfl
    refine lv_if_ne cx cb hd ht (fun h => ?_) (fun h => ?_)
    · exact kt hC (by rw [show (if a = 0 then x else y) = _ from if_neg (fun q => h ((on_i_eq hr.1 hr.2).mpr q))] at hx; exact hx) H locs ls hP hS hl
    · exact kf hC (by rw [show (if a = 0 then x else y) = _ from if_pos ((on_i_eq hr.1 hr.2).mp h)] at hx; exact hx) H locs ls hP hS hl
  · rw [if_neg hr] at hx
    cases hx
theorem on_icmp_lt {off : Int} (hd : on_dq cc pc 3 pc2 (.if_icmp .lt off)) (ht : (pc : Int) + off = (tgt : Int)) (kf : on_G X E cc own rt fr lo nL z n σ y pc2 lv rest) (kt : on_G X E cc own rt fr lo nL z n σ x tgt lv rest) : on_G X E cc own rt fr lo nL z n σ (on_Lt a b x y) pc lv (.int (on_i b) :: .int (on_i a) :: rest) := by
  obtain ⟨p, e, R, s, m, args, below, meth, c, out⟩ := X
  intro hC hx H locs ls hP hS hl
  obtain ⟨cx, cb, cm, co, ct, cK, cE, ck, cr, cR, cz⟩ := id hC
  obtain ⟨hd, rfl⟩ := hd
  unfold on_Lt at hx
  by_cases hr : on_R a ∧ on_R b
  · rw [if_pos hr] at hx
    refine lv_icmp_lt cx cb hd ht (fun h => ?_) (fun h => ?_)
    · exact kt hC (by rw [show (if a < b then x else y) = _ from if_pos ((on_i_lt hr.1 hr.2).mp h)] at hx; exact hx) H locs ls hP hS hl
    · exact kf hC (by rw [show (if a < b then x else y) = _ from if_neg (fun q => h ((on_i_lt hr.1 hr.2).mpr q))] at hx; exact hx) H locs ls hP hS hl
  · rw [if_neg hr] at hx
    cases hx
theorem on_if_lt {off : Int} (hd : on_dq cc pc 3 pc2 (.ifCond .lt off)) (ht : (pc : Int) + off = (tgt : Int)) (kf : on_G X E cc own rt fr lo nL z n σ y pc2 lv rest) (kt : on_G X E cc own rt fr lo nL z n σ x tgt lv rest) : on_G X E cc own rt fr lo nL z n σ (on_Lt a 0 x y) pc lv (.int (on_i a) :: rest) := by
  obtain ⟨p, e, R, s, m, args, below, meth, c, out⟩ := X
  intro hC hx H locs ls hP hS hl
  obtain ⟨cx, cb, cm, co, ct, cK, cE, ck, cr, cR, cz⟩ := id hC
  obtain ⟨hd, rfl⟩ := hd
  unfold on_Lt at hx
  by_cases hr : on_R a ∧ on_R 0
  · rw [if_pos hr] at hx
    have e0 : (0 : Int32) = on_i 0 := rfl
    refine lv_if_lt cx cb hd ht (fun h => ?_) (fun h => ?_)
    · exact kt hC (by rw [show (if a < 0 then x else y) = _ from if_pos ((on_i_lt hr.1 hr.2).mp h)] at hx; exact hx) H locs ls hP hS hl
    · exact kf hC (by rw [show (if a < 0 then x else y) = _ from if_neg (fun q => h ((on_i_lt hr.1 hr.2).mpr q))] at hx; exact hx) H locs ls hP hS hl
  · rw [if_neg hr] at hx
    cases hx
theorem on_icmp_ge {off : Int} (hd : on_dq cc pc 3 pc2 (.if_icmp .ge off)) (ht : (pc : Int) + off = (tgt : Int)) (kf : on_G X E cc own rt fr lo nL z n σ x pc2 lv rest) (kt : on_G X E cc own rt fr lo nL z n σ y tgt lv rest) : on_G X E cc own rt fr lo nL z n σ (on_Lt a b x y) pc lv (.int (on_i b) :: .int (on_i a) :: rest) := by
  obtain ⟨p, e, R, s, m, args, below, meth, c, out⟩ := X
  intro hC hx H locs ls hP hS hl
  obtain ⟨cx, cb, cm, co, ct, cK, cE, ck, cr, cR, cz⟩ := id hC
  obtain ⟨hd, rfl⟩ := hd
  unfold on_Lt at hx
  by_cases hr : on_R a ∧ on_R b
  · rw [if_pos hr] at hx
    refine lv_icmp_ge cx cb hd ht (fun h => ?_) (fun h => ?_)
    · exact kt hC (by rw [show (if a < b then x else y) = _ from if_neg (fun q => Int32.not_lt.mpr h ((on_i_lt hr.1 hr.2).mpr q))] at hx; exact hx) H locs ls hP hS hl
    · exact kf hC (by rw [show (if a < b then x else y) = _ from if_pos ((on_i_lt hr.1 hr.2).mp (Int32.not_le.mp h))] at hx; exact hx) H locs ls hP hS hl
  · rw [if_neg hr] at hx
    cases hx
theorem on_if_ge {off : Int} (hd : on_dq cc pc 3 pc2 (.ifCond .ge off)) (ht : (pc : Int) + off = (tgt : Int)) (kf : on_G X E cc own rt fr lo nL z n σ x pc2 lv rest) (kt : on_G X E cc own rt fr lo nL z n σ y tgt lv rest) : on_G X E cc own rt fr lo nL z n σ (on_Lt a 0 x y) pc lv (.int (on_i a) :: rest) := by
  obtain ⟨p, e, R, s, m, args, below, meth, c, out⟩ := X
  intro hC hx H locs ls hP hS hl
  obtain ⟨cx, cb, cm, co, ct, cK, cE, ck, cr, cR, cz⟩ := id hC
  obtain ⟨hd, rfl⟩ := hd
  unfold on_Lt at hx
  by_cases hr : on_R a ∧ on_R 0
  · rw [if_pos hr] at hx
    have e0 : (0 : Int32) = on_i 0 := rfl
    refine lv_if_ge cx cb hd ht (fun h => ?_) (fun h => ?_)
    · exact kt hC (by rw [show (if a < 0 then x else y) = _ from if_neg (fun q => Int32.not_lt.mpr h ((on_i_lt hr.1 hr.2).mpr q))] at hx; exact hx) H locs ls hP hS hl
    · exact kf hC (by rw [show (if a < 0 then x else y) = _ from if_pos ((on_i_lt hr.1 hr.2).mp (Int32.not_le.mp h))] at hx; exact hx) H locs ls hP hS hl
  · rw [if_neg hr] at hx
    cases hx
theorem on_icmp_le {off : Int} (hd : on_dq cc pc 3 pc2 (.if_icmp .le off)) (ht : (pc : Int) + off = (tgt : Int)) (kf : on_G X E cc own rt fr lo nL z n σ y pc2 lv rest) (kt : on_G X E cc own rt fr lo nL z n σ x tgt lv rest) : on_G X E cc own rt fr lo nL z n σ (on_Le a b x y) pc lv (.int (on_i b) :: .int (on_i a) :: rest) := by
  obtain ⟨p, e, R, s, m, args, below, meth, c, out⟩ := X
  intro hC hx H locs ls hP hS hl
  obtain ⟨cx, cb, cm, co, ct, cK, cE, ck, cr, cR, cz⟩ := id hC
  obtain ⟨hd, rfl⟩ := hd
  unfold on_Le at hx
  by_cases hr : on_R a ∧ on_R b
  · rw [if_pos hr] at hx
    refine lv_icmp_le cx cb hd ht (fun h => ?_) (fun h => ?_)
    · exact kt hC (by rw [show (if a ≤ b then x else y) = _ from if_pos ((on_i_le hr.1 hr.2).mp h)] at hx; exact hx) H locs ls hP hS hl
    · exact kf hC (by rw [show (if a ≤ b then x else y) = _ from if_neg (fun q => h ((on_i_le hr.1 hr.2).mpr q))] at hx; exact hx) H locs ls hP hS hl
  · rw [if_neg hr] at hx
    cases hx
theorem on_if_le {off : Int} (hd : on_dq cc pc 3 pc2 (.ifCond .le off)) (ht : (pc : Int) + off = (tgt : Int)) (kf : on_G X E cc own rt fr lo nL z n σ y pc2 lv rest) (kt : on_G X E cc own rt fr lo nL z n σ x tgt lv rest) : on_G X E cc own rt fr lo nL z n σ (on_Le a 0 x y) pc lv (.int (on_i a) :: rest) := by
  obtain ⟨p, e, R, s, m, args, below, meth, c, out⟩ := X
  intro hC hx H locs ls hP hS hl
  obtain ⟨cx, cb, cm, co, ct, cK, cE, ck, cr, cR, cz⟩ := id hC
  obtain ⟨hd, rfl⟩ := hd
  unfold on_Le at hx
  by_cases hr : on_R a ∧ on_R 0
  · rw [if_pos hr] at hx
    have e0 : (0 : Int32) = on_i 0 := rfl
    refine lv_if_le cx cb hd ht (fun h => ?_) (fun h => ?_)
    · exact kt hC (by rw [show (if a ≤ 0 then x else y) = _ from if_pos ((on_i_le hr.1 hr.2).mp h)] at hx; exact hx) H locs ls hP hS hl
    · exact kf hC (by rw [show (if a ≤ 0 then x else y) = _ from if_neg (fun q => h ((on_i_le hr.1 hr.2).mpr q))] at hx; exact hx) H locs ls hP hS hl
  · rw [if_neg hr] at hx
    cases hx
theorem on_icmp_gt {off : Int} (hd : on_dq cc pc 3 pc2 (.if_icmp .gt off)) (ht : (pc : Int) + off = (tgt : Int)) (kf : on_G X E cc own rt fr lo nL z n σ x pc2 lv rest) (kt : on_G X E cc own rt fr lo nL z n σ y tgt lv rest) : on_G X E cc own rt fr lo nL z n σ (on_Le a b x y) pc lv (.int (on_i b) :: .int (on_i a) :: rest) := by
  obtain ⟨p, e, R, s, m, args, below, meth, c, out⟩ := X
  intro hC hx H locs ls hP hS hl
  obtain ⟨cx, cb, cm, co, ct, cK, cE, ck, cr, cR, cz⟩ := id hC
  obtain ⟨hd, rfl⟩ := hd
  unfold on_Le at hx
  by_cases hr : on_R a ∧ on_R b
  · rw [if_pos hr] at hx
    refine lv_icmp_gt cx cb hd ht (fun h => ?_) (fun h => ?_)
    · exact kt hC (by rw [show (if a ≤ b then x else y) = _ from if_neg (fun q => Int32.not_le.mpr h ((on_i_le hr.1 hr.2).mpr q))] at hx; exact hx) H locs ls hP hS hl
    · exact kf hC (by rw [show (if a ≤ b then x else y) = _ from if_pos ((on_i_le hr.1 hr.2).mp (Int32.not_lt.mp h))] at hx; exact hx) H locs ls hP hS hl
  · rw [if_neg hr] at hx
    cases hx
theorem on_if_gt {off : Int} (hd : on_dq cc pc 3 pc2 (.ifCond .gt off)) (ht : (pc : Int) + off = (tgt : Int)) (kf : on_G X E cc own rt fr lo nL z n σ x pc2 lv rest) (kt : on_G X E cc own rt fr lo nL z n σ y tgt lv rest) : on_G X E cc own rt fr lo nL z n σ (on_Le a 0 x y) pc lv (.int (on_i a) :: rest) := by
  obtain ⟨p, e, R, s, m, args, below, meth, c, out⟩ := X
  intro hC hx H locs ls hP hS hl
  obtain ⟨cx, cb, cm, co, ct, cK, cE, ck, cr, cR, cz⟩ := id hC
  obtain ⟨hd, rfl⟩ := hd
  unfold on_Le at hx
  by_cases hr : on_R a ∧ on_R 0
  · rw [if_pos hr] at hx
    have e0 : (0 : Int32) = on_i 0 := rfl
    refine lv_if_gt cx cb hd ht (fun h => ?_) (fun h => ?_)
    · exact kt hC (by rw [show (if a ≤ 0 then x else y) = _ from if_neg (fun q => Int32.not_le.mpr h ((on_i_le hr.1 hr.2).mpr q))] at hx; exact hx) H locs ls hP hS hl
    · exact kf hC (by rw [show (if a ≤ 0 then x else y) = _ from if_pos ((on_i_le hr.1 hr.2).mp (Int32.not_lt.mp h))] at hx; exact hx) H locs ls hP hS hl
  · rw [if_neg hr] at hx
    cases hx
end ON7
