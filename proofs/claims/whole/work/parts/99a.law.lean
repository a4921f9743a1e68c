/-! THE CLAIM OUT OF ONE WALK OF THE LAW'S BODY. Your part is whole_start (and what it stands on); all else here is the same for every law, but numbers. -/
def R_law : String := "OppositeNetsLaw"
def lw_P (b : Addr) (xs : List Int32) (args : Array Value) (s : State) : Prop := args = #[.ref b] ∧ s.IntsAt b xs ∧ xs.length ≤ 3072 ∧ (Jvm.Cond.and given_1 narrow_1).before args s = true
def lw_Q (_ : Array Value) (s : State) (o : Outcome) (t : State) : Prop := o = .returned (some (.int 1)) ∧ Framed s o t [] 600000 7302250
def lw_Z (below : List Frame) (a : Array Value) (s : State) : State → Prop := fun t => ∃ o, t.status = .running ∧ Ended t below o ∧ lw_Q a s o t
/-- the law's own end, with 1 on the stack, nothing written that was there before, its room as the claim has it -/
theorem lw_ret {p : Program} {l : Launch} {e : Env} {s : State} {m : MethodId} {below : List Frame} {meth : Method} {c : Code} {b : Nat} (hx : p.tables.exec = Jvm.exec) (hb : c.code = code) (hr : meth.sig.returnType = ret) (hlocks : meth.locks = false) {pc : Nat} {H : Heap} {ls : Array Slot} (hdg : decode code pc = .ok (.ireturn, 1)) : W p l e room_1 s m #[Value.ref b] below meth c H [] 600000 7302250 (lw_Z below #[Value.ref b] s) (F0 m pc ls [.int 1]) := by
  intro T hT X
  obtain ⟨fs, hret, hrun, hended, hW, hframe⟩ := X.leave (v := some (.int 1)) (hlocks := hlocks) (fun h => by rw [hr] at h; cases h)
  have hmeth' : T.vm.method? m = some meth := X.method'
  refine ⟨T.setFrames fs, ?_, .returned (some (.int 1)), hrun, hended, rfl, ⟨_, rfl⟩, hW, hframe⟩
  jvm_step X.here [X.here.top, hx, hb, hdg, hmeth', hr, ret, narrow_b1]
  (try refine ⟨rfl, ?_⟩); (try refine ⟨rfl, ?_⟩)
  first | (intro acts; rw [hret _ acts rfl rfl rfl]) | rw [hret _ _ rfl rfl rfl]
  exact Steps.refl _
/-- what holds at the law's entry: the machine, the code, the tables' words (any of lw_tbl by 'hts w (by decide +kernel)'), the script of L ints xs at the cell b, what the Statement gives of the start (any of its parts by flat_of_before) -/
def lw_At (p : Program) (s : State) (m : MethodId) (meth : Method) (c : Code) (b L : Nat) (xs : Nat → Int32) : Prop :=
  p.tables.exec = Jvm.exec ∧ c.code = code ∧ meth.sig.returnType = ret ∧ c.maxLocals = 4 ∧ s.vm.findClass R_law = some m.cls ∧ (∀ w ∈ lw_tbl, w.before #[Value.ref b] s = true) ∧ va_X b L xs s s.heap ∧ b < s.heap.size ∧ meth.locks = false ∧ (Jvm.Cond.and given_1 narrow_1).before #[Value.ref b] s = true
/-! what the Statement gives of the start: texts, words, statics -/
def on_sk : List Nat := [131, 137, 144, 88, 93, 166, 98, 178, 187, 191, 193, 103, 108, 113, 118, 219, 123]
def on_mk : List Nat := [241, 243, 245, 208, 210, 224, 212, 184, 192, 198, 200, 214, 216, 218, 220, 239, 222]
def on_tm (i : Nat) : Term := .string "OppositeNets$Reader" (on_sk.getD i 0)
def on_tn (i : Nat) : Term := .string "OppositeNetsModel" (on_mk.getD i 0)
def on_gv : List Cond := flatC (Jvm.Cond.and given_1 narrow_1)
theorem on_g1 : ∀ i : Nat, i < 17 → Cond.exactly (on_tm i) "java/lang/String" ∈ on_gv := by decide +kernel
theorem on_g2 : ∀ i : Nat, i < 17 → Cond.eq (.field (on_tm i) "java/lang/String" "coder" "B") (.int 0) ∈ on_gv := by decide +kernel
theorem on_g3 : ∀ i : Nat, i < 17 → Cond.arrayOf (.field (on_tm i) "java/lang/String" "value" "[B") .byte ∈ on_gv := by decide +kernel
theorem on_g4 : ∀ i : Nat, i < 17 → Cond.eq (.length (.field (on_tm i) "java/lang/String" "value" "[B")) (.int (Int32.ofNat (on_len.getD i 0))) ∈ on_gv := by decide +kernel
theorem on_g5 : ∀ i : Nat, i < 17 → ∀ j : Nat, j < on_len.getD i 0 → Cond.eq (.elem (.field (on_tm i) "java/lang/String" "value" "[B") (.int (Int32.ofNat j))) (.int ((on_byt.getD i []).getD j 0)) ∈ on_gv := by decide +kernel
theorem on_g6 : ∀ i : Nat, i < 17 → Cond.eq (on_tm i) (on_tn i) ∈ on_gv := by decide +kernel
theorem on_g7 : Cond.eq (.static "java/lang/String" "COMPACT_STRINGS" "Z") (.int 1) ∈ on_gv := by decide +kernel
theorem on_g8 : Cond.isRef (.static "jdk/internal/util/Preconditions" "SIOOBE_FORMATTER" "Ljava/util/function/BiFunction;") ∈ on_gv := by decide +kernel
theorem on_g9 : ∀ q ∈ on_strs, q.2.2.2 < 17 ∧ ((q.1 = "OppositeNets$Reader" ∧ q.2.1 = on_sk.getD q.2.2.2 0) ∨ (q.1 = "OppositeNetsModel" ∧ q.2.1 = on_mk.getD q.2.2.2 0)) := by decide +kernel
theorem on_gs : ∀ q ∈ on_strs, Cond.stringRef q.1 q.2.1 q.2.2.1 ∈ lw_tbl := by decide +kernel
theorem on_gn : ∀ q ∈ on_nest, Cond.methodLinkNest q.1 q.2.1 q.2.2 "OppositeNets" ∈ lw_tbl := by decide +kernel
theorem on_gl1 : Cond.laysStatic "java/lang/String" "COMPACT_STRINGS" "Z" ∈ lw_tbl := by decide +kernel
theorem on_gl2 : Cond.laysStatic "jdk/internal/util/Preconditions" "SIOOBE_FORMATTER" "Ljava/util/function/BiFunction;" ∈ lw_tbl := by decide +kernel
theorem on_ga1 : Cond.arrayOver (.object "OppositeNets$Street") ∈ lw_tbl := by decide +kernel
theorem on_ga2 : Cond.arrayOver (.object "OppositeNets$Slot") ∈ lw_tbl := by decide +kernel
theorem on_Tin {w : Cond} (h : w ∈ on_T) : w ∈ lw_tbl := (List.mem_filter.mp h).1
theorem on_OF1 {o n d : String} {v w : Value} {t : Nat} {A : Nat → Prop} {U : State} {H : Heap} (h : va_OF o n d v t A U H) (h2 : va_OF o n d w t A U H) : v = w := by
  obtain ⟨cf, k, i, f, cell, a1, a2, a3, a4, a5, a6⟩ := h
  obtain ⟨cf', k', i', f', cell', b1, b2, b3, b4, b5, b6⟩ := h2
  cases a1.symm.trans b1
  cases a3.symm.trans b3
  exact Option.some.inj (a5.symm.trans b5)
theorem on_T1 {t n n2 : Nat} {f g : Nat → Int32} {A : Nat → Prop} {U : State} {H : Heap} (hn : n < 9) (hn2 : n2 < 9) (h : va_T .byte t n (fun j => .int (f j)) A U H) (h2 : va_T .byte t n2 (fun j => .int (g j)) A U H) : n = n2 ∧ ∀ j, j < n → f j = g j := by
  obtain ⟨cell, a1, a2, a3, a4, a5, a6, a7⟩ := h
  obtain ⟨cell', b1, b2, b3, b4, b5, b6, b7⟩ := h2
  cases a1.symm.trans b1
  have e : nI n = nI n2 := a5.symm.trans b5
  have e2 : n = n2 := (nI_eq (by omega) (by omega)).mp e
  refine ⟨e2, fun j hj => ?_⟩
  have h9 := (a6 j hj).symm.trans (b6 j (by omega))
  simp only [Option.some.injEq, Value.int.injEq] at h9
  exact h9
theorem on_apart : ∀ i : Nat, i < 17 → ∀ j : Nat, j < 17 → on_len.getD i 0 = on_len.getD j 0 → (∀ q : Nat, q < on_len.getD i 0 → (on_byt.getD i []).getD q 0 = (on_byt.getD j []).getD q 0) → i = j := by decide +kernel
theorem on_Sof {args : Array Value} {s : State} {A : Nat → Prop} (hg : ∀ w ∈ on_gv, w.before args s = true) (hA : ∀ a : Nat, a < s.heap.size → ¬ A a) : ∃ adK adV : Nat → Nat, vk_S 17 on_len on_byt adK adV A s s.heap ∧ ∀ i : Nat, i < 17 → (on_tm i).eval args s none [] s = some (.ref (adK i)) := by
  have h0 : ∀ i : Nat, ∃ q : Nat × Nat, i < 17 → (on_tm i).eval args s none [] s = some (.ref q.1) ∧ va_O "java/lang/String" q.1 A s s.heap ∧ va_OF "java/lang/String" "coder" "B" (.int 0) q.1 A s s.heap ∧ va_OF "java/lang/String" "value" "[B" (.ref q.2) q.1 A s s.heap ∧ va_T .byte q.2 (on_len.getD i 0) (fun j => .int ((on_byt.getD i []).getD j 0)) A s s.heap := by
    intro i
    by_cases hi : i < 17
    · have z : ∀ j : Nat, j < 1 → j = 0 := fun j hj => by omega
      obtain ⟨k, v, ⟨h1, -⟩, h2⟩ := vk_Sof (args := args) (s := s) (N := 1) (tm := fun _ => on_tm i) (len := [on_len.getD i 0]) (byt := [on_byt.getD i []]) (A := A) (fun j hj => by
          have := on_len_ok i
          rw [z j hj]
          show on_len.getD i 0 < 2 ^ 31
          omega) (fun _ _ => hg _ (on_g1 i hi)) (fun _ _ => hg _ (on_g2 i hi)) (fun _ _ => hg _ (on_g3 i hi)) (fun j hj => by
          rw [z j hj]
          exact hg _ (on_g4 i hi)) (fun j hj k hk => by
          rw [z j hj] at hk ⊢
          exact hg _ (on_g5 i hi k hk)) (fun j k hj hk h => absurd ((z j hj).trans (z k hk).symm) h) hA
      exact ⟨(k 0, v 0), fun _ => ⟨h2 0 (by omega), h1 0 (by omega)⟩⟩
    · exact ⟨(0, 0), fun h => absurd h hi⟩
  obtain ⟨ad, had⟩ := Classical.axiomOfChoice h0
  refine ⟨fun i => (ad i).1, fun i => (ad i).2, ⟨fun i hi => (had i hi).2, fun i j hi hj e => ?_⟩, fun i hi => (had i hi).1⟩
  obtain ⟨-, -, -, c1, d1⟩ := had i hi
  obtain ⟨-, -, -, c2, d2⟩ := had j hj
  have e : (ad i).1 = (ad j).1 := e
  rw [e] at c1
  have e2 := on_OF1 c1 c2
  simp only [Value.ref.injEq] at e2
  rw [e2] at d1
  obtain ⟨g1, g2⟩ := on_T1 (on_len_ok i) (on_len_ok j) d1 d2
  exact on_apart i hi j hj g1 g2
theorem on_Ex0 {b : Addr} {s : State} (hg : ∀ w ∈ on_gv, w.before #[Value.ref b] s = true) (hts : ∀ w ∈ lw_tbl, w.before #[Value.ref b] s = true) : ∃ sa sb : Nat → Nat, ∀ (l : Launch) (D : va_G) (ca : Nat → ClassId), on_Ex (l, D, ca, sa, sb) s.heap.size s := by
  have hA : ∀ a : Nat, a < s.heap.size → ¬ (fun q : Nat => s.heap.size ≤ q) a := fun a h => by show ¬ s.heap.size ≤ a; omega
  obtain ⟨sa, sb, hS, hev⟩ := on_Sof hg hA
  refine ⟨sa, sb, fun l D ca => ⟨fun q hq => ?_, hS, ?_, fun q hq => va_Nw.of rfl (hts _ (on_gn q hq)), ?_⟩⟩
  · refine vk_R.of (hts _ (on_gs q hq)) ?_
    obtain ⟨h1, ⟨h2, h3⟩ | ⟨h2, h3⟩⟩ := on_g9 q hq
    · rw [h2, h3]
      exact hev _ h1
    · rw [h2, h3]
      exact va_eqR (hg _ (on_g6 _ h1)) (hev _ h1)
  · exact va_Zof (hts _ on_gl1) (hts _ (on_Tin kw_1_16)) (va_eqi (hg _ on_g7)) hA
  · exact va_Zqof (hts _ on_gl2) (hts _ (on_Tin kw_1_18)) (hg _ on_g8) hA
theorem on_i0 : Cond.instantiable RX0 2 ∈ on_T := by decide +kernel
theorem on_i1 : Cond.instantiable RX1 9 ∈ on_T := by decide +kernel
theorem on_i2 : Cond.instantiable RX2 4 ∈ on_T := by decide +kernel
theorem on_i3 : Cond.instantiable RX3 6 ∈ on_T := by decide +kernel
theorem on_i4 : Cond.instantiable RX4 6 ∈ on_T := by decide +kernel
theorem on_i5 : Cond.instantiable RX5 4 ∈ on_T := by decide +kernel
theorem on_i6 : Cond.instantiable RX6 10 ∈ on_T := by decide +kernel
theorem on_i7 : Cond.instantiable RX7 6 ∈ on_T := by decide +kernel
theorem on_i8 : Cond.instantiable RX8 3 ∈ on_T := by decide +kernel
theorem on_i9 : Cond.instantiable RX9 16 ∈ on_T := by decide +kernel
theorem on_i10 : Cond.instantiable RX10 5 ∈ on_T := by decide +kernel
theorem on_i11 : Cond.instantiable RX11 12 ∈ on_T := by decide +kernel
theorem on_i12 : Cond.instantiable RX12 37 ∈ on_T := by decide +kernel
theorem on_ar0 : Cond.arrayClass .int ∈ on_T := kw_1_79
theorem on_ar1 : Cond.arrayClass .byte ∈ on_T := kw_1_78
theorem on_ar2 : Cond.arrayClass .long ∈ on_T := by decide +kernel
theorem on_ar3 : Cond.arrayClass .boolean ∈ on_T := kw_7_12
theorem on_arr {b : Addr} {s : State} {ty : FieldType} (h : (Cond.arrayClass ty).before #[Value.ref b] s = true) : ∃ c : ClassId, ArrOfT s c ty ∧ s.vm.findClass ("[" ++ ty.toString) = some c := by
  obtain ⟨cA, kA, comp, hf, hk, hkind⟩ := Cond.arrayClass_spec h
  exact ⟨cA, fun n z => ⟨fun k q => (by cases q), kA, hk, comp, hkind⟩, hf⟩
theorem on_arq {b : Addr} {s : State} {C : String} (h : (Cond.arrayOver (.object C)).before #[Value.ref b] s = true) : ∃ c : ClassId, ArrOfT s c (.object C) ∧ va_RA s c (.object C) := by
  obtain ⟨comp, c, k, h1, h2, h3, h4, h5⟩ := Cond.arrayOver_spec h
  exact ⟨c, fun n z => ⟨fun k q => (by cases q), k, h3, comp, h4⟩, k, comp, h3, h4, h1, h5⟩
theorem on_K0 {b : Addr} {s : State} (hts : ∀ w ∈ lw_tbl, w.before #[Value.ref b] s = true) : ∃ (D : va_G) (ca : Nat → ClassId), ∀ (l : Launch) (sa sb : Nat → Nat), va_K D vwCl (on_tys (l, D, ca, sa, sb)) s := by
  have ct : ∀ w ∈ on_T, w.before #[Value.ref b] s = true := fun w hw => hts w (on_Tin hw)
  have h0 : ∀ k : Nat, ∃ d : ClassId × (Nat → Nat), ∀ q : vw_C, vwCl[k]? = some q → u_Kn s q.1 q.2.1 q.2.2 d.1 d.2 := by
    intro k
    by_cases hk : k < 13
    · rcases (show k = 0 ∨ k = 1 ∨ k = 2 ∨ k = 3 ∨ k = 4 ∨ k = 5 ∨ k = 6 ∨ k = 7 ∨ k = 8 ∨ k = 9 ∨ k = 10 ∨ k = 11 ∨ k = 12 by omega) with h | h | h | h | h | h | h | h | h | h | h | h | h <;> subst h
      · obtain ⟨c, i, h⟩ := u_known ct on_in0 (ct _ on_i0)
        exact ⟨(c, i), fun q hq => by cases hq; exact h⟩
      · obtain ⟨c, i, h⟩ := u_known ct on_in1 (ct _ on_i1)
        exact ⟨(c, i), fun q hq => by cases hq; exact h⟩
      · obtain ⟨c, i, h⟩ := u_known ct on_in2 (ct _ on_i2)
        exact ⟨(c, i), fun q hq => by cases hq; exact h⟩
      · obtain ⟨c, i, h⟩ := u_known ct on_in3 (ct _ on_i3)
        exact ⟨(c, i), fun q hq => by cases hq; exact h⟩
      · obtain ⟨c, i, h⟩ := u_known ct on_in4 (ct _ on_i4)
        exact ⟨(c, i), fun q hq => by cases hq; exact h⟩
      · obtain ⟨c, i, h⟩ := u_known ct on_in5 (ct _ on_i5)
        exact ⟨(c, i), fun q hq => by cases hq; exact h⟩
      · obtain ⟨c, i, h⟩ := u_known ct on_in6 (ct _ on_i6)
        exact ⟨(c, i), fun q hq => by cases hq; exact h⟩
      · obtain ⟨c, i, h⟩ := u_known ct on_in7 (ct _ on_i7)
        exact ⟨(c, i), fun q hq => by cases hq; exact h⟩
      · obtain ⟨c, i, h⟩ := u_known ct on_in8 (ct _ on_i8)
        exact ⟨(c, i), fun q hq => by cases hq; exact h⟩
      · obtain ⟨c, i, h⟩ := u_known ct on_in9 (ct _ on_i9)
        exact ⟨(c, i), fun q hq => by cases hq; exact h⟩
      · obtain ⟨c, i, h⟩ := u_known ct on_in10 (ct _ on_i10)
        exact ⟨(c, i), fun q hq => by cases hq; exact h⟩
      · obtain ⟨c, i, h⟩ := u_known ct on_in11 (ct _ on_i11)
        exact ⟨(c, i), fun q hq => by cases hq; exact h⟩
      · obtain ⟨c, i, h⟩ := u_known ct on_in12 (ct _ on_i12)
        exact ⟨(c, i), fun q hq => by cases hq; exact h⟩
    · refine ⟨(0, fun _ => 0), fun q hq => absurd (List.getElem?_eq_some_iff.mp hq).1 (by show ¬ k < 13; exact hk)⟩
  obtain ⟨d, hd⟩ := Classical.axiomOfChoice h0
  obtain ⟨c0, a0, b0⟩ := on_arr (ct _ on_ar0)
  obtain ⟨c1, a1, b1⟩ := on_arr (ct _ on_ar1)
  obtain ⟨c2, a2, b2⟩ := on_arr (ct _ on_ar2)
  obtain ⟨c3, a3, b3⟩ := on_arr (ct _ on_ar3)
  obtain ⟨c4, a4, b4⟩ := on_arq (hts _ on_ga1)
  obtain ⟨c5, a5, b5⟩ := on_arq (hts _ on_ga2)
  refine ⟨(fun k => (d k).1, fun k => (d k).2), fun k => [c0, c1, c2, c3, c4, c5].getD k 0, fun l sa sb => ⟨fun k q hq => hd k q hq, fun k q hq => ?_⟩⟩
  have hk : k < 6 := (List.getElem?_eq_some_iff.mp hq).1
  rcases (show k = 0 ∨ k = 1 ∨ k = 2 ∨ k = 3 ∨ k = 4 ∨ k = 5 by omega) with h | h | h | h | h | h <;> subst h <;> cases hq
  · exact ⟨a0, b0⟩
  · exact ⟨a1, b1⟩
  · exact ⟨a2, b2⟩
  · exact ⟨a3, b3⟩
  · exact ⟨a4, b4⟩
  · exact ⟨a5, b5⟩
