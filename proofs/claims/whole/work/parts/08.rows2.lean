theorem on_sh_lt (c : Nat) : (on_sh c).2 < 30000 := by
  have h1 : ∀ k, k < 100 → (on_shT.getD k (9, 0)).2 < 30000 := by decide +kernel
  have h2 : ∀ k, k < 25 → (on_shS.getD k (9, 0)).2 < 30000 := by decide +kernel
  unfold on_sh
  split
  · exact h1 c (by assumption)
  · exact h2 _ (Nat.mod_lt _ (by decide))
theorem on_shN {c k N : Nat} (h : on_sh c = (k, N)) : N < 2147483648 := by
  have h1 := on_sh_lt c
  rw [h] at h1
  have h2 : N < 30000 := h1
  omega
def on_Gt (σ : on_S) (c : Nat) (k : Int) (kk : Int → Option on_O) : Option on_O := kk (σ c k)
def on_Pt (σ : on_S) (c : Nat) (k v : Int) (kk : on_S → Option on_O) : Option on_O := kk (on_st σ c k v)
def on_N : Nat := 100000
def on_Ix (N : Nat) (i : Int) (k : Nat → Option on_O) : Option on_O := if 0 ≤ i ∧ i < N then k i.toNat else none
/-- a copy of m places, from place sp of the cell c0 to place dp of c1 -/
def on_cp (σ : on_S) (c0 : Nat) (sp : Int) (c1 : Nat) (dp m : Int) : on_S := on_sr σ c1 fun j => if dp ≤ j ∧ j < dp + m then σ c0 (sp + (j - dp)) else σ c1 j
def on_Cp (σ : on_S) (c0 n0 : Nat) (sp : Int) (c1 n1 : Nat) (dp m : Int) (k : on_S → Option on_O) : Option on_O := if 0 ≤ sp ∧ 0 ≤ dp ∧ 0 ≤ m ∧ sp + m ≤ n0 ∧ dp + m ≤ n1 then k (on_cp σ c0 sp c1 dp m) else none
def on_sw (a : Int) (i : Int) : List (Option on_O) → Option on_O → Option on_O
  | [], d => d
  | x :: xs, d => on_Eq a i x (on_sw a (i + 1) xs d)
theorem on_sw_out {out : on_O} {a : Int} : ∀ (xs : List (Option on_O)) (i : Int) (d : Option on_O), on_sw a i xs d = some out → (∃ j : Nat, a = i + j ∧ ∃ x, xs[j]? = some x ∧ x = some out) ∨ ((∀ j : Nat, j < xs.length → a ≠ i + j) ∧ d = some out)
  | [], i, d, h => Or.inr ⟨fun j hj => absurd hj (Nat.not_lt_zero _), h⟩
  | x :: xs, i, d, h => by
    unfold on_sw on_Eq at h
    by_cases hr : on_R a ∧ on_R i
    · rw [if_pos hr] at h
      by_cases e : a = i
      · rw [if_pos e] at h
        exact Or.inl ⟨0, by simpa using e, x, rfl, h⟩
      · rw [if_neg e] at h
        rcases on_sw_out xs (i + 1) d h with ⟨j, e1, y, e2, e3⟩ | ⟨h1, h2⟩
        · exact Or.inl ⟨j + 1, by rw [e1]; push_cast; omega, y, by simpa using e2, e3⟩
        · refine Or.inr ⟨fun j hj => ?_, h2⟩
          cases j with
          | zero => simpa using e
          | succ j =>
            have := h1 j (by simpa using hj)
            intro q
            apply this
            rw [q]; push_cast; omega
    · rw [if_neg hr] at h
      cases h
theorem on_sw_R {out : on_O} {a i : Int} {x : Option on_O} {xs : List (Option on_O)} {d : Option on_O} (h : on_sw a i (x :: xs) d = some out) : on_R a := by
  unfold on_sw on_Eq at h
  by_cases hr : on_R a ∧ on_R i
  · exact hr.1
  · rw [if_neg hr] at h
    cases h
/-- a method that may be called: its code, that it is an instance's, its class, its parameters -/
def on_Mv (y : MethodName) (cy : ByteArray) (ny : Nat) (rt : Option FieldType) (na : Nat) : Prop := Cond.code y cy ny rt ∈ on_T ∧ Cond.instanceMethod y ∈ on_T ∧ Cond.selects y.cls y y ∈ on_T ∧ Cond.initialized y.cls ∈ on_T ∧ y.cls ≠ "java/lang/invoke/MethodHandle" ∧ y.cls ≠ "java/lang/invoke/VarHandle" ∧ (parseMethodDescriptor y.desc).map (fun d => d.parameters.length) = some na
def on_Ms (y : MethodName) (cy : ByteArray) (ny : Nat) (rt : Option FieldType) (na : Nat) : Prop := Cond.code y cy ny rt ∈ on_T ∧ Cond.static y ∈ on_T ∧ Cond.initialized y.cls ∈ on_T ∧ y.cls ≠ "java/lang/invoke/MethodHandle" ∧ y.cls ≠ "java/lang/invoke/VarHandle" ∧ (parseMethodDescriptor y.desc).map (fun d => d.parameters.length) = some na
/-- room for a call: frames and locals' words of the callee, what lies on the stack below -/
def on_ok (f2 n2 l2 fr lo : Nat) (rest : List Value) : Bool := Nat.ble (f2 + 1) fr && Nat.ble (8 + (n2 + 11) + l2) lo && Nat.ble ((rest.map fun v => v.category).sum) 8
theorem on_U_blind {E : on_E} {z n : Nat} {σ : on_S} {av : List Value} : FrameBlind (va_Pc av (on_U E z n σ)) := by
  intro a U g mk h
  obtain ⟨h1, h2, h3, h4⟩ := h
  refine ⟨h1, h2, va_K.moved (u := U) (U := U.calling g mk a) (Vm.Alike.refl U.vm) h3, on_Ex.same (u := U) rfl rfl h4⟩
theorem on_sr_st (σ : on_S) (c : Nat) (i v : Int) : on_sr σ c (on_st σ c i v c) = on_st σ c i v := by
  funext c' j
  by_cases h : c' = c
  · subst h; simp [on_st, on_sr]
  · simp [on_st, on_sr, h]
/-- where nothing is made, the heap's size stays -/
theorem on_size {p : Program} {l : Launch} {e : Env} {R : Room} {s : State} {m : MethodId} {args : Array Value} {below : List Frame} {meth : Method} {c : Code} {H : Heap} {locs : List Loc} {sl : Nat} {Q : State → Prop} {g : JFrame} {k : Nat} (hk : s.heap.size = k) (h : H.size = k → W p l e R s m args below meth c H locs 0 sl Q g) : W p l e R s m args below meth c H locs 0 sl Q g := by
  intro T hT X
  have h1 : s.heap.size ≤ T.heap.size := X.same.2.1
  have h2 : T.heap.size ≤ s.heap.size + 0 := X.same.2.2.1
  refine h ?_ T hT X
  rw [← hT, ← hk]
  exact Nat.le_antisymm h2 h1
theorem on_ce0 {E : on_E} {z c ci : Nat} {r : Int → Int} (h : on_sh c = (0, ci)) : on_ce E z c r = .inr (ci, on_fl z c ci r) := by simp only [on_ce, h]
theorem on_ce1 {E : on_E} {z c N : Nat} {r : Int → Int} (h : on_sh c = (1, N)) : on_ce E z c r = .inl (on_ca E 0, N, .inl fun j => on_i (r j)) := by simp only [on_ce, h]
theorem on_ce2 {E : on_E} {z c N : Nat} {r : Int → Int} (h : on_sh c = (2, N)) : on_ce E z c r = .inl (on_ca E 1, N, .inl fun j => on_i (r j)) := by simp only [on_ce, h]
theorem on_ce3 {E : on_E} {z c N : Nat} {r : Int → Int} (h : on_sh c = (3, N)) : on_ce E z c r = .inl (on_ca E 2, N, .inr (.inl fun j => on_l (r j))) := by simp only [on_ce, h]
theorem on_ce4 {E : on_E} {z c N : Nat} {r : Int → Int} (h : on_sh c = (4, N)) : on_ce E z c r = .inl (on_ca E 3, N, .inl fun j => on_i (r j)) := by simp only [on_ce, h]
theorem on_ce5 {E : on_E} {z c N : Nat} {r : Int → Int} (h : on_sh c = (5, N)) : on_ce E z c r = .inl (on_ca E 4, N, .inr (.inr (.inr (.inr (on_rr z r))))) := by simp only [on_ce, h]
theorem on_ce6 {E : on_E} {z c N : Nat} {r : Int → Int} (h : on_sh c = (6, N)) : on_ce E z c r = .inl (on_ca E 5, N, .inr (.inr (.inr (.inr fun j => some (z + (69 + 2 * j)))))) := by simp only [on_ce, h]
theorem on_upd_i {σ : on_S} {c : Nat} {i v : Int} (h0 : 0 ≤ i) (h1 : i < 2147483648) : upd (fun j : Nat => on_i (σ c j)) (on_i i).toNatClampNeg (on_i v) = fun j : Nat => on_i (on_st σ c i v c j) := by
  funext j
  have e := on_i_nat h0 h1
  unfold upd on_st
  by_cases h : j = (on_i i).toNatClampNeg
  · have h2 : (j : Int) = i := by rw [h]; exact e
    rw [if_pos h, if_pos ⟨rfl, h2⟩]
  · have h2 : ¬ (j : Int) = i := fun q => h (by omega)
    rw [if_neg h, if_neg (fun q => h2 q.2)]
theorem on_upd_l {σ : on_S} {c : Nat} {i v : Int} (h0 : 0 ≤ i) (h1 : i < 2147483648) : vp_updL (fun j : Nat => on_l (σ c j)) (on_i i).toNatClampNeg (on_l v) = fun j : Nat => on_l (on_st σ c i v c j) := by
  funext j
  have e := on_i_nat h0 h1
  unfold vp_updL on_st
  by_cases h : j = (on_i i).toNatClampNeg
  · have h2 : (j : Int) = i := by rw [h]; exact e
    rw [if_pos h, if_pos ⟨rfl, h2⟩]
  · have h2 : ¬ (j : Int) = i := fun q => h (by omega)
    rw [if_neg h, if_neg (fun q => h2 q.2)]
theorem on_lgc {a b : Int} (ha : on_RL a) (hb : on_RL b) : lg_cmp (on_l a) (on_l b) = if b < a then 1 else if a = b then 0 else -1 := by
  unfold lg_cmp
  simp only [gt_iff_lt, on_l_lt hb ha, on_l_eq ha hb]
theorem on_lc {a b : Int} (ha : on_RL a) (hb : on_RL b) : (lg_cmp (on_l a) (on_l b) < 0 ↔ a < b) ∧ (lg_cmp (on_l a) (on_l b) ≤ 0 ↔ a ≤ b) ∧ (lg_cmp (on_l a) (on_l b) = 0 ↔ a = b) ∧ (0 ≤ lg_cmp (on_l a) (on_l b) ↔ b ≤ a) ∧ (0 < lg_cmp (on_l a) (on_l b) ↔ b < a) := by
  rw [on_lgc ha hb]
  rcases Int.lt_trichotomy a b with q | q | q
  · have e1 : ¬ b < a := by omega
    have e2 : ¬ a = b := by omega
    rw [if_neg e1, if_neg e2]
    exact ⟨⟨fun _ => q, fun _ => by decide⟩, ⟨fun _ => by omega, fun _ => by decide⟩, ⟨fun h => absurd h (by decide), fun h => absurd h e2⟩, ⟨fun h => absurd h (by decide), fun h => by omega⟩, ⟨fun h => absurd h (by decide), fun h => by omega⟩⟩
  · have e1 : ¬ b < a := by omega
    rw [if_neg e1, if_pos q]
    exact ⟨⟨fun h => absurd h (by decide), fun h => by omega⟩, ⟨fun _ => by omega, fun _ => by decide⟩, ⟨fun _ => q, fun _ => rfl⟩, ⟨fun _ => by omega, fun _ => by decide⟩, ⟨fun h => absurd h (by decide), fun h => by omega⟩⟩
  · rw [if_pos q]
    exact ⟨⟨fun h => absurd h (by decide), fun h => by omega⟩, ⟨fun h => absurd h (by decide), fun h => by omega⟩, ⟨fun h => absurd h (by decide), fun h => by omega⟩, ⟨fun _ => by omega, fun _ => by decide⟩, ⟨fun _ => q, fun _ => by decide⟩⟩
section ON8
variable {X : on_X} {E : on_E} {cc : ByteArray} {own : String} {rt : Option FieldType} {fr lo nL z n : Nat} {σ : on_S} {x y : Option on_O} {pc pc2 tgt : Nat} {lv : List (Option Value)} {st rest : List Value} {a b : Int}
theorem on_getg (ci k : Nat) {c2 idx : Nat} {C : String} {T : u_T} {N : Nat} {v : Value} (hin : ∀ w ∈ u_ws C T N, w ∈ on_T) (hc : vwCl[ci]? = some (C, T, N)) (hk : k < N) (hw : Cond.fieldLink own idx (T k).1 (T k).2.1 (T k).2.2.1 ∈ on_T) (hn : c2 < n) (hs : on_sh c2 = (0, ci)) (hv : (on_fl z c2 ci (σ c2))[k]? = some v) (hd : on_dq cc pc 3 pc2 (.getfield idx)) (kk : on_G X E cc own rt fr lo nL z n σ x pc2 lv (v :: rest)) : on_G X E cc own rt fr lo nL z n σ x pc lv (.ref (z + c2) :: rest) := by
  obtain ⟨p, e, R, s, m, args, below, meth, c, out⟩ := X
  intro hC hx H locs ls hP hS hl
  obtain ⟨cx, cb, cm, co, ct, cK, cE, ck, cr, cR, cz⟩ := id hC
  obtain ⟨hd, rfl⟩ := hd
  exact va_get (ref := (T k).1) cx cb ct hin co cK hP.2 c2 ((on_ws_at E z σ hn).trans (by rw [on_ce0 hs])) hc k hk (ct _ hw) (fun _ h => h) hv hd (kk hC hx H locs ls hP hS hl)
theorem on_putg (ci k : Nat) {c2 idx : Nat} {C : String} {T : u_T} {N : Nat} {kk : on_S → Option on_O} (hin : ∀ w ∈ u_ws C T N, w ∈ on_T) (ty0 : Nat → FieldType) (hty : ∀ k, k < N → parseFieldDescriptor (T k).2.2.1 = some (ty0 k)) (hnm : ∀ a, a < N → ∀ b, b < N → a ≠ b → (T a).2.1 ≠ (T b).2.1) (hc : vwCl[ci]? = some (C, T, N)) (hk : k < N) (hfin : (T k).2.2.2 = false) (hdd : parseFieldDescriptor (T k).2.2.1 = some .int) (hset : ∀ r : Int → Int, on_fl z c2 ci (fun j => if j = k then a else r j) = (on_fl z c2 ci r).set k (.int (on_i a))) (hlen : k < (on_fl z c2 ci (σ c2)).length) (hw : Cond.fieldLink own idx (T k).1 (T k).2.1 (T k).2.2.1 ∈ on_T) (hn : c2 < n) (hs : on_sh c2 = (0, ci)) (hd : on_dq cc pc 3 pc2 (.putfield idx)) (K : ∀ σ2 : on_S, on_G X E cc own rt fr lo nL z n σ2 (kk σ2) pc2 lv rest) : on_G X E cc own rt fr lo nL z n σ (kk (on_st σ c2 k a)) pc lv (.int (on_i a) :: .ref (z + c2) :: rest) := by
  obtain ⟨p, e, R, s, m, args, below, meth, c, out⟩ := X
  intro hC hx H locs ls hP hS hl
  obtain ⟨cx, cb, cm, co, ct, cK, cE, ck, cr, cR, cz⟩ := id hC
  obtain ⟨hd, rfl⟩ := hd
  refine va_put (ref := (T k).1) (ty := .int) cx cb ct hin ty0 hty hnm co cK hP.2 (on_ws_D E z n σ) hS c2 ((on_ws_at E z σ hn).trans (by rw [on_ce0 hs])) hc k hk (ct _ hw) (fun _ h => h) hfin hdd rfl rfl hlen hd (fun H1 locs1 g1 _ g3 => ?_)
  refine on_size cz (fun hz => K _ hC hx H1 locs1 ls ⟨hz, ?_⟩ g3 hl)
  have e : on_ce E z c2 (on_st σ c2 k a c2) = .inr (ci, (on_fl z c2 ci (σ c2)).set k (.int (on_i a))) := by
    have er : on_st σ c2 k a c2 = fun j => if j = (k : Int) then a else σ c2 j := by
      funext j
      simp [on_st]
    rw [on_ce0 hs, er, hset]
  rw [← e, on_ws_set E z σ _ hn, on_sr_st] at g1
  exact g1
theorem on_iald {c2 N : Nat} {i : Int} {kk : Int → Option on_O} (hn : c2 < n) (hs : on_sh c2 = (1, N)) (hd : on_dq cc pc 1 pc2 .iaload) (k : ∀ v : Int, on_G X E cc own rt fr lo nL z n σ (kk v) pc2 lv (.int (on_i v) :: rest)) : on_G X E cc own rt fr lo nL z n σ (on_Rd σ c2 N i kk) pc lv (.int (on_i i) :: .ref (z + c2) :: rest) := by
  obtain ⟨p, e, R, s, m, args, below, meth, c, out⟩ := X
  intro hC hx H locs ls hP hS hl
  obtain ⟨cx, cb, cm, co, ct, cK, cE, ck, cr, cR, cz⟩ := id hC
  obtain ⟨hd, rfl⟩ := hd
  unfold on_Rd at hx
  by_cases hr : 0 ≤ i ∧ i < (N : Int)
  · rw [if_pos hr] at hx
    have hN := on_shN hs
    refine va_iald cx cb cK hP.2 c2 0 ((on_ws_at E z σ hn).trans (by rw [on_ce1 hs])) rfl (on_i_in hr.1 hr.2 hN) hd ?_
    have e := on_i_nat hr.1 (show i < 2147483648 by omega)
    simp only [e]
    exact k _ hC hx H locs ls hP hS hl
  · rw [if_neg hr] at hx
    cases hx
theorem on_bald {c2 N : Nat} {i : Int} {kk : Int → Option on_O} (hn : c2 < n) (hs : on_sh c2 = (2, N)) (hd : on_dq cc pc 1 pc2 .baload) (k : ∀ v : Int, on_G X E cc own rt fr lo nL z n σ (kk v) pc2 lv (.int (on_i v) :: rest)) : on_G X E cc own rt fr lo nL z n σ (on_Rd σ c2 N i kk) pc lv (.int (on_i i) :: .ref (z + c2) :: rest) := by
  obtain ⟨p, e, R, s, m, args, below, meth, c, out⟩ := X
  intro hC hx H locs ls hP hS hl
  obtain ⟨cx, cb, cm, co, ct, cK, cE, ck, cr, cR, cz⟩ := id hC
  obtain ⟨hd, rfl⟩ := hd
  unfold on_Rd at hx
  by_cases hr : 0 ≤ i ∧ i < (N : Int)
  · rw [if_pos hr] at hx
    have hN := on_shN hs
    refine va_bald cx cb cK hP.2 c2 1 ((on_ws_at E z σ hn).trans (by rw [on_ce2 hs])) rfl (on_i_in hr.1 hr.2 hN) hd ?_
    have e := on_i_nat hr.1 (show i < 2147483648 by omega)
    simp only [e]
    exact k _ hC hx H locs ls hP hS hl
  · rw [if_neg hr] at hx
    cases hx
theorem on_zald {c2 N : Nat} {i : Int} {kk : Int → Option on_O} (hn : c2 < n) (hs : on_sh c2 = (4, N)) (hd : on_dq cc pc 1 pc2 .baload) (k : ∀ v : Int, on_G X E cc own rt fr lo nL z n σ (kk v) pc2 lv (.int (on_i v) :: rest)) : on_G X E cc own rt fr lo nL z n σ (on_Rd σ c2 N i kk) pc lv (.int (on_i i) :: .ref (z + c2) :: rest) := by
  obtain ⟨p, e, R, s, m, args, below, meth, c, out⟩ := X
  intro hC hx H locs ls hP hS hl
  obtain ⟨cx, cb, cm, co, ct, cK, cE, ck, cr, cR, cz⟩ := id hC
  obtain ⟨hd, rfl⟩ := hd
  unfold on_Rd at hx
  by_cases hr : 0 ≤ i ∧ i < (N : Int)
  · rw [if_pos hr] at hx
    have hN := on_shN hs
    refine va_zald cx cb cK hP.2 c2 3 ((on_ws_at E z σ hn).trans (by rw [on_ce4 hs])) rfl (on_i_in hr.1 hr.2 hN) hd ?_
    have e := on_i_nat hr.1 (show i < 2147483648 by omega)
    simp only [e]
    exact k _ hC hx H locs ls hP hS hl
  · rw [if_neg hr] at hx
    cases hx
theorem on_lald {c2 N : Nat} {i : Int} {kk : Int → Option on_O} (hn : c2 < n) (hs : on_sh c2 = (3, N)) (hd : on_dq cc pc 1 pc2 .laload) (k : ∀ v : Int, on_G X E cc own rt fr lo nL z n σ (kk v) pc2 lv (.long (on_l v) :: rest)) : on_G X E cc own rt fr lo nL z n σ (on_Rd σ c2 N i kk) pc lv (.int (on_i i) :: .ref (z + c2) :: rest) := by
  obtain ⟨p, e, R, s, m, args, below, meth, c, out⟩ := X
  intro hC hx H locs ls hP hS hl
  obtain ⟨cx, cb, cm, co, ct, cK, cE, ck, cr, cR, cz⟩ := id hC
  obtain ⟨hd, rfl⟩ := hd
  unfold on_Rd at hx
  by_cases hr : 0 ≤ i ∧ i < (N : Int)
  · rw [if_pos hr] at hx
    have hN := on_shN hs
    refine va_lald cx cb cK hP.2 c2 2 ((on_ws_at E z σ hn).trans (by rw [on_ce3 hs])) rfl (on_i_in hr.1 hr.2 hN) hd ?_
    have e := on_i_nat hr.1 (show i < 2147483648 by omega)
    simp only [e]
    exact k _ hC hx H locs ls hP hS hl
  · rw [if_neg hr] at hx
    cases hx
theorem on_iast {c2 N : Nat} {i v : Int} {kk : on_S → Option on_O} (hn : c2 < n) (hs : on_sh c2 = (1, N)) (hd : on_dq cc pc 1 pc2 .iastore) (k : ∀ σ2 : on_S, on_G X E cc own rt fr lo nL z n σ2 (kk σ2) pc2 lv rest) : on_G X E cc own rt fr lo nL z n σ (on_Wr σ c2 N i v kk) pc lv (.int (on_i v) :: .int (on_i i) :: .ref (z + c2) :: rest) := by
  obtain ⟨p, e, R, s, m, args, below, meth, c, out⟩ := X
  intro hC hx H locs ls hP hS hl
  obtain ⟨cx, cb, cm, co, ct, cK, cE, ck, cr, cR, cz⟩ := id hC
  obtain ⟨hd, rfl⟩ := hd
  unfold on_Wr at hx
  by_cases hr : 0 ≤ i ∧ i < (N : Int)
  · rw [if_pos hr] at hx
    have hN := on_shN hs
    refine va_iast cx cb cK hP.2 (on_ws_D E z n σ) hS c2 0 ((on_ws_at E z σ hn).trans (by rw [on_ce1 hs])) rfl (on_i_in hr.1 hr.2 hN) hd (fun H1 locs1 g1 _ g3 => ?_)
    refine on_size cz (fun hz => k _ hC hx H1 locs1 ls ⟨hz, ?_⟩ g3 hl)
    rw [on_upd_i hr.1 (show i < 2147483648 by omega), ← on_ce1 (E := E) (z := z) (r := on_st σ c2 i v c2) hs, on_ws_set E z σ _ hn, on_sr_st] at g1
    exact g1
  · rw [if_neg hr] at hx
    cases hx
theorem on_bast {c2 N : Nat} {i v : Int} {kk : on_S → Option on_O} (hn : c2 < n) (hs : on_sh c2 = (2, N)) (hd : on_dq cc pc 1 pc2 .bastore) (k : ∀ σ2 : on_S, on_G X E cc own rt fr lo nL z n σ2 (kk σ2) pc2 lv rest) : on_G X E cc own rt fr lo nL z n σ (on_Wr σ c2 N i (on_ib v) kk) pc lv (.int (on_i v) :: .int (on_i i) :: .ref (z + c2) :: rest) := by
  obtain ⟨p, e, R, s, m, args, below, meth, c, out⟩ := X
  intro hC hx H locs ls hP hS hl
  obtain ⟨cx, cb, cm, co, ct, cK, cE, ck, cr, cR, cz⟩ := id hC
  obtain ⟨hd, rfl⟩ := hd
  unfold on_Wr at hx
  by_cases hr : 0 ≤ i ∧ i < (N : Int)
  · rw [if_pos hr] at hx
    have hN := on_shN hs
    refine va_bast cx cb cK hP.2 (on_ws_D E z n σ) hS c2 1 ((on_ws_at E z σ hn).trans (by rw [on_ce2 hs])) rfl (on_i_in hr.1 hr.2 hN) hd (fun H1 locs1 g1 _ g3 => ?_)
    refine on_size cz (fun hz => k _ hC hx H1 locs1 ls ⟨hz, ?_⟩ g3 hl)
    rw [show vp_nar .byte (on_i v) = on_i (on_ib v) by rw [vp_nar_byte, on_ib, on_ti], on_upd_i hr.1 (show i < 2147483648 by omega), ← on_ce2 (E := E) (z := z) (r := on_st σ c2 i (on_ib v) c2) hs, on_ws_set E z σ _ hn, on_sr_st] at g1
    exact g1
  · rw [if_neg hr] at hx
    cases hx
theorem on_zast1 {c2 N : Nat} {i : Int} {kk : on_S → Option on_O} (hn : c2 < n) (hs : on_sh c2 = (4, N)) (hd : on_dq cc pc 1 pc2 .bastore) (k : ∀ σ2 : on_S, on_G X E cc own rt fr lo nL z n σ2 (kk σ2) pc2 lv rest) : on_G X E cc own rt fr lo nL z n σ (on_Wr σ c2 N i 1 kk) pc lv (.int (on_i 1) :: .int (on_i i) :: .ref (z + c2) :: rest) := by
  obtain ⟨p, e, R, s, m, args, below, meth, c, out⟩ := X
  intro hC hx H locs ls hP hS hl
  obtain ⟨cx, cb, cm, co, ct, cK, cE, ck, cr, cR, cz⟩ := id hC
  obtain ⟨hd, rfl⟩ := hd
  unfold on_Wr at hx
  by_cases hr : 0 ≤ i ∧ i < (N : Int)
  · rw [if_pos hr] at hx
    have hN := on_shN hs
    refine va_zast cx cb cK hP.2 (on_ws_D E z n σ) hS c2 3 ((on_ws_at E z σ hn).trans (by rw [on_ce4 hs])) rfl (on_i_in hr.1 hr.2 hN) hd (fun H1 locs1 g1 _ g3 => ?_)
    refine on_size cz (fun hz => k _ hC hx H1 locs1 ls ⟨hz, ?_⟩ g3 hl)
    rw [show vp_nar .boolean (on_i 1) = on_i 1 by decide, on_upd_i hr.1 (show i < 2147483648 by omega), ← on_ce4 (E := E) (z := z) (r := on_st σ c2 i 1 c2) hs, on_ws_set E z σ _ hn, on_sr_st] at g1
    exact g1
  · rw [if_neg hr] at hx
    cases hx
theorem on_last {c2 N : Nat} {i v : Int} {kk : on_S → Option on_O} (hn : c2 < n) (hs : on_sh c2 = (3, N)) (hd : on_dq cc pc 1 pc2 .lastore) (k : ∀ σ2 : on_S, on_G X E cc own rt fr lo nL z n σ2 (kk σ2) pc2 lv rest) : on_G X E cc own rt fr lo nL z n σ (on_Wr σ c2 N i v kk) pc lv (.long (on_l v) :: .int (on_i i) :: .ref (z + c2) :: rest) := by
  obtain ⟨p, e, R, s, m, args, below, meth, c, out⟩ := X
  intro hC hx H locs ls hP hS hl
  obtain ⟨cx, cb, cm, co, ct, cK, cE, ck, cr, cR, cz⟩ := id hC
  obtain ⟨hd, rfl⟩ := hd
  unfold on_Wr at hx
  by_cases hr : 0 ≤ i ∧ i < (N : Int)
  · rw [if_pos hr] at hx
    have hN := on_shN hs
    refine va_last cx cb cK hP.2 (on_ws_D E z n σ) hS c2 2 ((on_ws_at E z σ hn).trans (by rw [on_ce3 hs])) rfl (on_i_in hr.1 hr.2 hN) hd (fun H1 locs1 g1 _ g3 => ?_)
    refine on_size cz (fun hz => k _ hC hx H1 locs1 ls ⟨hz, ?_⟩ g3 hl)
    rw [on_upd_l hr.1 (show i < 2147483648 by omega), ← on_ce3 (E := E) (z := z) (r := on_st σ c2 i v c2) hs, on_ws_set E z σ _ hn, on_sr_st] at g1
    exact g1
  · rw [if_neg hr] at hx
    cases hx
theorem on_aaL {c2 N : Nat} {i : Int} {kk : Nat → Option on_O} (hn : c2 < n) (hs : on_sh c2 = (6, N)) (hd : on_dq cc pc 1 pc2 .aaload) (k : ∀ j : Nat, j < N → on_G X E cc own rt fr lo nL z n σ (kk j) pc2 lv (.ref (z + (69 + 2 * j)) :: rest)) : on_G X E cc own rt fr lo nL z n σ (on_Ix N i kk) pc lv (.int (on_i i) :: .ref (z + c2) :: rest) := by
  obtain ⟨p, e, R, s, m, args, below, meth, c, out⟩ := X
  intro hC hx H locs ls hP hS hl
  obtain ⟨cx, cb, cm, co, ct, cK, cE, ck, cr, cR, cz⟩ := id hC
  obtain ⟨hd, rfl⟩ := hd
  unfold on_Ix at hx
  by_cases hr : 0 ≤ i ∧ i < (N : Int)
  · rw [if_pos hr] at hx
    have hN := on_shN hs
    refine va_aldq cx cb cK hP.2 c2 5 ((on_ws_at E z σ hn).trans (by rw [on_ce6 hs])) rfl (on_i_in hr.1 hr.2 hN) hd ?_
    have e : (on_i i).toNatClampNeg = i.toNat := by
      have := on_i_nat hr.1 (show i < 2147483648 by omega)
      omega
    rw [e]
    exact k _ (by omega) hC hx H locs ls hP hS hl
  · rw [if_neg hr] at hx
    cases hx
theorem on_alen1 {c2 N : Nat} (hn : c2 < n) (hs : on_sh c2 = (1, N)) (hd : on_dq cc pc 1 pc2 .arraylength) (k : on_G X E cc own rt fr lo nL z n σ x pc2 lv (.int (on_i N) :: rest)) : on_G X E cc own rt fr lo nL z n σ x pc lv (.ref (z + c2) :: rest) := by
  obtain ⟨p, e, R, s, m, args, below, meth, c, out⟩ := X
  intro hC hx H locs ls hP hS hl
  obtain ⟨cx, cb, cm, co, ct, cK, cE, ck, cr, cR, cz⟩ := id hC
  obtain ⟨hd, rfl⟩ := hd
  exact va_alen (x := (N, .inl fun j => on_i (σ c2 j))) (v := on_i N) cx cb cK hP.2 c2 0 ((on_ws_at E z σ hn).trans (by rw [on_ce1 hs])) rfl Int32.ofInt_eq_ofNat.symm hd (k hC hx H locs ls hP hS hl)
theorem on_alen2 {c2 N : Nat} (hn : c2 < n) (hs : on_sh c2 = (2, N)) (hd : on_dq cc pc 1 pc2 .arraylength) (k : on_G X E cc own rt fr lo nL z n σ x pc2 lv (.int (on_i N) :: rest)) : on_G X E cc own rt fr lo nL z n σ x pc lv (.ref (z + c2) :: rest) := by
  obtain ⟨p, e, R, s, m, args, below, meth, c, out⟩ := X
  intro hC hx H locs ls hP hS hl
  obtain ⟨cx, cb, cm, co, ct, cK, cE, ck, cr, cR, cz⟩ := id hC
  obtain ⟨hd, rfl⟩ := hd
  exact va_alen (x := (N, .inl fun j => on_i (σ c2 j))) (v := on_i N) cx cb cK hP.2 c2 1 ((on_ws_at E z σ hn).trans (by rw [on_ce2 hs])) rfl Int32.ofInt_eq_ofNat.symm hd (k hC hx H locs ls hP hS hl)
theorem on_alen3 {c2 N : Nat} (hn : c2 < n) (hs : on_sh c2 = (3, N)) (hd : on_dq cc pc 1 pc2 .arraylength) (k : on_G X E cc own rt fr lo nL z n σ x pc2 lv (.int (on_i N) :: rest)) : on_G X E cc own rt fr lo nL z n σ x pc lv (.ref (z + c2) :: rest) := by
  obtain ⟨p, e, R, s, m, args, below, meth, c, out⟩ := X
  intro hC hx H locs ls hP hS hl
  obtain ⟨cx, cb, cm, co, ct, cK, cE, ck, cr, cR, cz⟩ := id hC
  obtain ⟨hd, rfl⟩ := hd
  exact va_alen (x := (N, .inr (.inl fun j => on_l (σ c2 j)))) (v := on_i N) cx cb cK hP.2 c2 2 ((on_ws_at E z σ hn).trans (by rw [on_ce3 hs])) rfl Int32.ofInt_eq_ofNat.symm hd (k hC hx H locs ls hP hS hl)
theorem on_iret (hd : on_dq cc pc 1 pc2 .ireturn) : on_G X E cc own (some .int) fr lo nL z n σ (some (a, σ)) pc lv [.int (on_i a)] := by
  obtain ⟨p, e, R, s, m, args, below, meth, c, out⟩ := X
  intro hC hx H locs ls hP hS hl
  obtain ⟨cx, cb, cm, co, ct, cK, cE, ck, cr, cR, cz⟩ := id hC
  obtain ⟨hd, rfl⟩ := hd
  cases hx
  exact W.iret (v := on_i a) cx cb cr (fun t ht hW => ⟨rfl, by rw [ht]; exact hP, hS.F ht⟩) hS.2.2 hd ck
theorem on_lret (hd : on_dq cc pc 1 pc2 .lreturn) : on_G X E cc own (some .long) fr lo nL z n σ (some (a, σ)) pc lv [.long (on_l a)] := by
  obtain ⟨p, e, R, s, m, args, below, meth, c, out⟩ := X
  intro hC hx H locs ls hP hS hl
  obtain ⟨cx, cb, cm, co, ct, cK, cE, ck, cr, cR, cz⟩ := id hC
  obtain ⟨hd, rfl⟩ := hd
  cases hx
  exact W.lret (v := on_l a) cx cb cr (fun t ht hW => ⟨rfl, by rw [ht]; exact hP, hS.F ht⟩) hS.2.2 hd ck
theorem on_vret (hd : on_dq cc pc 1 pc2 .return_) : on_G X E cc own none fr lo nL z n σ (some (0, σ)) pc lv [] := by
  obtain ⟨p, e, R, s, m, args, below, meth, c, out⟩ := X
  intro hC hx H locs ls hP hS hl
  obtain ⟨cx, cb, cm, co, ct, cK, cE, ck, cr, cR, cz⟩ := id hC
  obtain ⟨hd, rfl⟩ := hd
  cases hx
  exact W.vret cx cb cr (fun t ht hW => ⟨rfl, by rw [ht]; exact hP, hS.F ht⟩) hS.2.2 hd ck
theorem on_zret0 (hd : on_dq cc pc 1 pc2 .ireturn) : on_G X E cc own (some .boolean) fr lo nL z n σ (some (0, σ)) pc lv [.int (on_i 0)] := by
  obtain ⟨p, e, R, s, m, args, below, meth, c, out⟩ := X
  intro hC hx H locs ls hP hS hl
  obtain ⟨cx, cb, cm, co, ct, cK, cE, ck, cr, cR, cz⟩ := id hC
  obtain ⟨hd, rfl⟩ := hd
  cases hx
  exact W.zret (v := on_i 0) (ty := .boolean) cx cb cr (by decide) (fun t ht hW => ⟨rfl, by rw [ht]; exact hP, hS.F ht⟩) hS.2.2 hd ck
theorem on_zret1 (hd : on_dq cc pc 1 pc2 .ireturn) : on_G X E cc own (some .boolean) fr lo nL z n σ (some (1, σ)) pc lv [.int (on_i 1)] := by
  obtain ⟨p, e, R, s, m, args, below, meth, c, out⟩ := X
  intro hC hx H locs ls hP hS hl
  obtain ⟨cx, cb, cm, co, ct, cK, cE, ck, cr, cR, cz⟩ := id hC
  obtain ⟨hd, rfl⟩ := hd
  cases hx
  exact W.zret (v := on_i 1) (ty := .boolean) cx cb cr (by decide) (fun t ht hW => ⟨rfl, by rw [ht]; exact hP, hS.F ht⟩) hS.2.2 hd ck
theorem on_zret (hd : on_dq cc pc 1 pc2 .ireturn) : on_G X E cc own (some .boolean) fr lo nL z n σ (on_Bz a σ) pc lv [.int (on_i a)] := by
  obtain ⟨p, e, R, s, m, args, below, meth, c, out⟩ := X
  intro hC hx H locs ls hP hS hl
  obtain ⟨cx, cb, cm, co, ct, cK, cE, ck, cr, cR, cz⟩ := id hC
  obtain ⟨hd, rfl⟩ := hd
  unfold on_Bz at hx
  by_cases h : a = 0 ∨ a = 1
  · rw [if_pos h] at hx
    cases hx
    have hn : narrow .boolean (.int (on_i a)) = .int (on_i a) := by rcases h with rfl | rfl <;> decide
    exact W.zret (v := on_i a) (ty := .boolean) cx cb cr hn (fun t ht hW => ⟨rfl, by rw [ht]; exact hP, hS.F ht⟩) hS.2.2 hd ck
  · rw [if_neg h] at hx
    cases hx
theorem on_runQ {p : Program} {l : Launch} {e : Env} {R : Room} {s : State} {m : MethodId} {args : Array Value} {below : List Frame} {meth : Method} {c : Code} {H : Heap} {locs : List Loc} {Q : State → Prop} {ls : Array Slot} {st0 : List Value} {a : Array Value} {r2 : Option FieldType} {q : on_O} (hr : va_Run p l e R s m args below meth c H locs 0 0 0 0 (F0 m pc ls st0) rest (on_Qc E r2 z n q a) (fun q => z ≤ q)) (hS : va_S (fun q => z ≤ q) s.heap H locs)
    (kk : ∀ (H1 : Heap) (locs1 : List Loc), on_Rep E z n q.2 H1 → va_S (fun q => z ≤ q) s.heap H1 locs1 → W p l e R s m args below meth c H1 locs1 0 0 Q (F0 m (pc + 3) ls ((on_rv r2 q.1).toList ++ rest))) : W p l e R s m args below meth c H locs 0 0 Q (F0 m pc ls st0) := by
  intro T hT X
  obtain ⟨v, st₀, t, T', L, h0, X', hL, e1, e2, ⟨hv, hp, hz, hk⟩, st⟩ := hr T hT X
  cases hv
  rw [h0] at hz hk
  obtain ⟨t2, a1, b1⟩ := kk T'.heap (locs ++ L) (by rw [e1]; exact hp) ⟨Nat.le_trans hS.1 (by rw [e1]; exact hz), fun q h1 h2 => by rw [e1, hk q (Nat.lt_of_lt_of_le h1 hS.1) h2]; exact hS.2.1 q h1 h2, fun q hq => by
      rcases List.mem_append.mp hq with h | h
      · exact hS.2.2 q h
      · exact hL q h⟩ T' rfl X'
  exact ⟨t2, st t2 a1, b1⟩
theorem on_cV0i (ci : Nat) {c2 idx f2 l2 ny : Nat} {y2 : MethodName} {cy : ByteArray} {q2 : vw_C} {r : Option on_O} {kk : Int → on_S → Option on_O} (hM : on_Mv y2 cy ny (some .int) 0) (hw : Cond.methodLink own idx y2 ∈ on_T) (hq2 : vwCl[ci]? = some q2) (hqy : q2.1 = y2.cls) (hn : c2 < n) (hs : on_sh c2 = (0, ci)) (hc : on_Sp E y2 cy ny (some .int) f2 l2 z n [.ref (z + c2)] σ r) (hr : on_ok f2 ny l2 fr lo rest = true) (hd : on_dq cc pc 3 pc2 (.invokevirtual idx)) (k : ∀ (v : Int) (σ2 : on_S), on_G X E cc own rt fr lo nL z n σ2 (kk v σ2) pc2 lv (.int (on_i v) :: rest)) : on_G X E cc own rt fr lo nL z n σ (on_Cl r kk) pc lv (.ref (z + c2) :: rest) := by
  obtain ⟨p, e, R, s, m, args, below, meth, c, out⟩ := X
  intro hC hx H locs ls hP hS hl
  obtain ⟨cx, cb, cm, co, ct, cK, cE, ck, cr, cR, cz⟩ := id hC
  obtain ⟨hd, rfl⟩ := hd
  unfold on_Cl at hx
  cases hq : r with
  | none => rw [hq] at hx; cases hx
  | some q =>
    rw [hq] at hx
    subst cR
    obtain ⟨m1, m2, m3, m4, m5, m6, m7⟩ := hM
    simp only [on_ok, Bool.and_eq_true] at hr
    obtain ⟨⟨r1, r2⟩, r3⟩ := hr
    have cb' : CallB _ s args own idx y2 cy ny (some .int) (.code y2 cy ny (some .int) :: on_T) { frames := f2, cells := 0, slots := 0, locals := l2 } 0 0 0 := callB_of (R := { frames := fr, cells := 0, slots := 0, locals := lo }) 0 ct (on_goodT m1) rfl rfl rfl (ct _ m4) (ct _ hw) ⟨m5, m6, m7⟩ ⟨Nat.le_of_ble_eq_true r1, Nat.le_of_ble_eq_true r2⟩
    refine on_runQ (q := q) (va_runV (As := []) (rest := rest) (C := y2.cls) ⟨cx, cb, cm, co, ct⟩ (hc q hq) ⟨cb', ct _ m2, ct _ m3⟩ ⟨on_U_blind, ?_, ?_⟩ rfl rfl hl.1 rfl (lv_room (Nat.le_of_ble_eq_true r3)) hd ⟨Nat.le_refl _, Nat.le_refl _⟩) hS ?_
    · have h1 := va_recv (ci := ci) cK hP.2 hq2 ((on_ws_at E z σ hn).trans (by rw [on_ce0 hs]))
      rw [← hqy]
      exact h1
    · intro U hU hW
      exact ⟨rfl, by rw [hU]; exact hP, va_K.moved hW.alike cK, cE.warm hW (fun q h1 h2 => by rw [hU]; exact hS.2.1 q h1 h2)⟩
    · intro H1 locs1 g1 g2
      exact k q.1 q.2 hC hx H1 locs1 ls g1 g2 hl
theorem on_cS0i {idx f2 l2 ny : Nat} {y2 : MethodName} {cy : ByteArray} {r : Option on_O} {kk : Int → on_S → Option on_O} (hM : on_Ms y2 cy ny (some .int) 0) (hw : Cond.methodLink own idx y2 ∈ on_T) (hc : on_Sp E y2 cy ny (some .int) f2 l2 z n [] σ r) (hr : on_ok f2 ny l2 fr lo rest = true) (hd : on_dq cc pc 3 pc2 (.invokestatic idx)) (k : ∀ (v : Int) (σ2 : on_S), on_G X E cc own rt fr lo nL z n σ2 (kk v σ2) pc2 lv (.int (on_i v) :: rest)) : on_G X E cc own rt fr lo nL z n σ (on_Cl r kk) pc lv (rest) := by
  obtain ⟨p, e, R, s, m, args, below, meth, c, out⟩ := X
  intro hC hx H locs ls hP hS hl
  obtain ⟨cx, cb, cm, co, ct, cK, cE, ck, cr, cR, cz⟩ := id hC
  obtain ⟨hd, rfl⟩ := hd
  unfold on_Cl at hx
  cases hq : r with
  | none => rw [hq] at hx; cases hx
  | some q =>
    rw [hq] at hx
    subst cR
    obtain ⟨m1, m2, m4, m5, m6, m7⟩ := hM
    simp only [on_ok, Bool.and_eq_true] at hr
    obtain ⟨⟨r1, r2⟩, r3⟩ := hr
    have cb' : CallB _ s args own idx y2 cy ny (some .int) (.code y2 cy ny (some .int) :: on_T) { frames := f2, cells := 0, slots := 0, locals := l2 } 0 0 0 := callB_of (R := { frames := fr, cells := 0, slots := 0, locals := lo }) 0 ct (on_goodT m1) rfl rfl rfl (ct _ m4) (ct _ hw) ⟨m5, m6, m7⟩ ⟨Nat.le_of_ble_eq_true r1, Nat.le_of_ble_eq_true r2⟩
    refine on_runQ (q := q) (va_runS (As := []) (rest := rest) ⟨cx, cb, cm, co, ct⟩ (hc q hq) ⟨cb', ct _ m2⟩ ⟨on_U_blind, ?_⟩ rfl rfl hl.1 rfl (lv_room (Nat.le_of_ble_eq_true r3)) hd ⟨Nat.le_refl _, Nat.le_refl _⟩) hS ?_
    · intro U hU hW
      exact ⟨rfl, by rw [hU]; exact hP, va_K.moved hW.alike cK, cE.warm hW (fun q h1 h2 => by rw [hU]; exact hS.2.1 q h1 h2)⟩
    · intro H1 locs1 g1 g2
      exact k q.1 q.2 hC hx H1 locs1 ls g1 g2 hl
theorem on_cV0z (ci : Nat) {c2 idx f2 l2 ny : Nat} {y2 : MethodName} {cy : ByteArray} {q2 : vw_C} {r : Option on_O} {kk : Int → on_S → Option on_O} (hM : on_Mv y2 cy ny (some .boolean) 0) (hw : Cond.methodLink own idx y2 ∈ on_T) (hq2 : vwCl[ci]? = some q2) (hqy : q2.1 = y2.cls) (hn : c2 < n) (hs : on_sh c2 = (0, ci)) (hc : on_Sp E y2 cy ny (some .boolean) f2 l2 z n [.ref (z + c2)] σ r) (hr : on_ok f2 ny l2 fr lo rest = true) (hd : on_dq cc pc 3 pc2 (.invokevirtual idx)) (k : ∀ (v : Int) (σ2 : on_S), on_G X E cc own rt fr lo nL z n σ2 (kk v σ2) pc2 lv (.int (on_i v) :: rest)) : on_G X E cc own rt fr lo nL z n σ (on_Cl r kk) pc lv (.ref (z + c2) :: rest) := by
  obtain ⟨p, e, R, s, m, args, below, meth, c, out⟩ := X
  intro hC hx H locs ls hP hS hl
  obtain ⟨cx, cb, cm, co, ct, cK, cE, ck, cr, cR, cz⟩ := id hC
  obtain ⟨hd, rfl⟩ := hd
  unfold on_Cl at hx
  cases hq : r with
  | none => rw [hq] at hx; cases hx
  | some q =>
    rw [hq] at hx
    subst cR
    obtain ⟨m1, m2, m3, m4, m5, m6, m7⟩ := hM
    simp only [on_ok, Bool.and_eq_true] at hr
    obtain ⟨⟨r1, r2⟩, r3⟩ := hr
    have cb' : CallB _ s args own idx y2 cy ny (some .boolean) (.code y2 cy ny (some .boolean) :: on_T) { frames := f2, cells := 0, slots := 0, locals := l2 } 0 0 0 := callB_of (R := { frames := fr, cells := 0, slots := 0, locals := lo }) 0 ct (on_goodT m1) rfl rfl rfl (ct _ m4) (ct _ hw) ⟨m5, m6, m7⟩ ⟨Nat.le_of_ble_eq_true r1, Nat.le_of_ble_eq_true r2⟩
    refine on_runQ (q := q) (va_runV (As := []) (rest := rest) (C := y2.cls) ⟨cx, cb, cm, co, ct⟩ (hc q hq) ⟨cb', ct _ m2, ct _ m3⟩ ⟨on_U_blind, ?_, ?_⟩ rfl rfl hl.1 rfl (lv_room (Nat.le_of_ble_eq_true r3)) hd ⟨Nat.le_refl _, Nat.le_refl _⟩) hS ?_
    · have h1 := va_recv (ci := ci) cK hP.2 hq2 ((on_ws_at E z σ hn).trans (by rw [on_ce0 hs]))
      rw [← hqy]
      exact h1
    · intro U hU hW
      exact ⟨rfl, by rw [hU]; exact hP, va_K.moved hW.alike cK, cE.warm hW (fun q h1 h2 => by rw [hU]; exact hS.2.1 q h1 h2)⟩
    · intro H1 locs1 g1 g2
      exact k q.1 q.2 hC hx H1 locs1 ls g1 g2 hl
theorem on_cS0z {idx f2 l2 ny : Nat} {y2 : MethodName} {cy : ByteArray} {r : Option on_O} {kk : Int → on_S → Option on_O} (hM : on_Ms y2 cy ny (some .boolean) 0) (hw : Cond.methodLink own idx y2 ∈ on_T) (hc : on_Sp E y2 cy ny (some .boolean) f2 l2 z n [] σ r) (hr : on_ok f2 ny l2 fr lo rest = true) (hd : on_dq cc pc 3 pc2 (.invokestatic idx)) (k : ∀ (v : Int) (σ2 : on_S), on_G X E cc own rt fr lo nL z n σ2 (kk v σ2) pc2 lv (.int (on_i v) :: rest)) : on_G X E cc own rt fr lo nL z n σ (on_Cl r kk) pc lv (rest) := by
  obtain ⟨p, e, R, s, m, args, below, meth, c, out⟩ := X
  intro hC hx H locs ls hP hS hl
  obtain ⟨cx, cb, cm, co, ct, cK, cE, ck, cr, cR, cz⟩ := id hC
  obtain ⟨hd, rfl⟩ := hd
  unfold on_Cl at hx
  cases hq : r with
  | none => rw [hq] at hx; cases hx
  | some q =>
    rw [hq] at hx
    subst cR
    obtain ⟨m1, m2, m4, m5, m6, m7⟩ := hM
    simp only [on_ok, Bool.and_eq_true] at hr
    obtain ⟨⟨r1, r2⟩, r3⟩ := hr
    have cb' : CallB _ s args own idx y2 cy ny (some .boolean) (.code y2 cy ny (some .boolean) :: on_T) { frames := f2, cells := 0, slots := 0, locals := l2 } 0 0 0 := callB_of (R := { frames := fr, cells := 0, slots := 0, locals := lo }) 0 ct (on_goodT m1) rfl rfl rfl (ct _ m4) (ct _ hw) ⟨m5, m6, m7⟩ ⟨Nat.le_of_ble_eq_true r1, Nat.le_of_ble_eq_true r2⟩
    refine on_runQ (q := q) (va_runS (As := []) (rest := rest) ⟨cx, cb, cm, co, ct⟩ (hc q hq) ⟨cb', ct _ m2⟩ ⟨on_U_blind, ?_⟩ rfl rfl hl.1 rfl (lv_room (Nat.le_of_ble_eq_true r3)) hd ⟨Nat.le_refl _, Nat.le_refl _⟩) hS ?_
    · intro U hU hW
      exact ⟨rfl, by rw [hU]; exact hP, va_K.moved hW.alike cK, cE.warm hW (fun q h1 h2 => by rw [hU]; exact hS.2.1 q h1 h2)⟩
    · intro H1 locs1 g1 g2
      exact k q.1 q.2 hC hx H1 locs1 ls g1 g2 hl
theorem on_cV0l (ci : Nat) {c2 idx f2 l2 ny : Nat} {y2 : MethodName} {cy : ByteArray} {q2 : vw_C} {r : Option on_O} {kk : Int → on_S → Option on_O} (hM : on_Mv y2 cy ny (some .long) 0) (hw : Cond.methodLink own idx y2 ∈ on_T) (hq2 : vwCl[ci]? = some q2) (hqy : q2.1 = y2.cls) (hn : c2 < n) (hs : on_sh c2 = (0, ci)) (hc : on_Sp E y2 cy ny (some .long) f2 l2 z n [.ref (z + c2)] σ r) (hr : on_ok f2 ny l2 fr lo rest = true) (hd : on_dq cc pc 3 pc2 (.invokevirtual idx)) (k : ∀ (v : Int) (σ2 : on_S), on_G X E cc own rt fr lo nL z n σ2 (kk v σ2) pc2 lv (.long (on_l v) :: rest)) : on_G X E cc own rt fr lo nL z n σ (on_Cl r kk) pc lv (.ref (z + c2) :: rest) := by
  obtain ⟨p, e, R, s, m, args, below, meth, c, out⟩ := X
  intro hC hx H locs ls hP hS hl
  obtain ⟨cx, cb, cm, co, ct, cK, cE, ck, cr, cR, cz⟩ := id hC
  obtain ⟨hd, rfl⟩ := hd
  unfold on_Cl at hx
  cases hq : r with
  | none => rw [hq] at hx; cases hx
  | some q =>
    rw [hq] at hx
    subst cR
    obtain ⟨m1, m2, m3, m4, m5, m6, m7⟩ := hM
    simp only [on_ok, Bool.and_eq_true] at hr
    obtain ⟨⟨r1, r2⟩, r3⟩ := hr
    have cb' : CallB _ s args own idx y2 cy ny (some .long) (.code y2 cy ny (some .long) :: on_T) { frames := f2, cells := 0, slots := 0, locals := l2 } 0 0 0 := callB_of (R := { frames := fr, cells := 0, slots := 0, locals := lo }) 0 ct (on_goodT m1) rfl rfl rfl (ct _ m4) (ct _ hw) ⟨m5, m6, m7⟩ ⟨Nat.le_of_ble_eq_true r1, Nat.le_of_ble_eq_true r2⟩
    refine on_runQ (q := q) (va_runV (As := []) (rest := rest) (C := y2.cls) ⟨cx, cb, cm, co, ct⟩ (hc q hq) ⟨cb', ct _ m2, ct _ m3⟩ ⟨on_U_blind, ?_, ?_⟩ rfl rfl hl.1 rfl (lv_room (Nat.le_of_ble_eq_true r3)) hd ⟨Nat.le_refl _, Nat.le_refl _⟩) hS ?_
    · have h1 := va_recv (ci := ci) cK hP.2 hq2 ((on_ws_at E z σ hn).trans (by rw [on_ce0 hs]))
      rw [← hqy]
      exact h1
    · intro U hU hW
      exact ⟨rfl, by rw [hU]; exact hP, va_K.moved hW.alike cK, cE.warm hW (fun q h1 h2 => by rw [hU]; exact hS.2.1 q h1 h2)⟩
    · intro H1 locs1 g1 g2
      exact k q.1 q.2 hC hx H1 locs1 ls g1 g2 hl
theorem on_cS0l {idx f2 l2 ny : Nat} {y2 : MethodName} {cy : ByteArray} {r : Option on_O} {kk : Int → on_S → Option on_O} (hM : on_Ms y2 cy ny (some .long) 0) (hw : Cond.methodLink own idx y2 ∈ on_T) (hc : on_Sp E y2 cy ny (some .long) f2 l2 z n [] σ r) (hr : on_ok f2 ny l2 fr lo rest = true) (hd : on_dq cc pc 3 pc2 (.invokestatic idx)) (k : ∀ (v : Int) (σ2 : on_S), on_G X E cc own rt fr lo nL z n σ2 (kk v σ2) pc2 lv (.long (on_l v) :: rest)) : on_G X E cc own rt fr lo nL z n σ (on_Cl r kk) pc lv (rest) := by
  obtain ⟨p, e, R, s, m, args, below, meth, c, out⟩ := X
  intro hC hx H locs ls hP hS hl
  obtain ⟨cx, cb, cm, co, ct, cK, cE, ck, cr, cR, cz⟩ := id hC
  obtain ⟨hd, rfl⟩ := hd
  unfold on_Cl at hx
  cases hq : r with
  | none => rw [hq] at hx; cases hx
  | some q =>
    rw [hq] at hx
    subst cR
    obtain ⟨m1, m2, m4, m5, m6, m7⟩ := hM
    simp only [on_ok, Bool.and_eq_true] at hr
    obtain ⟨⟨r1, r2⟩, r3⟩ := hr
    have cb' : CallB _ s args own idx y2 cy ny (some .long) (.code y2 cy ny (some .long) :: on_T) { frames := f2, cells := 0, slots := 0, locals := l2 } 0 0 0 := callB_of (R := { frames := fr, cells := 0, slots := 0, locals := lo }) 0 ct (on_goodT m1) rfl rfl rfl (ct _ m4) (ct _ hw) ⟨m5, m6, m7⟩ ⟨Nat.le_of_ble_eq_true r1, Nat.le_of_ble_eq_true r2⟩
    refine on_runQ (q := q) (va_runS (As := []) (rest := rest) ⟨cx, cb, cm, co, ct⟩ (hc q hq) ⟨cb', ct _ m2⟩ ⟨on_U_blind, ?_⟩ rfl rfl hl.1 rfl (lv_room (Nat.le_of_ble_eq_true r3)) hd ⟨Nat.le_refl _, Nat.le_refl _⟩) hS ?_
    · intro U hU hW
      exact ⟨rfl, by rw [hU]; exact hP, va_K.moved hW.alike cK, cE.warm hW (fun q h1 h2 => by rw [hU]; exact hS.2.1 q h1 h2)⟩
    · intro H1 locs1 g1 g2
      exact k q.1 q.2 hC hx H1 locs1 ls g1 g2 hl
theorem on_cV0v (ci : Nat) {c2 idx f2 l2 ny : Nat} {y2 : MethodName} {cy : ByteArray} {q2 : vw_C} {r : Option on_O} {kk : Int → on_S → Option on_O} (hM : on_Mv y2 cy ny none 0) (hw : Cond.methodLink own idx y2 ∈ on_T) (hq2 : vwCl[ci]? = some q2) (hqy : q2.1 = y2.cls) (hn : c2 < n) (hs : on_sh c2 = (0, ci)) (hc : on_Sp E y2 cy ny none f2 l2 z n [.ref (z + c2)] σ r) (hr : on_ok f2 ny l2 fr lo rest = true) (hd : on_dq cc pc 3 pc2 (.invokevirtual idx)) (k : ∀ (v : Int) (σ2 : on_S), on_G X E cc own rt fr lo nL z n σ2 (kk v σ2) pc2 lv rest) : on_G X E cc own rt fr lo nL z n σ (on_Cl r kk) pc lv (.ref (z + c2) :: rest) := by
  obtain ⟨p, e, R, s, m, args, below, meth, c, out⟩ := X
  intro hC hx H locs ls hP hS hl
  obtain ⟨cx, cb, cm, co, ct, cK, cE, ck, cr, cR, cz⟩ := id hC
  obtain ⟨hd, rfl⟩ := hd
  unfold on_Cl at hx
  cases hq : r with
  | none => rw [hq] at hx; cases hx
  | some q =>
    rw [hq] at hx
    subst cR
    obtain ⟨m1, m2, m3, m4, m5, m6, m7⟩ := hM
    simp only [on_ok, Bool.and_eq_true] at hr
    obtain ⟨⟨r1, r2⟩, r3⟩ := hr
    have cb' : CallB _ s args own idx y2 cy ny none (.code y2 cy ny none :: on_T) { frames := f2, cells := 0, slots := 0, locals := l2 } 0 0 0 := callB_of (R := { frames := fr, cells := 0, slots := 0, locals := lo }) 0 ct (on_goodT m1) rfl rfl rfl (ct _ m4) (ct _ hw) ⟨m5, m6, m7⟩ ⟨Nat.le_of_ble_eq_true r1, Nat.le_of_ble_eq_true r2⟩
    refine on_runQ (q := q) (va_runV (As := []) (rest := rest) (C := y2.cls) ⟨cx, cb, cm, co, ct⟩ (hc q hq) ⟨cb', ct _ m2, ct _ m3⟩ ⟨on_U_blind, ?_, ?_⟩ rfl rfl hl.1 rfl (lv_room (Nat.le_of_ble_eq_true r3)) hd ⟨Nat.le_refl _, Nat.le_refl _⟩) hS ?_
    · have h1 := va_recv (ci := ci) cK hP.2 hq2 ((on_ws_at E z σ hn).trans (by rw [on_ce0 hs]))
      rw [← hqy]
      exact h1
    · intro U hU hW
      exact ⟨rfl, by rw [hU]; exact hP, va_K.moved hW.alike cK, cE.warm hW (fun q h1 h2 => by rw [hU]; exact hS.2.1 q h1 h2)⟩
    · intro H1 locs1 g1 g2
      exact k q.1 q.2 hC hx H1 locs1 ls g1 g2 hl
theorem on_cS0v {idx f2 l2 ny : Nat} {y2 : MethodName} {cy : ByteArray} {r : Option on_O} {kk : Int → on_S → Option on_O} (hM : on_Ms y2 cy ny none 0) (hw : Cond.methodLink own idx y2 ∈ on_T) (hc : on_Sp E y2 cy ny none f2 l2 z n [] σ r) (hr : on_ok f2 ny l2 fr lo rest = true) (hd : on_dq cc pc 3 pc2 (.invokestatic idx)) (k : ∀ (v : Int) (σ2 : on_S), on_G X E cc own rt fr lo nL z n σ2 (kk v σ2) pc2 lv rest) : on_G X E cc own rt fr lo nL z n σ (on_Cl r kk) pc lv (rest) := by
  obtain ⟨p, e, R, s, m, args, below, meth, c, out⟩ := X
  intro hC hx H locs ls hP hS hl
  obtain ⟨cx, cb, cm, co, ct, cK, cE, ck, cr, cR, cz⟩ := id hC
  obtain ⟨hd, rfl⟩ := hd
  unfold on_Cl at hx
  cases hq : r with
  | none => rw [hq] at hx; cases hx
  | some q =>
    rw [hq] at hx
    subst cR
    obtain ⟨m1, m2, m4, m5, m6, m7⟩ := hM
    simp only [on_ok, Bool.and_eq_true] at hr
    obtain ⟨⟨r1, r2⟩, r3⟩ := hr
    have cb' : CallB _ s args own idx y2 cy ny none (.code y2 cy ny none :: on_T) { frames := f2, cells := 0, slots := 0, locals := l2 } 0 0 0 := callB_of (R := { frames := fr, cells := 0, slots := 0, locals := lo }) 0 ct (on_goodT m1) rfl rfl rfl (ct _ m4) (ct _ hw) ⟨m5, m6, m7⟩ ⟨Nat.le_of_ble_eq_true r1, Nat.le_of_ble_eq_true r2⟩
    refine on_runQ (q := q) (va_runS (As := []) (rest := rest) ⟨cx, cb, cm, co, ct⟩ (hc q hq) ⟨cb', ct _ m2⟩ ⟨on_U_blind, ?_⟩ rfl rfl hl.1 rfl (lv_room (Nat.le_of_ble_eq_true r3)) hd ⟨Nat.le_refl _, Nat.le_refl _⟩) hS ?_
    · intro U hU hW
      exact ⟨rfl, by rw [hU]; exact hP, va_K.moved hW.alike cK, cE.warm hW (fun q h1 h2 => by rw [hU]; exact hS.2.1 q h1 h2)⟩
    · intro H1 locs1 g1 g2
      exact k q.1 q.2 hC hx H1 locs1 ls g1 g2 hl
theorem on_cV1i (ci : Nat) {c2 idx f2 l2 ny : Nat} {y2 : MethodName} {cy : ByteArray} {q2 : vw_C} {w1 : Value} {r : Option on_O} {kk : Int → on_S → Option on_O} (hM : on_Mv y2 cy ny (some .int) 1) (hw : Cond.methodLink own idx y2 ∈ on_T) (hq2 : vwCl[ci]? = some q2) (hqy : q2.1 = y2.cls) (hn : c2 < n) (hs : on_sh c2 = (0, ci)) (hc : on_Sp E y2 cy ny (some .int) f2 l2 z n [.ref (z + c2), w1] σ r) (hr : on_ok f2 ny l2 fr lo rest = true) (hd : on_dq cc pc 3 pc2 (.invokevirtual idx)) (k : ∀ (v : Int) (σ2 : on_S), on_G X E cc own rt fr lo nL z n σ2 (kk v σ2) pc2 lv (.int (on_i v) :: rest)) : on_G X E cc own rt fr lo nL z n σ (on_Cl r kk) pc lv (w1 :: .ref (z + c2) :: rest) := by
  obtain ⟨p, e, R, s, m, args, below, meth, c, out⟩ := X
  intro hC hx H locs ls hP hS hl
  obtain ⟨cx, cb, cm, co, ct, cK, cE, ck, cr, cR, cz⟩ := id hC
  obtain ⟨hd, rfl⟩ := hd
  unfold on_Cl at hx
  cases hq : r with
  | none => rw [hq] at hx; cases hx
  | some q =>
    rw [hq] at hx
    subst cR
    obtain ⟨m1, m2, m3, m4, m5, m6, m7⟩ := hM
    simp only [on_ok, Bool.and_eq_true] at hr
    obtain ⟨⟨r1, r2⟩, r3⟩ := hr
    have cb' : CallB _ s args own idx y2 cy ny (some .int) (.code y2 cy ny (some .int) :: on_T) { frames := f2, cells := 0, slots := 0, locals := l2 } 0 0 1 := callB_of (R := { frames := fr, cells := 0, slots := 0, locals := lo }) 1 ct (on_goodT m1) rfl rfl rfl (ct _ m4) (ct _ hw) ⟨m5, m6, m7⟩ ⟨Nat.le_of_ble_eq_true r1, Nat.le_of_ble_eq_true r2⟩
    refine on_runQ (q := q) (va_runV (As := [w1]) (rest := rest) (C := y2.cls) ⟨cx, cb, cm, co, ct⟩ (hc q hq) ⟨cb', ct _ m2, ct _ m3⟩ ⟨on_U_blind, ?_, ?_⟩ rfl rfl hl.1 rfl (lv_room (Nat.le_of_ble_eq_true r3)) hd ⟨Nat.le_refl _, Nat.le_refl _⟩) hS ?_
    · have h1 := va_recv (ci := ci) cK hP.2 hq2 ((on_ws_at E z σ hn).trans (by rw [on_ce0 hs]))
      rw [← hqy]
      exact h1
    · intro U hU hW
      exact ⟨rfl, by rw [hU]; exact hP, va_K.moved hW.alike cK, cE.warm hW (fun q h1 h2 => by rw [hU]; exact hS.2.1 q h1 h2)⟩
    · intro H1 locs1 g1 g2
      exact k q.1 q.2 hC hx H1 locs1 ls g1 g2 hl
theorem on_cS1i {idx f2 l2 ny : Nat} {y2 : MethodName} {cy : ByteArray} {w1 : Value} {r : Option on_O} {kk : Int → on_S → Option on_O} (hM : on_Ms y2 cy ny (some .int) 1) (hw : Cond.methodLink own idx y2 ∈ on_T) (hc : on_Sp E y2 cy ny (some .int) f2 l2 z n [w1] σ r) (hr : on_ok f2 ny l2 fr lo rest = true) (hd : on_dq cc pc 3 pc2 (.invokestatic idx)) (k : ∀ (v : Int) (σ2 : on_S), on_G X E cc own rt fr lo nL z n σ2 (kk v σ2) pc2 lv (.int (on_i v) :: rest)) : on_G X E cc own rt fr lo nL z n σ (on_Cl r kk) pc lv (w1 :: rest) := by
  obtain ⟨p, e, R, s, m, args, below, meth, c, out⟩ := X
  intro hC hx H locs ls hP hS hl
  obtain ⟨cx, cb, cm, co, ct, cK, cE, ck, cr, cR, cz⟩ := id hC
  obtain ⟨hd, rfl⟩ := hd
  unfold on_Cl at hx
  cases hq : r with
  | none => rw [hq] at hx; cases hx
  | some q =>
    rw [hq] at hx
    subst cR
    obtain ⟨m1, m2, m4, m5, m6, m7⟩ := hM
    simp only [on_ok, Bool.and_eq_true] at hr
    obtain ⟨⟨r1, r2⟩, r3⟩ := hr
    have cb' : CallB _ s args own idx y2 cy ny (some .int) (.code y2 cy ny (some .int) :: on_T) { frames := f2, cells := 0, slots := 0, locals := l2 } 0 0 1 := callB_of (R := { frames := fr, cells := 0, slots := 0, locals := lo }) 1 ct (on_goodT m1) rfl rfl rfl (ct _ m4) (ct _ hw) ⟨m5, m6, m7⟩ ⟨Nat.le_of_ble_eq_true r1, Nat.le_of_ble_eq_true r2⟩
    refine on_runQ (q := q) (va_runS (As := [w1]) (rest := rest) ⟨cx, cb, cm, co, ct⟩ (hc q hq) ⟨cb', ct _ m2⟩ ⟨on_U_blind, ?_⟩ rfl rfl hl.1 rfl (lv_room (Nat.le_of_ble_eq_true r3)) hd ⟨Nat.le_refl _, Nat.le_refl _⟩) hS ?_
    · intro U hU hW
      exact ⟨rfl, by rw [hU]; exact hP, va_K.moved hW.alike cK, cE.warm hW (fun q h1 h2 => by rw [hU]; exact hS.2.1 q h1 h2)⟩
    · intro H1 locs1 g1 g2
      exact k q.1 q.2 hC hx H1 locs1 ls g1 g2 hl
theorem on_cV1z (ci : Nat) {c2 idx f2 l2 ny : Nat} {y2 : MethodName} {cy : ByteArray} {q2 : vw_C} {w1 : Value} {r : Option on_O} {kk : Int → on_S → Option on_O} (hM : on_Mv y2 cy ny (some .boolean) 1) (hw : Cond.methodLink own idx y2 ∈ on_T) (hq2 : vwCl[ci]? = some q2) (hqy : q2.1 = y2.cls) (hn : c2 < n) (hs : on_sh c2 = (0, ci)) (hc : on_Sp E y2 cy ny (some .boolean) f2 l2 z n [.ref (z + c2), w1] σ r) (hr : on_ok f2 ny l2 fr lo rest = true) (hd : on_dq cc pc 3 pc2 (.invokevirtual idx)) (k : ∀ (v : Int) (σ2 : on_S), on_G X E cc own rt fr lo nL z n σ2 (kk v σ2) pc2 lv (.int (on_i v) :: rest)) : on_G X E cc own rt fr lo nL z n σ (on_Cl r kk) pc lv (w1 :: .ref (z + c2) :: rest) := by
  obtain ⟨p, e, R, s, m, args, below, meth, c, out⟩ := X
  intro hC hx H locs ls hP hS hl
  obtain ⟨cx, cb, cm, co, ct, cK, cE, ck, cr, cR, cz⟩ := id hC
  obtain ⟨hd, rfl⟩ := hd
  unfold on_Cl at hx
  cases hq : r with
  | none => rw [hq] at hx; cases hx
  | some q =>
    rw [hq] at hx
    subst cR
    obtain ⟨m1, m2, m3, m4, m5, m6, m7⟩ := hM
    simp only [on_ok, Bool.and_eq_true] at hr
    obtain ⟨⟨r1, r2⟩, r3⟩ := hr
    have cb' : CallB _ s args own idx y2 cy ny (some .boolean) (.code y2 cy ny (some .boolean) :: on_T) { frames := f2, cells := 0, slots := 0, locals := l2 } 0 0 1 := callB_of (R := { frames := fr, cells := 0, slots := 0, locals := lo }) 1 ct (on_goodT m1) rfl rfl rfl (ct _ m4) (ct _ hw) ⟨m5, m6, m7⟩ ⟨Nat.le_of_ble_eq_true r1, Nat.le_of_ble_eq_true r2⟩
    refine on_runQ (q := q) (va_runV (As := [w1]) (rest := rest) (C := y2.cls) ⟨cx, cb, cm, co, ct⟩ (hc q hq) ⟨cb', ct _ m2, ct _ m3⟩ ⟨on_U_blind, ?_, ?_⟩ rfl rfl hl.1 rfl (lv_room (Nat.le_of_ble_eq_true r3)) hd ⟨Nat.le_refl _, Nat.le_refl _⟩) hS ?_
    · have h1 := va_recv (ci := ci) cK hP.2 hq2 ((on_ws_at E z σ hn).trans (by rw [on_ce0 hs]))
      rw [← hqy]
      exact h1
    · intro U hU hW
      exact ⟨rfl, by rw [hU]; exact hP, va_K.moved hW.alike cK, cE.warm hW (fun q h1 h2 => by rw [hU]; exact hS.2.1 q h1 h2)⟩
    · intro H1 locs1 g1 g2
      exact k q.1 q.2 hC hx H1 locs1 ls g1 g2 hl
theorem on_cS1z {idx f2 l2 ny : Nat} {y2 : MethodName} {cy : ByteArray} {w1 : Value} {r : Option on_O} {kk : Int → on_S → Option on_O} (hM : on_Ms y2 cy ny (some .boolean) 1) (hw : Cond.methodLink own idx y2 ∈ on_T) (hc : on_Sp E y2 cy ny (some .boolean) f2 l2 z n [w1] σ r) (hr : on_ok f2 ny l2 fr lo rest = true) (hd : on_dq cc pc 3 pc2 (.invokestatic idx)) (k : ∀ (v : Int) (σ2 : on_S), on_G X E cc own rt fr lo nL z n σ2 (kk v σ2) pc2 lv (.int (on_i v) :: rest)) : on_G X E cc own rt fr lo nL z n σ (on_Cl r kk) pc lv (w1 :: rest) := by
  obtain ⟨p, e, R, s, m, args, below, meth, c, out⟩ := X
  intro hC hx H locs ls hP hS hl
  obtain ⟨cx, cb, cm, co, ct, cK, cE, ck, cr, cR, cz⟩ := id hC
  obtain ⟨hd, rfl⟩ := hd
  unfold on_Cl at hx
  cases hq : r with
  | none => rw [hq] at hx; cases hx
  | some q =>
    rw [hq] at hx
    subst cR
    obtain ⟨m1, m2, m4, m5, m6, m7⟩ := hM
    simp only [on_ok, Bool.and_eq_true] at hr
    obtain ⟨⟨r1, r2⟩, r3⟩ := hr
    have cb' : CallB _ s args own idx y2 cy ny (some .boolean) (.code y2 cy ny (some .boolean) :: on_T) { frames := f2, cells := 0, slots := 0, locals := l2 } 0 0 1 := callB_of (R := { frames := fr, cells := 0, slots := 0, locals := lo }) 1 ct (on_goodT m1) rfl rfl rfl (ct _ m4) (ct _ hw) ⟨m5, m6, m7⟩ ⟨Nat.le_of_ble_eq_true r1, Nat.le_of_ble_eq_true r2⟩
    refine on_runQ (q := q) (va_runS (As := [w1]) (rest := rest) ⟨cx, cb, cm, co, ct⟩ (hc q hq) ⟨cb', ct _ m2⟩ ⟨on_U_blind, ?_⟩ rfl rfl hl.1 rfl (lv_room (Nat.le_of_ble_eq_true r3)) hd ⟨Nat.le_refl _, Nat.le_refl _⟩) hS ?_
    · intro U hU hW
      exact ⟨rfl, by rw [hU]; exact hP, va_K.moved hW.alike cK, cE.warm hW (fun q h1 h2 => by rw [hU]; exact hS.2.1 q h1 h2)⟩
    · intro H1 locs1 g1 g2
      exact k q.1 q.2 hC hx H1 locs1 ls g1 g2 hl
theorem on_cV1l (ci : Nat) {c2 idx f2 l2 ny : Nat} {y2 : MethodName} {cy : ByteArray} {q2 : vw_C} {w1 : Value} {r : Option on_O} {kk : Int → on_S → Option on_O} (hM : on_Mv y2 cy ny (some .long) 1) (hw : Cond.methodLink own idx y2 ∈ on_T) (hq2 : vwCl[ci]? = some q2) (hqy : q2.1 = y2.cls) (hn : c2 < n) (hs : on_sh c2 = (0, ci)) (hc : on_Sp E y2 cy ny (some .long) f2 l2 z n [.ref (z + c2), w1] σ r) (hr : on_ok f2 ny l2 fr lo rest = true) (hd : on_dq cc pc 3 pc2 (.invokevirtual idx)) (k : ∀ (v : Int) (σ2 : on_S), on_G X E cc own rt fr lo nL z n σ2 (kk v σ2) pc2 lv (.long (on_l v) :: rest)) : on_G X E cc own rt fr lo nL z n σ (on_Cl r kk) pc lv (w1 :: .ref (z + c2) :: rest) := by
  obtain ⟨p, e, R, s, m, args, below, meth, c, out⟩ := X
  intro hC hx H locs ls hP hS hl
  obtain ⟨cx, cb, cm, co, ct, cK, cE, ck, cr, cR, cz⟩ := id hC
  obtain ⟨hd, rfl⟩ := hd
  unfold on_Cl at hx
  cases hq : r with
  | none => rw [hq] at hx; cases hx
  | some q =>
    rw [hq] at hx
    subst cR
    obtain ⟨m1, m2, m3, m4, m5, m6, m7⟩ := hM
    simp only [on_ok, Bool.and_eq_true] at hr
    obtain ⟨⟨r1, r2⟩, r3⟩ := hr
    have cb' : CallB _ s args own idx y2 cy ny (some .long) (.code y2 cy ny (some .long) :: on_T) { frames := f2, cells := 0, slots := 0, locals := l2 } 0 0 1 := callB_of (R := { frames := fr, cells := 0, slots := 0, locals := lo }) 1 ct (on_goodT m1) rfl rfl rfl (ct _ m4) (ct _ hw) ⟨m5, m6, m7⟩ ⟨Nat.le_of_ble_eq_true r1, Nat.le_of_ble_eq_true r2⟩
    refine on_runQ (q := q) (va_runV (As := [w1]) (rest := rest) (C := y2.cls) ⟨cx, cb, cm, co, ct⟩ (hc q hq) ⟨cb', ct _ m2, ct _ m3⟩ ⟨on_U_blind, ?_, ?_⟩ rfl rfl hl.1 rfl (lv_room (Nat.le_of_ble_eq_true r3)) hd ⟨Nat.le_refl _, Nat.le_refl _⟩) hS ?_
    · have h1 := va_recv (ci := ci) cK hP.2 hq2 ((on_ws_at E z σ hn).trans (by rw [on_ce0 hs]))
      rw [← hqy]
      exact h1
    · intro U hU hW
      exact ⟨rfl, by rw [hU]; exact hP, va_K.moved hW.alike cK, cE.warm hW (fun q h1 h2 => by rw [hU]; exact hS.2.1 q h1 h2)⟩
    · intro H1 locs1 g1 g2
      exact k q.1 q.2 hC hx H1 locs1 ls g1 g2 hl
theorem on_cS1l {idx f2 l2 ny : Nat} {y2 : MethodName} {cy : ByteArray} {w1 : Value} {r : Option on_O} {kk : Int → on_S → Option on_O} (hM : on_Ms y2 cy ny (some .long) 1) (hw : Cond.methodLink own idx y2 ∈ on_T) (hc : on_Sp E y2 cy ny (some .long) f2 l2 z n [w1] σ r) (hr : on_ok f2 ny l2 fr lo rest = true) (hd : on_dq cc pc 3 pc2 (.invokestatic idx)) (k : ∀ (v : Int) (σ2 : on_S), on_G X E cc own rt fr lo nL z n σ2 (kk v σ2) pc2 lv (.long (on_l v) :: rest)) : on_G X E cc own rt fr lo nL z n σ (on_Cl r kk) pc lv (w1 :: rest) := by
  obtain ⟨p, e, R, s, m, args, below, meth, c, out⟩ := X
  intro hC hx H locs ls hP hS hl
  obtain ⟨cx, cb, cm, co, ct, cK, cE, ck, cr, cR, cz⟩ := id hC
  obtain ⟨hd, rfl⟩ := hd
  unfold on_Cl at hx
  cases hq : r with
  | none => rw [hq] at hx; cases hx
  | some q =>
    rw [hq] at hx
    subst cR
    obtain ⟨m1, m2, m4, m5, m6, m7⟩ := hM
    simp only [on_ok, Bool.and_eq_true] at hr
    obtain ⟨⟨r1, r2⟩, r3⟩ := hr
    have cb' : CallB _ s args own idx y2 cy ny (some .long) (.code y2 cy ny (some .long) :: on_T) { frames := f2, cells := 0, slots := 0, locals := l2 } 0 0 1 := callB_of (R := { frames := fr, cells := 0, slots := 0, locals := lo }) 1 ct (on_goodT m1) rfl rfl rfl (ct _ m4) (ct _ hw) ⟨m5, m6, m7⟩ ⟨Nat.le_of_ble_eq_true r1, Nat.le_of_ble_eq_true r2⟩
    refine on_runQ (q := q) (va_runS (As := [w1]) (rest := rest) ⟨cx, cb, cm, co, ct⟩ (hc q hq) ⟨cb', ct _ m2⟩ ⟨on_U_blind, ?_⟩ rfl rfl hl.1 rfl (lv_room (Nat.le_of_ble_eq_true r3)) hd ⟨Nat.le_refl _, Nat.le_refl _⟩) hS ?_
    · intro U hU hW
      exact ⟨rfl, by rw [hU]; exact hP, va_K.moved hW.alike cK, cE.warm hW (fun q h1 h2 => by rw [hU]; exact hS.2.1 q h1 h2)⟩
    · intro H1 locs1 g1 g2
      exact k q.1 q.2 hC hx H1 locs1 ls g1 g2 hl
theorem on_cV1v (ci : Nat) {c2 idx f2 l2 ny : Nat} {y2 : MethodName} {cy : ByteArray} {q2 : vw_C} {w1 : Value} {r : Option on_O} {kk : Int → on_S → Option on_O} (hM : on_Mv y2 cy ny none 1) (hw : Cond.methodLink own idx y2 ∈ on_T) (hq2 : vwCl[ci]? = some q2) (hqy : q2.1 = y2.cls) (hn : c2 < n) (hs : on_sh c2 = (0, ci)) (hc : on_Sp E y2 cy ny none f2 l2 z n [.ref (z + c2), w1] σ r) (hr : on_ok f2 ny l2 fr lo rest = true) (hd : on_dq cc pc 3 pc2 (.invokevirtual idx)) (k : ∀ (v : Int) (σ2 : on_S), on_G X E cc own rt fr lo nL z n σ2 (kk v σ2) pc2 lv rest) : on_G X E cc own rt fr lo nL z n σ (on_Cl r kk) pc lv (w1 :: .ref (z + c2) :: rest) := by
  obtain ⟨p, e, R, s, m, args, below, meth, c, out⟩ := X
  intro hC hx H locs ls hP hS hl
  obtain ⟨cx, cb, cm, co, ct, cK, cE, ck, cr, cR, cz⟩ := id hC
  obtain ⟨hd, rfl⟩ := hd
  unfold on_Cl at hx
  cases hq : r with
  | none => rw [hq] at hx; cases hx
  | some q =>
    rw [hq] at hx
    subst cR
    obtain ⟨m1, m2, m3, m4, m5, m6, m7⟩ := hM
    simp only [on_ok, Bool.and_eq_true] at hr
    obtain ⟨⟨r1, r2⟩, r3⟩ := hr
    have cb' : CallB _ s args own idx y2 cy ny none (.code y2 cy ny none :: on_T) { frames := f2, cells := 0, slots := 0, locals := l2 } 0 0 1 := callB_of (R := { frames := fr, cells := 0, slots := 0, locals := lo }) 1 ct (on_goodT m1) rfl rfl rfl (ct _ m4) (ct _ hw) ⟨m5, m6, m7⟩ ⟨Nat.le_of_ble_eq_true r1, Nat.le_of_ble_eq_true r2⟩
    refine on_runQ (q := q) (va_runV (As := [w1]) (rest := rest) (C := y2.cls) ⟨cx, cb, cm, co, ct⟩ (hc q hq) ⟨cb', ct _ m2, ct _ m3⟩ ⟨on_U_blind, ?_, ?_⟩ rfl rfl hl.1 rfl (lv_room (Nat.le_of_ble_eq_true r3)) hd ⟨Nat.le_refl _, Nat.le_refl _⟩) hS ?_
    · have h1 := va_recv (ci := ci) cK hP.2 hq2 ((on_ws_at E z σ hn).trans (by rw [on_ce0 hs]))
      rw [← hqy]
      exact h1
    · intro U hU hW
      exact ⟨rfl, by rw [hU]; exact hP, va_K.moved hW.alike cK, cE.warm hW (fun q h1 h2 => by rw [hU]; exact hS.2.1 q h1 h2)⟩
    · intro H1 locs1 g1 g2
      exact k q.1 q.2 hC hx H1 locs1 ls g1 g2 hl
theorem on_cS1v {idx f2 l2 ny : Nat} {y2 : MethodName} {cy : ByteArray} {w1 : Value} {r : Option on_O} {kk : Int → on_S → Option on_O} (hM : on_Ms y2 cy ny none 1) (hw : Cond.methodLink own idx y2 ∈ on_T) (hc : on_Sp E y2 cy ny none f2 l2 z n [w1] σ r) (hr : on_ok f2 ny l2 fr lo rest = true) (hd : on_dq cc pc 3 pc2 (.invokestatic idx)) (k : ∀ (v : Int) (σ2 : on_S), on_G X E cc own rt fr lo nL z n σ2 (kk v σ2) pc2 lv rest) : on_G X E cc own rt fr lo nL z n σ (on_Cl r kk) pc lv (w1 :: rest) := by
  obtain ⟨p, e, R, s, m, args, below, meth, c, out⟩ := X
  intro hC hx H locs ls hP hS hl
  obtain ⟨cx, cb, cm, co, ct, cK, cE, ck, cr, cR, cz⟩ := id hC
  obtain ⟨hd, rfl⟩ := hd
  unfold on_Cl at hx
  cases hq : r with
  | none => rw [hq] at hx; cases hx
  | some q =>
    rw [hq] at hx
    subst cR
    obtain ⟨m1, m2, m4, m5, m6, m7⟩ := hM
    simp only [on_ok, Bool.and_eq_true] at hr
    obtain ⟨⟨r1, r2⟩, r3⟩ := hr
    have cb' : CallB _ s args own idx y2 cy ny none (.code y2 cy ny none :: on_T) { frames := f2, cells := 0, slots := 0, locals := l2 } 0 0 1 := callB_of (R := { frames := fr, cells := 0, slots := 0, locals := lo }) 1 ct (on_goodT m1) rfl rfl rfl (ct _ m4) (ct _ hw) ⟨m5, m6, m7⟩ ⟨Nat.le_of_ble_eq_true r1, Nat.le_of_ble_eq_true r2⟩
    refine on_runQ (q := q) (va_runS (As := [w1]) (rest := rest) ⟨cx, cb, cm, co, ct⟩ (hc q hq) ⟨cb', ct _ m2⟩ ⟨on_U_blind, ?_⟩ rfl rfl hl.1 rfl (lv_room (Nat.le_of_ble_eq_true r3)) hd ⟨Nat.le_refl _, Nat.le_refl _⟩) hS ?_
    · intro U hU hW
      exact ⟨rfl, by rw [hU]; exact hP, va_K.moved hW.alike cK, cE.warm hW (fun q h1 h2 => by rw [hU]; exact hS.2.1 q h1 h2)⟩
    · intro H1 locs1 g1 g2
      exact k q.1 q.2 hC hx H1 locs1 ls g1 g2 hl
theorem on_cV2i (ci : Nat) {c2 idx f2 l2 ny : Nat} {y2 : MethodName} {cy : ByteArray} {q2 : vw_C} {w1 w2 : Value} {r : Option on_O} {kk : Int → on_S → Option on_O} (hM : on_Mv y2 cy ny (some .int) 2) (hw : Cond.methodLink own idx y2 ∈ on_T) (hq2 : vwCl[ci]? = some q2) (hqy : q2.1 = y2.cls) (hn : c2 < n) (hs : on_sh c2 = (0, ci)) (hc : on_Sp E y2 cy ny (some .int) f2 l2 z n [.ref (z + c2), w1, w2] σ r) (hr : on_ok f2 ny l2 fr lo rest = true) (hd : on_dq cc pc 3 pc2 (.invokevirtual idx)) (k : ∀ (v : Int) (σ2 : on_S), on_G X E cc own rt fr lo nL z n σ2 (kk v σ2) pc2 lv (.int (on_i v) :: rest)) : on_G X E cc own rt fr lo nL z n σ (on_Cl r kk) pc lv (w2 :: w1 :: .ref (z + c2) :: rest) := by
  obtain ⟨p, e, R, s, m, args, below, meth, c, out⟩ := X
  intro hC hx H locs ls hP hS hl
  obtain ⟨cx, cb, cm, co, ct, cK, cE, ck, cr, cR, cz⟩ := id hC
  obtain ⟨hd, rfl⟩ := hd
  unfold on_Cl at hx
  cases hq : r with
  | none => rw [hq] at hx; cases hx
  | some q =>
    rw [hq] at hx
    subst cR
    obtain ⟨m1, m2, m3, m4, m5, m6, m7⟩ := hM
    simp only [on_ok, Bool.and_eq_true] at hr
    obtain ⟨⟨r1, r2⟩, r3⟩ := hr
    have cb' : CallB _ s args own idx y2 cy ny (some .int) (.code y2 cy ny (some .int) :: on_T) { frames := f2, cells := 0, slots := 0, locals := l2 } 0 0 2 := callB_of (R := { frames := fr, cells := 0, slots := 0, locals := lo }) 2 ct (on_goodT m1) rfl rfl rfl (ct _ m4) (ct _ hw) ⟨m5, m6, m7⟩ ⟨Nat.le_of_ble_eq_true r1, Nat.le_of_ble_eq_true r2⟩
    refine on_runQ (q := q) (va_runV (As := [w1, w2]) (rest := rest) (C := y2.cls) ⟨cx, cb, cm, co, ct⟩ (hc q hq) ⟨cb', ct _ m2, ct _ m3⟩ ⟨on_U_blind, ?_, ?_⟩ rfl rfl hl.1 rfl (lv_room (Nat.le_of_ble_eq_true r3)) hd ⟨Nat.le_refl _, Nat.le_refl _⟩) hS ?_
    · have h1 := va_recv (ci := ci) cK hP.2 hq2 ((on_ws_at E z σ hn).trans (by rw [on_ce0 hs]))
      rw [← hqy]
      exact h1
    · intro U hU hW
      exact ⟨rfl, by rw [hU]; exact hP, va_K.moved hW.alike cK, cE.warm hW (fun q h1 h2 => by rw [hU]; exact hS.2.1 q h1 h2)⟩
    · intro H1 locs1 g1 g2
      exact k q.1 q.2 hC hx H1 locs1 ls g1 g2 hl
theorem on_cS2i {idx f2 l2 ny : Nat} {y2 : MethodName} {cy : ByteArray} {w1 w2 : Value} {r : Option on_O} {kk : Int → on_S → Option on_O} (hM : on_Ms y2 cy ny (some .int) 2) (hw : Cond.methodLink own idx y2 ∈ on_T) (hc : on_Sp E y2 cy ny (some .int) f2 l2 z n [w1, w2] σ r) (hr : on_ok f2 ny l2 fr lo rest = true) (hd : on_dq cc pc 3 pc2 (.invokestatic idx)) (k : ∀ (v : Int) (σ2 : on_S), on_G X E cc own rt fr lo nL z n σ2 (kk v σ2) pc2 lv (.int (on_i v) :: rest)) : on_G X E cc own rt fr lo nL z n σ (on_Cl r kk) pc lv (w2 :: w1 :: rest) := by
  obtain ⟨p, e, R, s, m, args, below, meth, c, out⟩ := X
  intro hC hx H locs ls hP hS hl
  obtain ⟨cx, cb, cm, co, ct, cK, cE, ck, cr, cR, cz⟩ := id hC
  obtain ⟨hd, rfl⟩ := hd
  unfold on_Cl at hx
  cases hq : r with
  | none => rw [hq] at hx; cases hx
  | some q =>
    rw [hq] at hx
    subst cR
    obtain ⟨m1, m2, m4, m5, m6, m7⟩ := hM
    simp only [on_ok, Bool.and_eq_true] at hr
    obtain ⟨⟨r1, r2⟩, r3⟩ := hr
    have cb' : CallB _ s args own idx y2 cy ny (some .int) (.code y2 cy ny (some .int) :: on_T) { frames := f2, cells := 0, slots := 0, locals := l2 } 0 0 2 := callB_of (R := { frames := fr, cells := 0, slots := 0, locals := lo }) 2 ct (on_goodT m1) rfl rfl rfl (ct _ m4) (ct _ hw) ⟨m5, m6, m7⟩ ⟨Nat.le_of_ble_eq_true r1, Nat.le_of_ble_eq_true r2⟩
    refine on_runQ (q := q) (va_runS (As := [w1, w2]) (rest := rest) ⟨cx, cb, cm, co, ct⟩ (hc q hq) ⟨cb', ct _ m2⟩ ⟨on_U_blind, ?_⟩ rfl rfl hl.1 rfl (lv_room (Nat.le_of_ble_eq_true r3)) hd ⟨Nat.le_refl _, Nat.le_refl _⟩) hS ?_
    · intro U hU hW
      exact ⟨rfl, by rw [hU]; exact hP, va_K.moved hW.alike cK, cE.warm hW (fun q h1 h2 => by rw [hU]; exact hS.2.1 q h1 h2)⟩
    · intro H1 locs1 g1 g2
      exact k q.1 q.2 hC hx H1 locs1 ls g1 g2 hl
theorem on_cV2z (ci : Nat) {c2 idx f2 l2 ny : Nat} {y2 : MethodName} {cy : ByteArray} {q2 : vw_C} {w1 w2 : Value} {r : Option on_O} {kk : Int → on_S → Option on_O} (hM : on_Mv y2 cy ny (some .boolean) 2) (hw : Cond.methodLink own idx y2 ∈ on_T) (hq2 : vwCl[ci]? = some q2) (hqy : q2.1 = y2.cls) (hn : c2 < n) (hs : on_sh c2 = (0, ci)) (hc : on_Sp E y2 cy ny (some .boolean) f2 l2 z n [.ref (z + c2), w1, w2] σ r) (hr : on_ok f2 ny l2 fr lo rest = true) (hd : on_dq cc pc 3 pc2 (.invokevirtual idx)) (k : ∀ (v : Int) (σ2 : on_S), on_G X E cc own rt fr lo nL z n σ2 (kk v σ2) pc2 lv (.int (on_i v) :: rest)) : on_G X E cc own rt fr lo nL z n σ (on_Cl r kk) pc lv (w2 :: w1 :: .ref (z + c2) :: rest) := by
  obtain ⟨p, e, R, s, m, args, below, meth, c, out⟩ := X
  intro hC hx H locs ls hP hS hl
  obtain ⟨cx, cb, cm, co, ct, cK, cE, ck, cr, cR, cz⟩ := id hC
  obtain ⟨hd, rfl⟩ := hd
  unfold on_Cl at hx
  cases hq : r with
  | none => rw [hq] at hx; cases hx
  | some q =>
    rw [hq] at hx
    subst cR
    obtain ⟨m1, m2, m3, m4, m5, m6, m7⟩ := hM
    simp only [on_ok, Bool.and_eq_true] at hr
    obtain ⟨⟨r1, r2⟩, r3⟩ := hr
    have cb' : CallB _ s args own idx y2 cy ny (some .boolean) (.code y2 cy ny (some .boolean) :: on_T) { frames := f2, cells := 0, slots := 0, locals := l2 } 0 0 2 := callB_of (R := { frames := fr, cells := 0, slots := 0, locals := lo }) 2 ct (on_goodT m1) rfl rfl rfl (ct _ m4) (ct _ hw) ⟨m5, m6, m7⟩ ⟨Nat.le_of_ble_eq_true r1, Nat.le_of_ble_eq_true r2⟩
    refine on_runQ (q := q) (va_runV (As := [w1, w2]) (rest := rest) (C := y2.cls) ⟨cx, cb, cm, co, ct⟩ (hc q hq) ⟨cb', ct _ m2, ct _ m3⟩ ⟨on_U_blind, ?_, ?_⟩ rfl rfl hl.1 rfl (lv_room (Nat.le_of_ble_eq_true r3)) hd ⟨Nat.le_refl _, Nat.le_refl _⟩) hS ?_
    · have h1 := va_recv (ci := ci) cK hP.2 hq2 ((on_ws_at E z σ hn).trans (by rw [on_ce0 hs]))
      rw [← hqy]
      exact h1
    · intro U hU hW
      exact ⟨rfl, by rw [hU]; exact hP, va_K.moved hW.alike cK, cE.warm hW (fun q h1 h2 => by rw [hU]; exact hS.2.1 q h1 h2)⟩
    · intro H1 locs1 g1 g2
      exact k q.1 q.2 hC hx H1 locs1 ls g1 g2 hl
theorem on_cS2z {idx f2 l2 ny : Nat} {y2 : MethodName} {cy : ByteArray} {w1 w2 : Value} {r : Option on_O} {kk : Int → on_S → Option on_O} (hM : on_Ms y2 cy ny (some .boolean) 2) (hw : Cond.methodLink own idx y2 ∈ on_T) (hc : on_Sp E y2 cy ny (some .boolean) f2 l2 z n [w1, w2] σ r) (hr : on_ok f2 ny l2 fr lo rest = true) (hd : on_dq cc pc 3 pc2 (.invokestatic idx)) (k : ∀ (v : Int) (σ2 : on_S), on_G X E cc own rt fr lo nL z n σ2 (kk v σ2) pc2 lv (.int (on_i v) :: rest)) : on_G X E cc own rt fr lo nL z n σ (on_Cl r kk) pc lv (w2 :: w1 :: rest) := by
  obtain ⟨p, e, R, s, m, args, below, meth, c, out⟩ := X
  intro hC hx H locs ls hP hS hl
  obtain ⟨cx, cb, cm, co, ct, cK, cE, ck, cr, cR, cz⟩ := id hC
  obtain ⟨hd, rfl⟩ := hd
  unfold on_Cl at hx
  cases hq : r with
  | none => rw [hq] at hx; cases hx
  | some q =>
    rw [hq] at hx
    subst cR
    obtain ⟨m1, m2, m4, m5, m6, m7⟩ := hM
    simp only [on_ok, Bool.and_eq_true] at hr
    obtain ⟨⟨r1, r2⟩, r3⟩ := hr
    have cb' : CallB _ s args own idx y2 cy ny (some .boolean) (.code y2 cy ny (some .boolean) :: on_T) { frames := f2, cells := 0, slots := 0, locals := l2 } 0 0 2 := callB_of (R := { frames := fr, cells := 0, slots := 0, locals := lo }) 2 ct (on_goodT m1) rfl rfl rfl (ct _ m4) (ct _ hw) ⟨m5, m6, m7⟩ ⟨Nat.le_of_ble_eq_true r1, Nat.le_of_ble_eq_true r2⟩
    refine on_runQ (q := q) (va_runS (As := [w1, w2]) (rest := rest) ⟨cx, cb, cm, co, ct⟩ (hc q hq) ⟨cb', ct _ m2⟩ ⟨on_U_blind, ?_⟩ rfl rfl hl.1 rfl (lv_room (Nat.le_of_ble_eq_true r3)) hd ⟨Nat.le_refl _, Nat.le_refl _⟩) hS ?_
    · intro U hU hW
      exact ⟨rfl, by rw [hU]; exact hP, va_K.moved hW.alike cK, cE.warm hW (fun q h1 h2 => by rw [hU]; exact hS.2.1 q h1 h2)⟩
    · intro H1 locs1 g1 g2
      exact k q.1 q.2 hC hx H1 locs1 ls g1 g2 hl
theorem on_cV2l (ci : Nat) {c2 idx f2 l2 ny : Nat} {y2 : MethodName} {cy : ByteArray} {q2 : vw_C} {w1 w2 : Value} {r : Option on_O} {kk : Int → on_S → Option on_O} (hM : on_Mv y2 cy ny (some .long) 2) (hw : Cond.methodLink own idx y2 ∈ on_T) (hq2 : vwCl[ci]? = some q2) (hqy : q2.1 = y2.cls) (hn : c2 < n) (hs : on_sh c2 = (0, ci)) (hc : on_Sp E y2 cy ny (some .long) f2 l2 z n [.ref (z + c2), w1, w2] σ r) (hr : on_ok f2 ny l2 fr lo rest = true) (hd : on_dq cc pc 3 pc2 (.invokevirtual idx)) (k : ∀ (v : Int) (σ2 : on_S), on_G X E cc own rt fr lo nL z n σ2 (kk v σ2) pc2 lv (.long (on_l v) :: rest)) : on_G X E cc own rt fr lo nL z n σ (on_Cl r kk) pc lv (w2 :: w1 :: .ref (z + c2) :: rest) := by
  obtain ⟨p, e, R, s, m, args, below, meth, c, out⟩ := X
  intro hC hx H locs ls hP hS hl
  obtain ⟨cx, cb, cm, co, ct, cK, cE, ck, cr, cR, cz⟩ := id hC
  obtain ⟨hd, rfl⟩ := hd
  unfold on_Cl at hx
  cases hq : r with
  | none => rw [hq] at hx; cases hx
  | some q =>
    rw [hq] at hx
    subst cR
    obtain ⟨m1, m2, m3, m4, m5, m6, m7⟩ := hM
    simp only [on_ok, Bool.and_eq_true] at hr
    obtain ⟨⟨r1, r2⟩, r3⟩ := hr
    have cb' : CallB _ s args own idx y2 cy ny (some .long) (.code y2 cy ny (some .long) :: on_T) { frames := f2, cells := 0, slots := 0, locals := l2 } 0 0 2 := callB_of (R := { frames := fr, cells := 0, slots := 0, locals := lo }) 2 ct (on_goodT m1) rfl rfl rfl (ct _ m4) (ct _ hw) ⟨m5, m6, m7⟩ ⟨Nat.le_of_ble_eq_true r1, Nat.le_of_ble_eq_true r2⟩
    refine on_runQ (q := q) (va_runV (As := [w1, w2]) (rest := rest) (C := y2.cls) ⟨cx, cb, cm, co, ct⟩ (hc q hq) ⟨cb', ct _ m2, ct _ m3⟩ ⟨on_U_blind, ?_, ?_⟩ rfl rfl hl.1 rfl (lv_room (Nat.le_of_ble_eq_true r3)) hd ⟨Nat.le_refl _, Nat.le_refl _⟩) hS ?_
    · have h1 := va_recv (ci := ci) cK hP.2 hq2 ((on_ws_at E z σ hn).trans (by rw [on_ce0 hs]))
      rw [← hqy]
      exact h1
    · intro U hU hW
      exact ⟨rfl, by rw [hU]; exact hP, va_K.moved hW.alike cK, cE.warm hW (fun q h1 h2 => by rw [hU]; exact hS.2.1 q h1 h2)⟩
    · intro H1 locs1 g1 g2
      exact k q.1 q.2 hC hx H1 locs1 ls g1 g2 hl
theorem on_cS2l {idx f2 l2 ny : Nat} {y2 : MethodName} {cy : ByteArray} {w1 w2 : Value} {r : Option on_O} {kk : Int → on_S → Option on_O} (hM : on_Ms y2 cy ny (some .long) 2) (hw : Cond.methodLink own idx y2 ∈ on_T) (hc : on_Sp E y2 cy ny (some .long) f2 l2 z n [w1, w2] σ r) (hr : on_ok f2 ny l2 fr lo rest = true) (hd : on_dq cc pc 3 pc2 (.invokestatic idx)) (k : ∀ (v : Int) (σ2 : on_S), on_G X E cc own rt fr lo nL z n σ2 (kk v σ2) pc2 lv (.long (on_l v) :: rest)) : on_G X E cc own rt fr lo nL z n σ (on_Cl r kk) pc lv (w2 :: w1 :: rest) := by
  obtain ⟨p, e, R, s, m, args, below, meth, c, out⟩ := X
  intro hC hx H locs ls hP hS hl
  obtain ⟨cx, cb, cm, co, ct, cK, cE, ck, cr, cR, cz⟩ := id hC
  obtain ⟨hd, rfl⟩ := hd
  unfold on_Cl at hx
  cases hq : r with
  | none => rw [hq] at hx; cases hx
  | some q =>
    rw [hq] at hx
    subst cR
    obtain ⟨m1, m2, m4, m5, m6, m7⟩ := hM
    simp only [on_ok, Bool.and_eq_true] at hr
    obtain ⟨⟨r1, r2⟩, r3⟩ := hr
    have cb' : CallB _ s args own idx y2 cy ny (some .long) (.code y2 cy ny (some .long) :: on_T) { frames := f2, cells := 0, slots := 0, locals := l2 } 0 0 2 := callB_of (R := { frames := fr, cells := 0, slots := 0, locals := lo }) 2 ct (on_goodT m1) rfl rfl rfl (ct _ m4) (ct _ hw) ⟨m5, m6, m7⟩ ⟨Nat.le_of_ble_eq_true r1, Nat.le_of_ble_eq_true r2⟩
    refine on_runQ (q := q) (va_runS (As := [w1, w2]) (rest := rest) ⟨cx, cb, cm, co, ct⟩ (hc q hq) ⟨cb', ct _ m2⟩ ⟨on_U_blind, ?_⟩ rfl rfl hl.1 rfl (lv_room (Nat.le_of_ble_eq_true r3)) hd ⟨Nat.le_refl _, Nat.le_refl _⟩) hS ?_
    · intro U hU hW
      exact ⟨rfl, by rw [hU]; exact hP, va_K.moved hW.alike cK, cE.warm hW (fun q h1 h2 => by rw [hU]; exact hS.2.1 q h1 h2)⟩
    · intro H1 locs1 g1 g2
      exact k q.1 q.2 hC hx H1 locs1 ls g1 g2 hl
theorem on_cV2v (ci : Nat) {c2 idx f2 l2 ny : Nat} {y2 : MethodName} {cy : ByteArray} {q2 : vw_C} {w1 w2 : Value} {r : Option on_O} {kk : Int → on_S → Option on_O} (hM : on_Mv y2 cy ny none 2) (hw : Cond.methodLink own idx y2 ∈ on_T) (hq2 : vwCl[ci]? = some q2) (hqy : q2.1 = y2.cls) (hn : c2 < n) (hs : on_sh c2 = (0, ci)) (hc : on_Sp E y2 cy ny none f2 l2 z n [.ref (z + c2), w1, w2] σ r) (hr : on_ok f2 ny l2 fr lo rest = true) (hd : on_dq cc pc 3 pc2 (.invokevirtual idx)) (k : ∀ (v : Int) (σ2 : on_S), on_G X E cc own rt fr lo nL z n σ2 (kk v σ2) pc2 lv rest) : on_G X E cc own rt fr lo nL z n σ (on_Cl r kk) pc lv (w2 :: w1 :: .ref (z + c2) :: rest) := by
  obtain ⟨p, e, R, s, m, args, below, meth, c, out⟩ := X
  intro hC hx H locs ls hP hS hl
  obtain ⟨cx, cb, cm, co, ct, cK, cE, ck, cr, cR, cz⟩ := id hC
  obtain ⟨hd, rfl⟩ := hd
  unfold on_Cl at hx
  cases hq : r with
  | none => rw [hq] at hx; cases hx
  | some q =>
    rw [hq] at hx
    subst cR
    obtain ⟨m1, m2, m3, m4, m5, m6, m7⟩ := hM
    simp only [on_ok, Bool.and_eq_true] at hr
    obtain ⟨⟨r1, r2⟩, r3⟩ := hr
    have cb' : CallB _ s args own idx y2 cy ny none (.code y2 cy ny none :: on_T) { frames := f2, cells := 0, slots := 0, locals := l2 } 0 0 2 := callB_of (R := { frames := fr, cells := 0, slots := 0, locals := lo }) 2 ct (on_goodT m1) rfl rfl rfl (ct _ m4) (ct _ hw) ⟨m5, m6, m7⟩ ⟨Nat.le_of_ble_eq_true r1, Nat.le_of_ble_eq_true r2⟩
    refine on_runQ (q := q) (va_runV (As := [w1, w2]) (rest := rest) (C := y2.cls) ⟨cx, cb, cm, co, ct⟩ (hc q hq) ⟨cb', ct _ m2, ct _ m3⟩ ⟨on_U_blind, ?_, ?_⟩ rfl rfl hl.1 rfl (lv_room (Nat.le_of_ble_eq_true r3)) hd ⟨Nat.le_refl _, Nat.le_refl _⟩) hS ?_
    · have h1 := va_recv (ci := ci) cK hP.2 hq2 ((on_ws_at E z σ hn).trans (by rw [on_ce0 hs]))
      rw [← hqy]
      exact h1
    · intro U hU hW
      exact ⟨rfl, by rw [hU]; exact hP, va_K.moved hW.alike cK, cE.warm hW (fun q h1 h2 => by rw [hU]; exact hS.2.1 q h1 h2)⟩
    · intro H1 locs1 g1 g2
      exact k q.1 q.2 hC hx H1 locs1 ls g1 g2 hl
theorem on_cS2v {idx f2 l2 ny : Nat} {y2 : MethodName} {cy : ByteArray} {w1 w2 : Value} {r : Option on_O} {kk : Int → on_S → Option on_O} (hM : on_Ms y2 cy ny none 2) (hw : Cond.methodLink own idx y2 ∈ on_T) (hc : on_Sp E y2 cy ny none f2 l2 z n [w1, w2] σ r) (hr : on_ok f2 ny l2 fr lo rest = true) (hd : on_dq cc pc 3 pc2 (.invokestatic idx)) (k : ∀ (v : Int) (σ2 : on_S), on_G X E cc own rt fr lo nL z n σ2 (kk v σ2) pc2 lv rest) : on_G X E cc own rt fr lo nL z n σ (on_Cl r kk) pc lv (w2 :: w1 :: rest) := by
  obtain ⟨p, e, R, s, m, args, below, meth, c, out⟩ := X
  intro hC hx H locs ls hP hS hl
  obtain ⟨cx, cb, cm, co, ct, cK, cE, ck, cr, cR, cz⟩ := id hC
  obtain ⟨hd, rfl⟩ := hd
  unfold on_Cl at hx
  cases hq : r with
  | none => rw [hq] at hx; cases hx
  | some q =>
    rw [hq] at hx
    subst cR
    obtain ⟨m1, m2, m4, m5, m6, m7⟩ := hM
    simp only [on_ok, Bool.and_eq_true] at hr
    obtain ⟨⟨r1, r2⟩, r3⟩ := hr
    have cb' : CallB _ s args own idx y2 cy ny none (.code y2 cy ny none :: on_T) { frames := f2, cells := 0, slots := 0, locals := l2 } 0 0 2 := callB_of (R := { frames := fr, cells := 0, slots := 0, locals := lo }) 2 ct (on_goodT m1) rfl rfl rfl (ct _ m4) (ct _ hw) ⟨m5, m6, m7⟩ ⟨Nat.le_of_ble_eq_true r1, Nat.le_of_ble_eq_true r2⟩
    refine on_runQ (q := q) (va_runS (As := [w1, w2]) (rest := rest) ⟨cx, cb, cm, co, ct⟩ (hc q hq) ⟨cb', ct _ m2⟩ ⟨on_U_blind, ?_⟩ rfl rfl hl.1 rfl (lv_room (Nat.le_of_ble_eq_true r3)) hd ⟨Nat.le_refl _, Nat.le_refl _⟩) hS ?_
    · intro U hU hW
      exact ⟨rfl, by rw [hU]; exact hP, va_K.moved hW.alike cK, cE.warm hW (fun q h1 h2 => by rw [hU]; exact hS.2.1 q h1 h2)⟩
    · intro H1 locs1 g1 g2
      exact k q.1 q.2 hC hx H1 locs1 ls g1 g2 hl
theorem on_cV3i (ci : Nat) {c2 idx f2 l2 ny : Nat} {y2 : MethodName} {cy : ByteArray} {q2 : vw_C} {w1 w2 w3 : Value} {r : Option on_O} {kk : Int → on_S → Option on_O} (hM : on_Mv y2 cy ny (some .int) 3) (hw : Cond.methodLink own idx y2 ∈ on_T) (hq2 : vwCl[ci]? = some q2) (hqy : q2.1 = y2.cls) (hn : c2 < n) (hs : on_sh c2 = (0, ci)) (hc : on_Sp E y2 cy ny (some .int) f2 l2 z n [.ref (z + c2), w1, w2, w3] σ r) (hr : on_ok f2 ny l2 fr lo rest = true) (hd : on_dq cc pc 3 pc2 (.invokevirtual idx)) (k : ∀ (v : Int) (σ2 : on_S), on_G X E cc own rt fr lo nL z n σ2 (kk v σ2) pc2 lv (.int (on_i v) :: rest)) : on_G X E cc own rt fr lo nL z n σ (on_Cl r kk) pc lv (w3 :: w2 :: w1 :: .ref (z + c2) :: rest) := by
  obtain ⟨p, e, R, s, m, args, below, meth, c, out⟩ := X
  intro hC hx H locs ls hP hS hl
  obtain ⟨cx, cb, cm, co, ct, cK, cE, ck, cr, cR, cz⟩ := id hC
  obtain ⟨hd, rfl⟩ := hd
  unfold on_Cl at hx
  cases hq : r with
  | none => rw [hq] at hx; cases hx
  | some q =>
    rw [hq] at hx
    subst cR
    obtain ⟨m1, m2, m3, m4, m5, m6, m7⟩ := hM
    simp only [on_ok, Bool.and_eq_true] at hr
    obtain ⟨⟨r1, r2⟩, r3⟩ := hr
    have cb' : CallB _ s args own idx y2 cy ny (some .int) (.code y2 cy ny (some .int) :: on_T) { frames := f2, cells := 0, slots := 0, locals := l2 } 0 0 3 := callB_of (R := { frames := fr, cells := 0, slots := 0, locals := lo }) 3 ct (on_goodT m1) rfl rfl rfl (ct _ m4) (ct _ hw) ⟨m5, m6, m7⟩ ⟨Nat.le_of_ble_eq_true r1, Nat.le_of_ble_eq_true r2⟩
    refine on_runQ (q := q) (va_runV (As := [w1, w2, w3]) (rest := rest) (C := y2.cls) ⟨cx, cb, cm, co, ct⟩ (hc q hq) ⟨cb', ct _ m2, ct _ m3⟩ ⟨on_U_blind, ?_, ?_⟩ rfl rfl hl.1 rfl (lv_room (Nat.le_of_ble_eq_true r3)) hd ⟨Nat.le_refl _, Nat.le_refl _⟩) hS ?_
    · have h1 := va_recv (ci := ci) cK hP.2 hq2 ((on_ws_at E z σ hn).trans (by rw [on_ce0 hs]))
      rw [← hqy]
      exact h1
    · intro U hU hW
      exact ⟨rfl, by rw [hU]; exact hP, va_K.moved hW.alike cK, cE.warm hW (fun q h1 h2 => by rw [hU]; exact hS.2.1 q h1 h2)⟩
    · intro H1 locs1 g1 g2
      exact k q.1 q.2 hC hx H1 locs1 ls g1 g2 hl
theorem on_cS3i {idx f2 l2 ny : Nat} {y2 : MethodName} {cy : ByteArray} {w1 w2 w3 : Value} {r : Option on_O} {kk : Int → on_S → Option on_O} (hM : on_Ms y2 cy ny (some .int) 3) (hw : Cond.methodLink own idx y2 ∈ on_T) (hc : on_Sp E y2 cy ny (some .int) f2 l2 z n [w1, w2, w3] σ r) (hr : on_ok f2 ny l2 fr lo rest = true) (hd : on_dq cc pc 3 pc2 (.invokestatic idx)) (k : ∀ (v : Int) (σ2 : on_S), on_G X E cc own rt fr lo nL z n σ2 (kk v σ2) pc2 lv (.int (on_i v) :: rest)) : on_G X E cc own rt fr lo nL z n σ (on_Cl r kk) pc lv (w3 :: w2 :: w1 :: rest) := by
  obtain ⟨p, e, R, s, m, args, below, meth, c, out⟩ := X
  intro hC hx H locs ls hP hS hl
  obtain ⟨cx, cb, cm, co, ct, cK, cE, ck, cr, cR, cz⟩ := id hC
  obtain ⟨hd, rfl⟩ := hd
  unfold on_Cl at hx
  cases hq : r with
  | none => rw [hq] at hx; cases hx
  | some q =>
    rw [hq] at hx
    subst cR
    obtain ⟨m1, m2, m4, m5, m6, m7⟩ := hM
    simp only [on_ok, Bool.and_eq_true] at hr
    obtain ⟨⟨r1, r2⟩, r3⟩ := hr
    have cb' : CallB _ s args own idx y2 cy ny (some .int) (.code y2 cy ny (some .int) :: on_T) { frames := f2, cells := 0, slots := 0, locals := l2 } 0 0 3 := callB_of (R := { frames := fr, cells := 0, slots := 0, locals := lo }) 3 ct (on_goodT m1) rfl rfl rfl (ct _ m4) (ct _ hw) ⟨m5, m6, m7⟩ ⟨Nat.le_of_ble_eq_true r1, Nat.le_of_ble_eq_true r2⟩
    refine on_runQ (q := q) (va_runS (As := [w1, w2, w3]) (rest := rest) ⟨cx, cb, cm, co, ct⟩ (hc q hq) ⟨cb', ct _ m2⟩ ⟨on_U_blind, ?_⟩ rfl rfl hl.1 rfl (lv_room (Nat.le_of_ble_eq_true r3)) hd ⟨Nat.le_refl _, Nat.le_refl _⟩) hS ?_
    · intro U hU hW
      exact ⟨rfl, by rw [hU]; exact hP, va_K.moved hW.alike cK, cE.warm hW (fun q h1 h2 => by rw [hU]; exact hS.2.1 q h1 h2)⟩
    · intro H1 locs1 g1 g2
      exact k q.1 q.2 hC hx H1 locs1 ls g1 g2 hl
theorem on_cV3z (ci : Nat) {c2 idx f2 l2 ny : Nat} {y2 : MethodName} {cy : ByteArray} {q2 : vw_C} {w1 w2 w3 : Value} {r : Option on_O} {kk : Int → on_S → Option on_O} (hM : on_Mv y2 cy ny (some .boolean) 3) (hw : Cond.methodLink own idx y2 ∈ on_T) (hq2 : vwCl[ci]? = some q2) (hqy : q2.1 = y2.cls) (hn : c2 < n) (hs : on_sh c2 = (0, ci)) (hc : on_Sp E y2 cy ny (some .boolean) f2 l2 z n [.ref (z + c2), w1, w2, w3] σ r) (hr : on_ok f2 ny l2 fr lo rest = true) (hd : on_dq cc pc 3 pc2 (.invokevirtual idx)) (k : ∀ (v : Int) (σ2 : on_S), on_G X E cc own rt fr lo nL z n σ2 (kk v σ2) pc2 lv (.int (on_i v) :: rest)) : on_G X E cc own rt fr lo nL z n σ (on_Cl r kk) pc lv (w3 :: w2 :: w1 :: .ref (z + c2) :: rest) := by
  obtain ⟨p, e, R, s, m, args, below, meth, c, out⟩ := X
  intro hC hx H locs ls hP hS hl
  obtain ⟨cx, cb, cm, co, ct, cK, cE, ck, cr, cR, cz⟩ := id hC
  obtain ⟨hd, rfl⟩ := hd
  unfold on_Cl at hx
  cases hq : r with
  | none => rw [hq] at hx; cases hx
  | some q =>
    rw [hq] at hx
    subst cR
    obtain ⟨m1, m2, m3, m4, m5, m6, m7⟩ := hM
    simp only [on_ok, Bool.and_eq_true] at hr
    obtain ⟨⟨r1, r2⟩, r3⟩ := hr
    have cb' : CallB _ s args own idx y2 cy ny (some .boolean) (.code y2 cy ny (some .boolean) :: on_T) { frames := f2, cells := 0, slots := 0, locals := l2 } 0 0 3 := callB_of (R := { frames := fr, cells := 0, slots := 0, locals := lo }) 3 ct (on_goodT m1) rfl rfl rfl (ct _ m4) (ct _ hw) ⟨m5, m6, m7⟩ ⟨Nat.le_of_ble_eq_true r1, Nat.le_of_ble_eq_true r2⟩
    refine on_runQ (q := q) (va_runV (As := [w1, w2, w3]) (rest := rest) (C := y2.cls) ⟨cx, cb, cm, co, ct⟩ (hc q hq) ⟨cb', ct _ m2, ct _ m3⟩ ⟨on_U_blind, ?_, ?_⟩ rfl rfl hl.1 rfl (lv_room (Nat.le_of_ble_eq_true r3)) hd ⟨Nat.le_refl _, Nat.le_refl _⟩) hS ?_
    · have h1 := va_recv (ci := ci) cK hP.2 hq2 ((on_ws_at E z σ hn).trans (by rw [on_ce0 hs]))
      rw [← hqy]
      exact h1
    · intro U hU hW
      exact ⟨rfl, by rw [hU]; exact hP, va_K.moved hW.alike cK, cE.warm hW (fun q h1 h2 => by rw [hU]; exact hS.2.1 q h1 h2)⟩
    · intro H1 locs1 g1 g2
      exact k q.1 q.2 hC hx H1 locs1 ls g1 g2 hl
theorem on_cS3z {idx f2 l2 ny : Nat} {y2 : MethodName} {cy : ByteArray} {w1 w2 w3 : Value} {r : Option on_O} {kk : Int → on_S → Option on_O} (hM : on_Ms y2 cy ny (some .boolean) 3) (hw : Cond.methodLink own idx y2 ∈ on_T) (hc : on_Sp E y2 cy ny (some .boolean) f2 l2 z n [w1, w2, w3] σ r) (hr : on_ok f2 ny l2 fr lo rest = true) (hd : on_dq cc pc 3 pc2 (.invokestatic idx)) (k : ∀ (v : Int) (σ2 : on_S), on_G X E cc own rt fr lo nL z n σ2 (kk v σ2) pc2 lv (.int (on_i v) :: rest)) : on_G X E cc own rt fr lo nL z n σ (on_Cl r kk) pc lv (w3 :: w2 :: w1 :: rest) := by
  obtain ⟨p, e, R, s, m, args, below, meth, c, out⟩ := X
  intro hC hx H locs ls hP hS hl
  obtain ⟨cx, cb, cm, co, ct, cK, cE, ck, cr, cR, cz⟩ := id hC
  obtain ⟨hd, rfl⟩ := hd
  unfold on_Cl at hx
  cases hq : r with
  | none => rw [hq] at hx; cases hx
  | some q =>
    rw [hq] at hx
    subst cR
    obtain ⟨m1, m2, m4, m5, m6, m7⟩ := hM
    simp only [on_ok, Bool.and_eq_true] at hr
    obtain ⟨⟨r1, r2⟩, r3⟩ := hr
    have cb' : CallB _ s args own idx y2 cy ny (some .boolean) (.code y2 cy ny (some .boolean) :: on_T) { frames := f2, cells := 0, slots := 0, locals := l2 } 0 0 3 := callB_of (R := { frames := fr, cells := 0, slots := 0, locals := lo }) 3 ct (on_goodT m1) rfl rfl rfl (ct _ m4) (ct _ hw) ⟨m5, m6, m7⟩ ⟨Nat.le_of_ble_eq_true r1, Nat.le_of_ble_eq_true r2⟩
    refine on_runQ (q := q) (va_runS (As := [w1, w2, w3]) (rest := rest) ⟨cx, cb, cm, co, ct⟩ (hc q hq) ⟨cb', ct _ m2⟩ ⟨on_U_blind, ?_⟩ rfl rfl hl.1 rfl (lv_room (Nat.le_of_ble_eq_true r3)) hd ⟨Nat.le_refl _, Nat.le_refl _⟩) hS ?_
    · intro U hU hW
      exact ⟨rfl, by rw [hU]; exact hP, va_K.moved hW.alike cK, cE.warm hW (fun q h1 h2 => by rw [hU]; exact hS.2.1 q h1 h2)⟩
    · intro H1 locs1 g1 g2
      exact k q.1 q.2 hC hx H1 locs1 ls g1 g2 hl
theorem on_cV3l (ci : Nat) {c2 idx f2 l2 ny : Nat} {y2 : MethodName} {cy : ByteArray} {q2 : vw_C} {w1 w2 w3 : Value} {r : Option on_O} {kk : Int → on_S → Option on_O} (hM : on_Mv y2 cy ny (some .long) 3) (hw : Cond.methodLink own idx y2 ∈ on_T) (hq2 : vwCl[ci]? = some q2) (hqy : q2.1 = y2.cls) (hn : c2 < n) (hs : on_sh c2 = (0, ci)) (hc : on_Sp E y2 cy ny (some .long) f2 l2 z n [.ref (z + c2), w1, w2, w3] σ r) (hr : on_ok f2 ny l2 fr lo rest = true) (hd : on_dq cc pc 3 pc2 (.invokevirtual idx)) (k : ∀ (v : Int) (σ2 : on_S), on_G X E cc own rt fr lo nL z n σ2 (kk v σ2) pc2 lv (.long (on_l v) :: rest)) : on_G X E cc own rt fr lo nL z n σ (on_Cl r kk) pc lv (w3 :: w2 :: w1 :: .ref (z + c2) :: rest) := by
  obtain ⟨p, e, R, s, m, args, below, meth, c, out⟩ := X
  intro hC hx H locs ls hP hS hl
  obtain ⟨cx, cb, cm, co, ct, cK, cE, ck, cr, cR, cz⟩ := id hC
  obtain ⟨hd, rfl⟩ := hd
  unfold on_Cl at hx
  cases hq : r with
  | none => rw [hq] at hx; cases hx
  | some q =>
    rw [hq] at hx
    subst cR
    obtain ⟨m1, m2, m3, m4, m5, m6, m7⟩ := hM
    simp only [on_ok, Bool.and_eq_true] at hr
    obtain ⟨⟨r1, r2⟩, r3⟩ := hr
    have cb' : CallB _ s args own idx y2 cy ny (some .long) (.code y2 cy ny (some .long) :: on_T) { frames := f2, cells := 0, slots := 0, locals := l2 } 0 0 3 := callB_of (R := { frames := fr, cells := 0, slots := 0, locals := lo }) 3 ct (on_goodT m1) rfl rfl rfl (ct _ m4) (ct _ hw) ⟨m5, m6, m7⟩ ⟨Nat.le_of_ble_eq_true r1, Nat.le_of_ble_eq_true r2⟩
    refine on_runQ (q := q) (va_runV (As := [w1, w2, w3]) (rest := rest) (C := y2.cls) ⟨cx, cb, cm, co, ct⟩ (hc q hq) ⟨cb', ct _ m2, ct _ m3⟩ ⟨on_U_blind, ?_, ?_⟩ rfl rfl hl.1 rfl (lv_room (Nat.le_of_ble_eq_true r3)) hd ⟨Nat.le_refl _, Nat.le_refl _⟩) hS ?_
    · have h1 := va_recv (ci := ci) cK hP.2 hq2 ((on_ws_at E z σ hn).trans (by rw [on_ce0 hs]))
      rw [← hqy]
      exact h1
    · intro U hU hW
      exact ⟨rfl, by rw [hU]; exact hP, va_K.moved hW.alike cK, cE.warm hW (fun q h1 h2 => by rw [hU]; exact hS.2.1 q h1 h2)⟩
    · intro H1 locs1 g1 g2
      exact k q.1 q.2 hC hx H1 locs1 ls g1 g2 hl
theorem on_cS3l {idx f2 l2 ny : Nat} {y2 : MethodName} {cy : ByteArray} {w1 w2 w3 : Value} {r : Option on_O} {kk : Int → on_S → Option on_O} (hM : on_Ms y2 cy ny (some .long) 3) (hw : Cond.methodLink own idx y2 ∈ on_T) (hc : on_Sp E y2 cy ny (some .long) f2 l2 z n [w1, w2, w3] σ r) (hr : on_ok f2 ny l2 fr lo rest = true) (hd : on_dq cc pc 3 pc2 (.invokestatic idx)) (k : ∀ (v : Int) (σ2 : on_S), on_G X E cc own rt fr lo nL z n σ2 (kk v σ2) pc2 lv (.long (on_l v) :: rest)) : on_G X E cc own rt fr lo nL z n σ (on_Cl r kk) pc lv (w3 :: w2 :: w1 :: rest) := by
  obtain ⟨p, e, R, s, m, args, below, meth, c, out⟩ := X
  intro hC hx H locs ls hP hS hl
  obtain ⟨cx, cb, cm, co, ct, cK, cE, ck, cr, cR, cz⟩ := id hC
  obtain ⟨hd, rfl⟩ := hd
  unfold on_Cl at hx
  cases hq : r with
  | none => rw [hq] at hx; cases hx
  | some q =>
    rw [hq] at hx
    subst cR
    obtain ⟨m1, m2, m4, m5, m6, m7⟩ := hM
    simp only [on_ok, Bool.and_eq_true] at hr
    obtain ⟨⟨r1, r2⟩, r3⟩ := hr
    have cb' : CallB _ s args own idx y2 cy ny (some .long) (.code y2 cy ny (some .long) :: on_T) { frames := f2, cells := 0, slots := 0, locals := l2 } 0 0 3 := callB_of (R := { frames := fr, cells := 0, slots := 0, locals := lo }) 3 ct (on_goodT m1) rfl rfl rfl (ct _ m4) (ct _ hw) ⟨m5, m6, m7⟩ ⟨Nat.le_of_ble_eq_true r1, Nat.le_of_ble_eq_true r2⟩
    refine on_runQ (q := q) (va_runS (As := [w1, w2, w3]) (rest := rest) ⟨cx, cb, cm, co, ct⟩ (hc q hq) ⟨cb', ct _ m2⟩ ⟨on_U_blind, ?_⟩ rfl rfl hl.1 rfl (lv_room (Nat.le_of_ble_eq_true r3)) hd ⟨Nat.le_refl _, Nat.le_refl _⟩) hS ?_
    · intro U hU hW
      exact ⟨rfl, by rw [hU]; exact hP, va_K.moved hW.alike cK, cE.warm hW (fun q h1 h2 => by rw [hU]; exact hS.2.1 q h1 h2)⟩
    · intro H1 locs1 g1 g2
      exact k q.1 q.2 hC hx H1 locs1 ls g1 g2 hl
theorem on_cV3v (ci : Nat) {c2 idx f2 l2 ny : Nat} {y2 : MethodName} {cy : ByteArray} {q2 : vw_C} {w1 w2 w3 : Value} {r : Option on_O} {kk : Int → on_S → Option on_O} (hM : on_Mv y2 cy ny none 3) (hw : Cond.methodLink own idx y2 ∈ on_T) (hq2 : vwCl[ci]? = some q2) (hqy : q2.1 = y2.cls) (hn : c2 < n) (hs : on_sh c2 = (0, ci)) (hc : on_Sp E y2 cy ny none f2 l2 z n [.ref (z + c2), w1, w2, w3] σ r) (hr : on_ok f2 ny l2 fr lo rest = true) (hd : on_dq cc pc 3 pc2 (.invokevirtual idx)) (k : ∀ (v : Int) (σ2 : on_S), on_G X E cc own rt fr lo nL z n σ2 (kk v σ2) pc2 lv rest) : on_G X E cc own rt fr lo nL z n σ (on_Cl r kk) pc lv (w3 :: w2 :: w1 :: .ref (z + c2) :: rest) := by
  obtain ⟨p, e, R, s, m, args, below, meth, c, out⟩ := X
  intro hC hx H locs ls hP hS hl
  obtain ⟨cx, cb, cm, co, ct, cK, cE, ck, cr, cR, cz⟩ := id hC
  obtain ⟨hd, rfl⟩ := hd
  unfold on_Cl at hx
  cases hq : r with
  | none => rw [hq] at hx; cases hx
  | some q =>
    rw [hq] at hx
    subst cR
    obtain ⟨m1, m2, m3, m4, m5, m6, m7⟩ := hM
    simp only [on_ok, Bool.and_eq_true] at hr
    obtain ⟨⟨r1, r2⟩, r3⟩ := hr
    have cb' : CallB _ s args own idx y2 cy ny none (.code y2 cy ny none :: on_T) { frames := f2, cells := 0, slots := 0, locals := l2 } 0 0 3 := callB_of (R := { frames := fr, cells := 0, slots := 0, locals := lo }) 3 ct (on_goodT m1) rfl rfl rfl (ct _ m4) (ct _ hw) ⟨m5, m6, m7⟩ ⟨Nat.le_of_ble_eq_true r1, Nat.le_of_ble_eq_true r2⟩
    refine on_runQ (q := q) (va_runV (As := [w1, w2, w3]) (rest := rest) (C := y2.cls) ⟨cx, cb, cm, co, ct⟩ (hc q hq) ⟨cb', ct _ m2, ct _ m3⟩ ⟨on_U_blind, ?_, ?_⟩ rfl rfl hl.1 rfl (lv_room (Nat.le_of_ble_eq_true r3)) hd ⟨Nat.le_refl _, Nat.le_refl _⟩) hS ?_
    · have h1 := va_recv (ci := ci) cK hP.2 hq2 ((on_ws_at E z σ hn).trans (by rw [on_ce0 hs]))
      rw [← hqy]
      exact h1
    · intro U hU hW
      exact ⟨rfl, by rw [hU]; exact hP, va_K.moved hW.alike cK, cE.warm hW (fun q h1 h2 => by rw [hU]; exact hS.2.1 q h1 h2)⟩
    · intro H1 locs1 g1 g2
      exact k q.1 q.2 hC hx H1 locs1 ls g1 g2 hl
theorem on_cS3v {idx f2 l2 ny : Nat} {y2 : MethodName} {cy : ByteArray} {w1 w2 w3 : Value} {r : Option on_O} {kk : Int → on_S → Option on_O} (hM : on_Ms y2 cy ny none 3) (hw : Cond.methodLink own idx y2 ∈ on_T) (hc : on_Sp E y2 cy ny none f2 l2 z n [w1, w2, w3] σ r) (hr : on_ok f2 ny l2 fr lo rest = true) (hd : on_dq cc pc 3 pc2 (.invokestatic idx)) (k : ∀ (v : Int) (σ2 : on_S), on_G X E cc own rt fr lo nL z n σ2 (kk v σ2) pc2 lv rest) : on_G X E cc own rt fr lo nL z n σ (on_Cl r kk) pc lv (w3 :: w2 :: w1 :: rest) := by
  obtain ⟨p, e, R, s, m, args, below, meth, c, out⟩ := X
  intro hC hx H locs ls hP hS hl
  obtain ⟨cx, cb, cm, co, ct, cK, cE, ck, cr, cR, cz⟩ := id hC
  obtain ⟨hd, rfl⟩ := hd
  unfold on_Cl at hx
  cases hq : r with
  | none => rw [hq] at hx; cases hx
  | some q =>
    rw [hq] at hx
    subst cR
    obtain ⟨m1, m2, m4, m5, m6, m7⟩ := hM
    simp only [on_ok, Bool.and_eq_true] at hr
    obtain ⟨⟨r1, r2⟩, r3⟩ := hr
    have cb' : CallB _ s args own idx y2 cy ny none (.code y2 cy ny none :: on_T) { frames := f2, cells := 0, slots := 0, locals := l2 } 0 0 3 := callB_of (R := { frames := fr, cells := 0, slots := 0, locals := lo }) 3 ct (on_goodT m1) rfl rfl rfl (ct _ m4) (ct _ hw) ⟨m5, m6, m7⟩ ⟨Nat.le_of_ble_eq_true r1, Nat.le_of_ble_eq_true r2⟩
    refine on_runQ (q := q) (va_runS (As := [w1, w2, w3]) (rest := rest) ⟨cx, cb, cm, co, ct⟩ (hc q hq) ⟨cb', ct _ m2⟩ ⟨on_U_blind, ?_⟩ rfl rfl hl.1 rfl (lv_room (Nat.le_of_ble_eq_true r3)) hd ⟨Nat.le_refl _, Nat.le_refl _⟩) hS ?_
    · intro U hU hW
      exact ⟨rfl, by rw [hU]; exact hP, va_K.moved hW.alike cK, cE.warm hW (fun q h1 h2 => by rw [hU]; exact hS.2.1 q h1 h2)⟩
    · intro H1 locs1 g1 g2
      exact k q.1 q.2 hC hx H1 locs1 ls g1 g2 hl
theorem on_cV4i (ci : Nat) {c2 idx f2 l2 ny : Nat} {y2 : MethodName} {cy : ByteArray} {q2 : vw_C} {w1 w2 w3 w4 : Value} {r : Option on_O} {kk : Int → on_S → Option on_O} (hM : on_Mv y2 cy ny (some .int) 4) (hw : Cond.methodLink own idx y2 ∈ on_T) (hq2 : vwCl[ci]? = some q2) (hqy : q2.1 = y2.cls) (hn : c2 < n) (hs : on_sh c2 = (0, ci)) (hc : on_Sp E y2 cy ny (some .int) f2 l2 z n [.ref (z + c2), w1, w2, w3, w4] σ r) (hr : on_ok f2 ny l2 fr lo rest = true) (hd : on_dq cc pc 3 pc2 (.invokevirtual idx)) (k : ∀ (v : Int) (σ2 : on_S), on_G X E cc own rt fr lo nL z n σ2 (kk v σ2) pc2 lv (.int (on_i v) :: rest)) : on_G X E cc own rt fr lo nL z n σ (on_Cl r kk) pc lv (w4 :: w3 :: w2 :: w1 :: .ref (z + c2) :: rest) := by
  obtain ⟨p, e, R, s, m, args, below, meth, c, out⟩ := X
  intro hC hx H locs ls hP hS hl
  obtain ⟨cx, cb, cm, co, ct, cK, cE, ck, cr, cR, cz⟩ := id hC
  obtain ⟨hd, rfl⟩ := hd
  unfold on_Cl at hx
  cases hq : r with
  | none => rw [hq] at hx; cases hx
  | some q =>
    rw [hq] at hx
    subst cR
    obtain ⟨m1, m2, m3, m4, m5, m6, m7⟩ := hM
    simp only [on_ok, Bool.and_eq_true] at hr
    obtain ⟨⟨r1, r2⟩, r3⟩ := hr
    have cb' : CallB _ s args own idx y2 cy ny (some .int) (.code y2 cy ny (some .int) :: on_T) { frames := f2, cells := 0, slots := 0, locals := l2 } 0 0 4 := callB_of (R := { frames := fr, cells := 0, slots := 0, locals := lo }) 4 ct (on_goodT m1) rfl rfl rfl (ct _ m4) (ct _ hw) ⟨m5, m6, m7⟩ ⟨Nat.le_of_ble_eq_true r1, Nat.le_of_ble_eq_true r2⟩
    refine on_runQ (q := q) (va_runV (As := [w1, w2, w3, w4]) (rest := rest) (C := y2.cls) ⟨cx, cb, cm, co, ct⟩ (hc q hq) ⟨cb', ct _ m2, ct _ m3⟩ ⟨on_U_blind, ?_, ?_⟩ rfl rfl hl.1 rfl (lv_room (Nat.le_of_ble_eq_true r3)) hd ⟨Nat.le_refl _, Nat.le_refl _⟩) hS ?_
    · have h1 := va_recv (ci := ci) cK hP.2 hq2 ((on_ws_at E z σ hn).trans (by rw [on_ce0 hs]))
      rw [← hqy]
      exact h1
    · intro U hU hW
      exact ⟨rfl, by rw [hU]; exact hP, va_K.moved hW.alike cK, cE.warm hW (fun q h1 h2 => by rw [hU]; exact hS.2.1 q h1 h2)⟩
    · intro H1 locs1 g1 g2
      exact k q.1 q.2 hC hx H1 locs1 ls g1 g2 hl
theorem on_cS4i {idx f2 l2 ny : Nat} {y2 : MethodName} {cy : ByteArray} {w1 w2 w3 w4 : Value} {r : Option on_O} {kk : Int → on_S → Option on_O} (hM : on_Ms y2 cy ny (some .int) 4) (hw : Cond.methodLink own idx y2 ∈ on_T) (hc : on_Sp E y2 cy ny (some .int) f2 l2 z n [w1, w2, w3, w4] σ r) (hr : on_ok f2 ny l2 fr lo rest = true) (hd : on_dq cc pc 3 pc2 (.invokestatic idx)) (k : ∀ (v : Int) (σ2 : on_S), on_G X E cc own rt fr lo nL z n σ2 (kk v σ2) pc2 lv (.int (on_i v) :: rest)) : on_G X E cc own rt fr lo nL z n σ (on_Cl r kk) pc lv (w4 :: w3 :: w2 :: w1 :: rest) := by
  obtain ⟨p, e, R, s, m, args, below, meth, c, out⟩ := X
  intro hC hx H locs ls hP hS hl
  obtain ⟨cx, cb, cm, co, ct, cK, cE, ck, cr, cR, cz⟩ := id hC
  obtain ⟨hd, rfl⟩ := hd
  unfold on_Cl at hx
  cases hq : r with
  | none => rw [hq] at hx; cases hx
  | some q =>
    rw [hq] at hx
    subst cR
    obtain ⟨m1, m2, m4, m5, m6, m7⟩ := hM
    simp only [on_ok, Bool.and_eq_true] at hr
    obtain ⟨⟨r1, r2⟩, r3⟩ := hr
    have cb' : CallB _ s args own idx y2 cy ny (some .int) (.code y2 cy ny (some .int) :: on_T) { frames := f2, cells := 0, slots := 0, locals := l2 } 0 0 4 := callB_of (R := { frames := fr, cells := 0, slots := 0, locals := lo }) 4 ct (on_goodT m1) rfl rfl rfl (ct _ m4) (ct _ hw) ⟨m5, m6, m7⟩ ⟨Nat.le_of_ble_eq_true r1, Nat.le_of_ble_eq_true r2⟩
    refine on_runQ (q := q) (va_runS (As := [w1, w2, w3, w4]) (rest := rest) ⟨cx, cb, cm, co, ct⟩ (hc q hq) ⟨cb', ct _ m2⟩ ⟨on_U_blind, ?_⟩ rfl rfl hl.1 rfl (lv_room (Nat.le_of_ble_eq_true r3)) hd ⟨Nat.le_refl _, Nat.le_refl _⟩) hS ?_
    · intro U hU hW
      exact ⟨rfl, by rw [hU]; exact hP, va_K.moved hW.alike cK, cE.warm hW (fun q h1 h2 => by rw [hU]; exact hS.2.1 q h1 h2)⟩
    · intro H1 locs1 g1 g2
      exact k q.1 q.2 hC hx H1 locs1 ls g1 g2 hl
theorem on_cV4z (ci : Nat) {c2 idx f2 l2 ny : Nat} {y2 : MethodName} {cy : ByteArray} {q2 : vw_C} {w1 w2 w3 w4 : Value} {r : Option on_O} {kk : Int → on_S → Option on_O} (hM : on_Mv y2 cy ny (some .boolean) 4) (hw : Cond.methodLink own idx y2 ∈ on_T) (hq2 : vwCl[ci]? = some q2) (hqy : q2.1 = y2.cls) (hn : c2 < n) (hs : on_sh c2 = (0, ci)) (hc : on_Sp E y2 cy ny (some .boolean) f2 l2 z n [.ref (z + c2), w1, w2, w3, w4] σ r) (hr : on_ok f2 ny l2 fr lo rest = true) (hd : on_dq cc pc 3 pc2 (.invokevirtual idx)) (k : ∀ (v : Int) (σ2 : on_S), on_G X E cc own rt fr lo nL z n σ2 (kk v σ2) pc2 lv (.int (on_i v) :: rest)) : on_G X E cc own rt fr lo nL z n σ (on_Cl r kk) pc lv (w4 :: w3 :: w2 :: w1 :: .ref (z + c2) :: rest) := by
  obtain ⟨p, e, R, s, m, args, below, meth, c, out⟩ := X
  intro hC hx H locs ls hP hS hl
  obtain ⟨cx, cb, cm, co, ct, cK, cE, ck, cr, cR, cz⟩ := id hC
  obtain ⟨hd, rfl⟩ := hd
  unfold on_Cl at hx
  cases hq : r with
  | none => rw [hq] at hx; cases hx
  | some q =>
    rw [hq] at hx
    subst cR
    obtain ⟨m1, m2, m3, m4, m5, m6, m7⟩ := hM
    simp only [on_ok, Bool.and_eq_true] at hr
    obtain ⟨⟨r1, r2⟩, r3⟩ := hr
    have cb' : CallB _ s args own idx y2 cy ny (some .boolean) (.code y2 cy ny (some .boolean) :: on_T) { frames := f2, cells := 0, slots := 0, locals := l2 } 0 0 4 := callB_of (R := { frames := fr, cells := 0, slots := 0, locals := lo }) 4 ct (on_goodT m1) rfl rfl rfl (ct _ m4) (ct _ hw) ⟨m5, m6, m7⟩ ⟨Nat.le_of_ble_eq_true r1, Nat.le_of_ble_eq_true r2⟩
    refine on_runQ (q := q) (va_runV (As := [w1, w2, w3, w4]) (rest := rest) (C := y2.cls) ⟨cx, cb, cm, co, ct⟩ (hc q hq) ⟨cb', ct _ m2, ct _ m3⟩ ⟨on_U_blind, ?_, ?_⟩ rfl rfl hl.1 rfl (lv_room (Nat.le_of_ble_eq_true r3)) hd ⟨Nat.le_refl _, Nat.le_refl _⟩) hS ?_
    · have h1 := va_recv (ci := ci) cK hP.2 hq2 ((on_ws_at E z σ hn).trans (by rw [on_ce0 hs]))
      rw [← hqy]
      exact h1
    · intro U hU hW
      exact ⟨rfl, by rw [hU]; exact hP, va_K.moved hW.alike cK, cE.warm hW (fun q h1 h2 => by rw [hU]; exact hS.2.1 q h1 h2)⟩
    · intro H1 locs1 g1 g2
      exact k q.1 q.2 hC hx H1 locs1 ls g1 g2 hl
theorem on_cS4z {idx f2 l2 ny : Nat} {y2 : MethodName} {cy : ByteArray} {w1 w2 w3 w4 : Value} {r : Option on_O} {kk : Int → on_S → Option on_O} (hM : on_Ms y2 cy ny (some .boolean) 4) (hw : Cond.methodLink own idx y2 ∈ on_T) (hc : on_Sp E y2 cy ny (some .boolean) f2 l2 z n [w1, w2, w3, w4] σ r) (hr : on_ok f2 ny l2 fr lo rest = true) (hd : on_dq cc pc 3 pc2 (.invokestatic idx)) (k : ∀ (v : Int) (σ2 : on_S), on_G X E cc own rt fr lo nL z n σ2 (kk v σ2) pc2 lv (.int (on_i v) :: rest)) : on_G X E cc own rt fr lo nL z n σ (on_Cl r kk) pc lv (w4 :: w3 :: w2 :: w1 :: rest) := by
  obtain ⟨p, e, R, s, m, args, below, meth, c, out⟩ := X
  intro hC hx H locs ls hP hS hl
  obtain ⟨cx, cb, cm, co, ct, cK, cE, ck, cr, cR, cz⟩ := id hC
  obtain ⟨hd, rfl⟩ := hd
  unfold on_Cl at hx
  cases hq : r with
  | none => rw [hq] at hx; cases hx
  | some q =>
    rw [hq] at hx
    subst cR
    obtain ⟨m1, m2, m4, m5, m6, m7⟩ := hM
    simp only [on_ok, Bool.and_eq_true] at hr
    obtain ⟨⟨r1, r2⟩, r3⟩ := hr
    have cb' : CallB _ s args own idx y2 cy ny (some .boolean) (.code y2 cy ny (some .boolean) :: on_T) { frames := f2, cells := 0, slots := 0, locals := l2 } 0 0 4 := callB_of (R := { frames := fr, cells := 0, slots := 0, locals := lo }) 4 ct (on_goodT m1) rfl rfl rfl (ct _ m4) (ct _ hw) ⟨m5, m6, m7⟩ ⟨Nat.le_of_ble_eq_true r1, Nat.le_of_ble_eq_true r2⟩
    refine on_runQ (q := q) (va_runS (As := [w1, w2, w3, w4]) (rest := rest) ⟨cx, cb, cm, co, ct⟩ (hc q hq) ⟨cb', ct _ m2⟩ ⟨on_U_blind, ?_⟩ rfl rfl hl.1 rfl (lv_room (Nat.le_of_ble_eq_true r3)) hd ⟨Nat.le_refl _, Nat.le_refl _⟩) hS ?_
    · intro U hU hW
      exact ⟨rfl, by rw [hU]; exact hP, va_K.moved hW.alike cK, cE.warm hW (fun q h1 h2 => by rw [hU]; exact hS.2.1 q h1 h2)⟩
    · intro H1 locs1 g1 g2
      exact k q.1 q.2 hC hx H1 locs1 ls g1 g2 hl
theorem on_cV4l (ci : Nat) {c2 idx f2 l2 ny : Nat} {y2 : MethodName} {cy : ByteArray} {q2 : vw_C} {w1 w2 w3 w4 : Value} {r : Option on_O} {kk : Int → on_S → Option on_O} (hM : on_Mv y2 cy ny (some .long) 4) (hw : Cond.methodLink own idx y2 ∈ on_T) (hq2 : vwCl[ci]? = some q2) (hqy : q2.1 = y2.cls) (hn : c2 < n) (hs : on_sh c2 = (0, ci)) (hc : on_Sp E y2 cy ny (some .long) f2 l2 z n [.ref (z + c2), w1, w2, w3, w4] σ r) (hr : on_ok f2 ny l2 fr lo rest = true) (hd : on_dq cc pc 3 pc2 (.invokevirtual idx)) (k : ∀ (v : Int) (σ2 : on_S), on_G X E cc own rt fr lo nL z n σ2 (kk v σ2) pc2 lv (.long (on_l v) :: rest)) : on_G X E cc own rt fr lo nL z n σ (on_Cl r kk) pc lv (w4 :: w3 :: w2 :: w1 :: .ref (z + c2) :: rest) := by
  obtain ⟨p, e, R, s, m, args, below, meth, c, out⟩ := X
  intro hC hx H locs ls hP hS hl
  obtain ⟨cx, cb, cm, co, ct, cK, cE, ck, cr, cR, cz⟩ := id hC
  obtain ⟨hd, rfl⟩ := hd
  unfold on_Cl at hx
  cases hq : r with
  | none => rw [hq] at hx; cases hx
  | some q =>
    rw [hq] at hx
    subst cR
    obtain ⟨m1, m2, m3, m4, m5, m6, m7⟩ := hM
    simp only [on_ok, Bool.and_eq_true] at hr
    obtain ⟨⟨r1, r2⟩, r3⟩ := hr
    have cb' : CallB _ s args own idx y2 cy ny (some .long) (.code y2 cy ny (some .long) :: on_T) { frames := f2, cells := 0, slots := 0, locals := l2 } 0 0 4 := callB_of (R := { frames := fr, cells := 0, slots := 0, locals := lo }) 4 ct (on_goodT m1) rfl rfl rfl (ct _ m4) (ct _ hw) ⟨m5, m6, m7⟩ ⟨Nat.le_of_ble_eq_true r1, Nat.le_of_ble_eq_true r2⟩
    refine on_runQ (q := q) (va_runV (As := [w1, w2, w3, w4]) (rest := rest) (C := y2.cls) ⟨cx, cb, cm, co, ct⟩ (hc q hq) ⟨cb', ct _ m2, ct _ m3⟩ ⟨on_U_blind, ?_, ?_⟩ rfl rfl hl.1 rfl (lv_room (Nat.le_of_ble_eq_true r3)) hd ⟨Nat.le_refl _, Nat.le_refl _⟩) hS ?_
    · have h1 := va_recv (ci := ci) cK hP.2 hq2 ((on_ws_at E z σ hn).trans (by rw [on_ce0 hs]))
      rw [← hqy]
      exact h1
    · intro U hU hW
      exact ⟨rfl, by rw [hU]; exact hP, va_K.moved hW.alike cK, cE.warm hW (fun q h1 h2 => by rw [hU]; exact hS.2.1 q h1 h2)⟩
    · intro H1 locs1 g1 g2
      exact k q.1 q.2 hC hx H1 locs1 ls g1 g2 hl
theorem on_cS4l {idx f2 l2 ny : Nat} {y2 : MethodName} {cy : ByteArray} {w1 w2 w3 w4 : Value} {r : Option on_O} {kk : Int → on_S → Option on_O} (hM : on_Ms y2 cy ny (some .long) 4) (hw : Cond.methodLink own idx y2 ∈ on_T) (hc : on_Sp E y2 cy ny (some .long) f2 l2 z n [w1, w2, w3, w4] σ r) (hr : on_ok f2 ny l2 fr lo rest = true) (hd : on_dq cc pc 3 pc2 (.invokestatic idx)) (k : ∀ (v : Int) (σ2 : on_S), on_G X E cc own rt fr lo nL z n σ2 (kk v σ2) pc2 lv (.long (on_l v) :: rest)) : on_G X E cc own rt fr lo nL z n σ (on_Cl r kk) pc lv (w4 :: w3 :: w2 :: w1 :: rest) := by
  obtain ⟨p, e, R, s, m, args, below, meth, c, out⟩ := X
  intro hC hx H locs ls hP hS hl
  obtain ⟨cx, cb, cm, co, ct, cK, cE, ck, cr, cR, cz⟩ := id hC
  obtain ⟨hd, rfl⟩ := hd
  unfold on_Cl at hx
  cases hq : r with
  | none => rw [hq] at hx; cases hx
  | some q =>
    rw [hq] at hx
    subst cR
    obtain ⟨m1, m2, m4, m5, m6, m7⟩ := hM
    simp only [on_ok, Bool.and_eq_true] at hr
    obtain ⟨⟨r1, r2⟩, r3⟩ := hr
    have cb' : CallB _ s args own idx y2 cy ny (some .long) (.code y2 cy ny (some .long) :: on_T) { frames := f2, cells := 0, slots := 0, locals := l2 } 0 0 4 := callB_of (R := { frames := fr, cells := 0, slots := 0, locals := lo }) 4 ct (on_goodT m1) rfl rfl rfl (ct _ m4) (ct _ hw) ⟨m5, m6, m7⟩ ⟨Nat.le_of_ble_eq_true r1, Nat.le_of_ble_eq_true r2⟩
    refine on_runQ (q := q) (va_runS (As := [w1, w2, w3, w4]) (rest := rest) ⟨cx, cb, cm, co, ct⟩ (hc q hq) ⟨cb', ct _ m2⟩ ⟨on_U_blind, ?_⟩ rfl rfl hl.1 rfl (lv_room (Nat.le_of_ble_eq_true r3)) hd ⟨Nat.le_refl _, Nat.le_refl _⟩) hS ?_
    · intro U hU hW
      exact ⟨rfl, by rw [hU]; exact hP, va_K.moved hW.alike cK, cE.warm hW (fun q h1 h2 => by rw [hU]; exact hS.2.1 q h1 h2)⟩
    · intro H1 locs1 g1 g2
      exact k q.1 q.2 hC hx H1 locs1 ls g1 g2 hl
theorem on_cV4v (ci : Nat) {c2 idx f2 l2 ny : Nat} {y2 : MethodName} {cy : ByteArray} {q2 : vw_C} {w1 w2 w3 w4 : Value} {r : Option on_O} {kk : Int → on_S → Option on_O} (hM : on_Mv y2 cy ny none 4) (hw : Cond.methodLink own idx y2 ∈ on_T) (hq2 : vwCl[ci]? = some q2) (hqy : q2.1 = y2.cls) (hn : c2 < n) (hs : on_sh c2 = (0, ci)) (hc : on_Sp E y2 cy ny none f2 l2 z n [.ref (z + c2), w1, w2, w3, w4] σ r) (hr : on_ok f2 ny l2 fr lo rest = true) (hd : on_dq cc pc 3 pc2 (.invokevirtual idx)) (k : ∀ (v : Int) (σ2 : on_S), on_G X E cc own rt fr lo nL z n σ2 (kk v σ2) pc2 lv rest) : on_G X E cc own rt fr lo nL z n σ (on_Cl r kk) pc lv (w4 :: w3 :: w2 :: w1 :: .ref (z + c2) :: rest) := by
  obtain ⟨p, e, R, s, m, args, below, meth, c, out⟩ := X
  intro hC hx H locs ls hP hS hl
  obtain ⟨cx, cb, cm, co, ct, cK, cE, ck, cr, cR, cz⟩ := id hC
  obtain ⟨hd, rfl⟩ := hd
  unfold on_Cl at hx
  cases hq : r with
  | none => rw [hq] at hx; cases hx
  | some q =>
    rw [hq] at hx
    subst cR
    obtain ⟨m1, m2, m3, m4, m5, m6, m7⟩ := hM
    simp only [on_ok, Bool.and_eq_true] at hr
    obtain ⟨⟨r1, r2⟩, r3⟩ := hr
    have cb' : CallB _ s args own idx y2 cy ny none (.code y2 cy ny none :: on_T) { frames := f2, cells := 0, slots := 0, locals := l2 } 0 0 4 := callB_of (R := { frames := fr, cells := 0, slots := 0, locals := lo }) 4 ct (on_goodT m1) rfl rfl rfl (ct _ m4) (ct _ hw) ⟨m5, m6, m7⟩ ⟨Nat.le_of_ble_eq_true r1, Nat.le_of_ble_eq_true r2⟩
    refine on_runQ (q := q) (va_runV (As := [w1, w2, w3, w4]) (rest := rest) (C := y2.cls) ⟨cx, cb, cm, co, ct⟩ (hc q hq) ⟨cb', ct _ m2, ct _ m3⟩ ⟨on_U_blind, ?_, ?_⟩ rfl rfl hl.1 rfl (lv_room (Nat.le_of_ble_eq_true r3)) hd ⟨Nat.le_refl _, Nat.le_refl _⟩) hS ?_
    · have h1 := va_recv (ci := ci) cK hP.2 hq2 ((on_ws_at E z σ hn).trans (by rw [on_ce0 hs]))
      rw [← hqy]
      exact h1
    · intro U hU hW
      exact ⟨rfl, by rw [hU]; exact hP, va_K.moved hW.alike cK, cE.warm hW (fun q h1 h2 => by rw [hU]; exact hS.2.1 q h1 h2)⟩
    · intro H1 locs1 g1 g2
      exact k q.1 q.2 hC hx H1 locs1 ls g1 g2 hl
theorem on_cS4v {idx f2 l2 ny : Nat} {y2 : MethodName} {cy : ByteArray} {w1 w2 w3 w4 : Value} {r : Option on_O} {kk : Int → on_S → Option on_O} (hM : on_Ms y2 cy ny none 4) (hw : Cond.methodLink own idx y2 ∈ on_T) (hc : on_Sp E y2 cy ny none f2 l2 z n [w1, w2, w3, w4] σ r) (hr : on_ok f2 ny l2 fr lo rest = true) (hd : on_dq cc pc 3 pc2 (.invokestatic idx)) (k : ∀ (v : Int) (σ2 : on_S), on_G X E cc own rt fr lo nL z n σ2 (kk v σ2) pc2 lv rest) : on_G X E cc own rt fr lo nL z n σ (on_Cl r kk) pc lv (w4 :: w3 :: w2 :: w1 :: rest) := by
  obtain ⟨p, e, R, s, m, args, below, meth, c, out⟩ := X
  intro hC hx H locs ls hP hS hl
  obtain ⟨cx, cb, cm, co, ct, cK, cE, ck, cr, cR, cz⟩ := id hC
  obtain ⟨hd, rfl⟩ := hd
  unfold on_Cl at hx
  cases hq : r with
  | none => rw [hq] at hx; cases hx
  | some q =>
    rw [hq] at hx
    subst cR
    obtain ⟨m1, m2, m4, m5, m6, m7⟩ := hM
    simp only [on_ok, Bool.and_eq_true] at hr
    obtain ⟨⟨r1, r2⟩, r3⟩ := hr
    have cb' : CallB _ s args own idx y2 cy ny none (.code y2 cy ny none :: on_T) { frames := f2, cells := 0, slots := 0, locals := l2 } 0 0 4 := callB_of (R := { frames := fr, cells := 0, slots := 0, locals := lo }) 4 ct (on_goodT m1) rfl rfl rfl (ct _ m4) (ct _ hw) ⟨m5, m6, m7⟩ ⟨Nat.le_of_ble_eq_true r1, Nat.le_of_ble_eq_true r2⟩
    refine on_runQ (q := q) (va_runS (As := [w1, w2, w3, w4]) (rest := rest) ⟨cx, cb, cm, co, ct⟩ (hc q hq) ⟨cb', ct _ m2⟩ ⟨on_U_blind, ?_⟩ rfl rfl hl.1 rfl (lv_room (Nat.le_of_ble_eq_true r3)) hd ⟨Nat.le_refl _, Nat.le_refl _⟩) hS ?_
    · intro U hU hW
      exact ⟨rfl, by rw [hU]; exact hP, va_K.moved hW.alike cK, cE.warm hW (fun q h1 h2 => by rw [hU]; exact hS.2.1 q h1 h2)⟩
    · intro H1 locs1 g1 g2
      exact k q.1 q.2 hC hx H1 locs1 ls g1 g2 hl
theorem on_cV5i (ci : Nat) {c2 idx f2 l2 ny : Nat} {y2 : MethodName} {cy : ByteArray} {q2 : vw_C} {w1 w2 w3 w4 w5 : Value} {r : Option on_O} {kk : Int → on_S → Option on_O} (hM : on_Mv y2 cy ny (some .int) 5) (hw : Cond.methodLink own idx y2 ∈ on_T) (hq2 : vwCl[ci]? = some q2) (hqy : q2.1 = y2.cls) (hn : c2 < n) (hs : on_sh c2 = (0, ci)) (hc : on_Sp E y2 cy ny (some .int) f2 l2 z n [.ref (z + c2), w1, w2, w3, w4, w5] σ r) (hr : on_ok f2 ny l2 fr lo rest = true) (hd : on_dq cc pc 3 pc2 (.invokevirtual idx)) (k : ∀ (v : Int) (σ2 : on_S), on_G X E cc own rt fr lo nL z n σ2 (kk v σ2) pc2 lv (.int (on_i v) :: rest)) : on_G X E cc own rt fr lo nL z n σ (on_Cl r kk) pc lv (w5 :: w4 :: w3 :: w2 :: w1 :: .ref (z + c2) :: rest) := by
  obtain ⟨p, e, R, s, m, args, below, meth, c, out⟩ := X
  intro hC hx H locs ls hP hS hl
  obtain ⟨cx, cb, cm, co, ct, cK, cE, ck, cr, cR, cz⟩ := id hC
  obtain ⟨hd, rfl⟩ := hd
  unfold on_Cl at hx
  cases hq : r with
  | none => rw [hq] at hx; cases hx
  | some q =>
    rw [hq] at hx
    subst cR
    obtain ⟨m1, m2, m3, m4, m5, m6, m7⟩ := hM
    simp only [on_ok, Bool.and_eq_true] at hr
    obtain ⟨⟨r1, r2⟩, r3⟩ := hr
    have cb' : CallB _ s args own idx y2 cy ny (some .int) (.code y2 cy ny (some .int) :: on_T) { frames := f2, cells := 0, slots := 0, locals := l2 } 0 0 5 := callB_of (R := { frames := fr, cells := 0, slots := 0, locals := lo }) 5 ct (on_goodT m1) rfl rfl rfl (ct _ m4) (ct _ hw) ⟨m5, m6, m7⟩ ⟨Nat.le_of_ble_eq_true r1, Nat.le_of_ble_eq_true r2⟩
    refine on_runQ (q := q) (va_runV (As := [w1, w2, w3, w4, w5]) (rest := rest) (C := y2.cls) ⟨cx, cb, cm, co, ct⟩ (hc q hq) ⟨cb', ct _ m2, ct _ m3⟩ ⟨on_U_blind, ?_, ?_⟩ rfl rfl hl.1 rfl (lv_room (Nat.le_of_ble_eq_true r3)) hd ⟨Nat.le_refl _, Nat.le_refl _⟩) hS ?_
    · have h1 := va_recv (ci := ci) cK hP.2 hq2 ((on_ws_at E z σ hn).trans (by rw [on_ce0 hs]))
      rw [← hqy]
      exact h1
    · intro U hU hW
      exact ⟨rfl, by rw [hU]; exact hP, va_K.moved hW.alike cK, cE.warm hW (fun q h1 h2 => by rw [hU]; exact hS.2.1 q h1 h2)⟩
    · intro H1 locs1 g1 g2
      exact k q.1 q.2 hC hx H1 locs1 ls g1 g2 hl
theorem on_cS5i {idx f2 l2 ny : Nat} {y2 : MethodName} {cy : ByteArray} {w1 w2 w3 w4 w5 : Value} {r : Option on_O} {kk : Int → on_S → Option on_O} (hM : on_Ms y2 cy ny (some .int) 5) (hw : Cond.methodLink own idx y2 ∈ on_T) (hc : on_Sp E y2 cy ny (some .int) f2 l2 z n [w1, w2, w3, w4, w5] σ r) (hr : on_ok f2 ny l2 fr lo rest = true) (hd : on_dq cc pc 3 pc2 (.invokestatic idx)) (k : ∀ (v : Int) (σ2 : on_S), on_G X E cc own rt fr lo nL z n σ2 (kk v σ2) pc2 lv (.int (on_i v) :: rest)) : on_G X E cc own rt fr lo nL z n σ (on_Cl r kk) pc lv (w5 :: w4 :: w3 :: w2 :: w1 :: rest) := by
  obtain ⟨p, e, R, s, m, args, below, meth, c, out⟩ := X
  intro hC hx H locs ls hP hS hl
  obtain ⟨cx, cb, cm, co, ct, cK, cE, ck, cr, cR, cz⟩ := id hC
  obtain ⟨hd, rfl⟩ := hd
  unfold on_Cl at hx
  cases hq : r with
  | none => rw [hq] at hx; cases hx
  | some q =>
    rw [hq] at hx
    subst cR
    obtain ⟨m1, m2, m4, m5, m6, m7⟩ := hM
    simp only [on_ok, Bool.and_eq_true] at hr
    obtain ⟨⟨r1, r2⟩, r3⟩ := hr
    have cb' : CallB _ s args own idx y2 cy ny (some .int) (.code y2 cy ny (some .int) :: on_T) { frames := f2, cells := 0, slots := 0, locals := l2 } 0 0 5 := callB_of (R := { frames := fr, cells := 0, slots := 0, locals := lo }) 5 ct (on_goodT m1) rfl rfl rfl (ct _ m4) (ct _ hw) ⟨m5, m6, m7⟩ ⟨Nat.le_of_ble_eq_true r1, Nat.le_of_ble_eq_true r2⟩
    refine on_runQ (q := q) (va_runS (As := [w1, w2, w3, w4, w5]) (rest := rest) ⟨cx, cb, cm, co, ct⟩ (hc q hq) ⟨cb', ct _ m2⟩ ⟨on_U_blind, ?_⟩ rfl rfl hl.1 rfl (lv_room (Nat.le_of_ble_eq_true r3)) hd ⟨Nat.le_refl _, Nat.le_refl _⟩) hS ?_
    · intro U hU hW
      exact ⟨rfl, by rw [hU]; exact hP, va_K.moved hW.alike cK, cE.warm hW (fun q h1 h2 => by rw [hU]; exact hS.2.1 q h1 h2)⟩
    · intro H1 locs1 g1 g2
      exact k q.1 q.2 hC hx H1 locs1 ls g1 g2 hl
theorem on_cV5z (ci : Nat) {c2 idx f2 l2 ny : Nat} {y2 : MethodName} {cy : ByteArray} {q2 : vw_C} {w1 w2 w3 w4 w5 : Value} {r : Option on_O} {kk : Int → on_S → Option on_O} (hM : on_Mv y2 cy ny (some .boolean) 5) (hw : Cond.methodLink own idx y2 ∈ on_T) (hq2 : vwCl[ci]? = some q2) (hqy : q2.1 = y2.cls) (hn : c2 < n) (hs : on_sh c2 = (0, ci)) (hc : on_Sp E y2 cy ny (some .boolean) f2 l2 z n [.ref (z + c2), w1, w2, w3, w4, w5] σ r) (hr : on_ok f2 ny l2 fr lo rest = true) (hd : on_dq cc pc 3 pc2 (.invokevirtual idx)) (k : ∀ (v : Int) (σ2 : on_S), on_G X E cc own rt fr lo nL z n σ2 (kk v σ2) pc2 lv (.int (on_i v) :: rest)) : on_G X E cc own rt fr lo nL z n σ (on_Cl r kk) pc lv (w5 :: w4 :: w3 :: w2 :: w1 :: .ref (z + c2) :: rest) := by
  obtain ⟨p, e, R, s, m, args, below, meth, c, out⟩ := X
  intro hC hx H locs ls hP hS hl
  obtain ⟨cx, cb, cm, co, ct, cK, cE, ck, cr, cR, cz⟩ := id hC
  obtain ⟨hd, rfl⟩ := hd
  unfold on_Cl at hx
  cases hq : r with
  | none => rw [hq] at hx; cases hx
  | some q =>
    rw [hq] at hx
    subst cR
    obtain ⟨m1, m2, m3, m4, m5, m6, m7⟩ := hM
    simp only [on_ok, Bool.and_eq_true] at hr
    obtain ⟨⟨r1, r2⟩, r3⟩ := hr
    have cb' : CallB _ s args own idx y2 cy ny (some .boolean) (.code y2 cy ny (some .boolean) :: on_T) { frames := f2, cells := 0, slots := 0, locals := l2 } 0 0 5 := callB_of (R := { frames := fr, cells := 0, slots := 0, locals := lo }) 5 ct (on_goodT m1) rfl rfl rfl (ct _ m4) (ct _ hw) ⟨m5, m6, m7⟩ ⟨Nat.le_of_ble_eq_true r1, Nat.le_of_ble_eq_true r2⟩
    refine on_runQ (q := q) (va_runV (As := [w1, w2, w3, w4, w5]) (rest := rest) (C := y2.cls) ⟨cx, cb, cm, co, ct⟩ (hc q hq) ⟨cb', ct _ m2, ct _ m3⟩ ⟨on_U_blind, ?_, ?_⟩ rfl rfl hl.1 rfl (lv_room (Nat.le_of_ble_eq_true r3)) hd ⟨Nat.le_refl _, Nat.le_refl _⟩) hS ?_
    · have h1 := va_recv (ci := ci) cK hP.2 hq2 ((on_ws_at E z σ hn).trans (by rw [on_ce0 hs]))
      rw [← hqy]
      exact h1
    · intro U hU hW
      exact ⟨rfl, by rw [hU]; exact hP, va_K.moved hW.alike cK, cE.warm hW (fun q h1 h2 => by rw [hU]; exact hS.2.1 q h1 h2)⟩
    · intro H1 locs1 g1 g2
      exact k q.1 q.2 hC hx H1 locs1 ls g1 g2 hl
theorem on_cS5z {idx f2 l2 ny : Nat} {y2 : MethodName} {cy : ByteArray} {w1 w2 w3 w4 w5 : Value} {r : Option on_O} {kk : Int → on_S → Option on_O} (hM : on_Ms y2 cy ny (some .boolean) 5) (hw : Cond.methodLink own idx y2 ∈ on_T) (hc : on_Sp E y2 cy ny (some .boolean) f2 l2 z n [w1, w2, w3, w4, w5] σ r) (hr : on_ok f2 ny l2 fr lo rest = true) (hd : on_dq cc pc 3 pc2 (.invokestatic idx)) (k : ∀ (v : Int) (σ2 : on_S), on_G X E cc own rt fr lo nL z n σ2 (kk v σ2) pc2 lv (.int (on_i v) :: rest)) : on_G X E cc own rt fr lo nL z n σ (on_Cl r kk) pc lv (w5 :: w4 :: w3 :: w2 :: w1 :: rest) := by
  obtain ⟨p, e, R, s, m, args, below, meth, c, out⟩ := X
  intro hC hx H locs ls hP hS hl
  obtain ⟨cx, cb, cm, co, ct, cK, cE, ck, cr, cR, cz⟩ := id hC
  obtain ⟨hd, rfl⟩ := hd
  unfold on_Cl at hx
  cases hq : r with
  | none => rw [hq] at hx; cases hx
  | some q =>
    rw [hq] at hx
    subst cR
    obtain ⟨m1, m2, m4, m5, m6, m7⟩ := hM
    simp only [on_ok, Bool.and_eq_true] at hr
    obtain ⟨⟨r1, r2⟩, r3⟩ := hr
    have cb' : CallB _ s args own idx y2 cy ny (some .boolean) (.code y2 cy ny (some .boolean) :: on_T) { frames := f2, cells := 0, slots := 0, locals := l2 } 0 0 5 := callB_of (R := { frames := fr, cells := 0, slots := 0, locals := lo }) 5 ct (on_goodT m1) rfl rfl rfl (ct _ m4) (ct _ hw) ⟨m5, m6, m7⟩ ⟨Nat.le_of_ble_eq_true r1, Nat.le_of_ble_eq_true r2⟩
    refine on_runQ (q := q) (va_runS (As := [w1, w2, w3, w4, w5]) (rest := rest) ⟨cx, cb, cm, co, ct⟩ (hc q hq) ⟨cb', ct _ m2⟩ ⟨on_U_blind, ?_⟩ rfl rfl hl.1 rfl (lv_room (Nat.le_of_ble_eq_true r3)) hd ⟨Nat.le_refl _, Nat.le_refl _⟩) hS ?_
    · intro U hU hW
      exact ⟨rfl, by rw [hU]; exact hP, va_K.moved hW.alike cK, cE.warm hW (fun q h1 h2 => by rw [hU]; exact hS.2.1 q h1 h2)⟩
    · intro H1 locs1 g1 g2
      exact k q.1 q.2 hC hx H1 locs1 ls g1 g2 hl
theorem on_cV5l (ci : Nat) {c2 idx f2 l2 ny : Nat} {y2 : MethodName} {cy : ByteArray} {q2 : vw_C} {w1 w2 w3 w4 w5 : Value} {r : Option on_O} {kk : Int → on_S → Option on_O} (hM : on_Mv y2 cy ny (some .long) 5) (hw : Cond.methodLink own idx y2 ∈ on_T) (hq2 : vwCl[ci]? = some q2) (hqy : q2.1 = y2.cls) (hn : c2 < n) (hs : on_sh c2 = (0, ci)) (hc : on_Sp E y2 cy ny (some .long) f2 l2 z n [.ref (z + c2), w1, w2, w3, w4, w5] σ r) (hr : on_ok f2 ny l2 fr lo rest = true) (hd : on_dq cc pc 3 pc2 (.invokevirtual idx)) (k : ∀ (v : Int) (σ2 : on_S), on_G X E cc own rt fr lo nL z n σ2 (kk v σ2) pc2 lv (.long (on_l v) :: rest)) : on_G X E cc own rt fr lo nL z n σ (on_Cl r kk) pc lv (w5 :: w4 :: w3 :: w2 :: w1 :: .ref (z + c2) :: rest) := by
  obtain ⟨p, e, R, s, m, args, below, meth, c, out⟩ := X
  intro hC hx H locs ls hP hS hl
  obtain ⟨cx, cb, cm, co, ct, cK, cE, ck, cr, cR, cz⟩ := id hC
  obtain ⟨hd, rfl⟩ := hd
  unfold on_Cl at hx
  cases hq : r with
  | none => rw [hq] at hx; cases hx
  | some q =>
    rw [hq] at hx
    subst cR
    obtain ⟨m1, m2, m3, m4, m5, m6, m7⟩ := hM
    simp only [on_ok, Bool.and_eq_true] at hr
    obtain ⟨⟨r1, r2⟩, r3⟩ := hr
    have cb' : CallB _ s args own idx y2 cy ny (some .long) (.code y2 cy ny (some .long) :: on_T) { frames := f2, cells := 0, slots := 0, locals := l2 } 0 0 5 := callB_of (R := { frames := fr, cells := 0, slots := 0, locals := lo }) 5 ct (on_goodT m1) rfl rfl rfl (ct _ m4) (ct _ hw) ⟨m5, m6, m7⟩ ⟨Nat.le_of_ble_eq_true r1, Nat.le_of_ble_eq_true r2⟩
    refine on_runQ (q := q) (va_runV (As := [w1, w2, w3, w4, w5]) (rest := rest) (C := y2.cls) ⟨cx, cb, cm, co, ct⟩ (hc q hq) ⟨cb', ct _ m2, ct _ m3⟩ ⟨on_U_blind, ?_, ?_⟩ rfl rfl hl.1 rfl (lv_room (Nat.le_of_ble_eq_true r3)) hd ⟨Nat.le_refl _, Nat.le_refl _⟩) hS ?_
    · have h1 := va_recv (ci := ci) cK hP.2 hq2 ((on_ws_at E z σ hn).trans (by rw [on_ce0 hs]))
      rw [← hqy]
      exact h1
    · intro U hU hW
      exact ⟨rfl, by rw [hU]; exact hP, va_K.moved hW.alike cK, cE.warm hW (fun q h1 h2 => by rw [hU]; exact hS.2.1 q h1 h2)⟩
    · intro H1 locs1 g1 g2
      exact k q.1 q.2 hC hx H1 locs1 ls g1 g2 hl
theorem on_cS5l {idx f2 l2 ny : Nat} {y2 : MethodName} {cy : ByteArray} {w1 w2 w3 w4 w5 : Value} {r : Option on_O} {kk : Int → on_S → Option on_O} (hM : on_Ms y2 cy ny (some .long) 5) (hw : Cond.methodLink own idx y2 ∈ on_T) (hc : on_Sp E y2 cy ny (some .long) f2 l2 z n [w1, w2, w3, w4, w5] σ r) (hr : on_ok f2 ny l2 fr lo rest = true) (hd : on_dq cc pc 3 pc2 (.invokestatic idx)) (k : ∀ (v : Int) (σ2 : on_S), on_G X E cc own rt fr lo nL z n σ2 (kk v σ2) pc2 lv (.long (on_l v) :: rest)) : on_G X E cc own rt fr lo nL z n σ (on_Cl r kk) pc lv (w5 :: w4 :: w3 :: w2 :: w1 :: rest) := by
  obtain ⟨p, e, R, s, m, args, below, meth, c, out⟩ := X
  intro hC hx H locs ls hP hS hl
  obtain ⟨cx, cb, cm, co, ct, cK, cE, ck, cr, cR, cz⟩ := id hC
  obtain ⟨hd, rfl⟩ := hd
  unfold on_Cl at hx
  cases hq : r with
  | none => rw [hq] at hx; cases hx
  | some q =>
    rw [hq] at hx
    subst cR
    obtain ⟨m1, m2, m4, m5, m6, m7⟩ := hM
    simp only [on_ok, Bool.and_eq_true] at hr
    obtain ⟨⟨r1, r2⟩, r3⟩ := hr
    have cb' : CallB _ s args own idx y2 cy ny (some .long) (.code y2 cy ny (some .long) :: on_T) { frames := f2, cells := 0, slots := 0, locals := l2 } 0 0 5 := callB_of (R := { frames := fr, cells := 0, slots := 0, locals := lo }) 5 ct (on_goodT m1) rfl rfl rfl (ct _ m4) (ct _ hw) ⟨m5, m6, m7⟩ ⟨Nat.le_of_ble_eq_true r1, Nat.le_of_ble_eq_true r2⟩
    refine on_runQ (q := q) (va_runS (As := [w1, w2, w3, w4, w5]) (rest := rest) ⟨cx, cb, cm, co, ct⟩ (hc q hq) ⟨cb', ct _ m2⟩ ⟨on_U_blind, ?_⟩ rfl rfl hl.1 rfl (lv_room (Nat.le_of_ble_eq_true r3)) hd ⟨Nat.le_refl _, Nat.le_refl _⟩) hS ?_
    · intro U hU hW
      exact ⟨rfl, by rw [hU]; exact hP, va_K.moved hW.alike cK, cE.warm hW (fun q h1 h2 => by rw [hU]; exact hS.2.1 q h1 h2)⟩
    · intro H1 locs1 g1 g2
      exact k q.1 q.2 hC hx H1 locs1 ls g1 g2 hl
theorem on_cV5v (ci : Nat) {c2 idx f2 l2 ny : Nat} {y2 : MethodName} {cy : ByteArray} {q2 : vw_C} {w1 w2 w3 w4 w5 : Value} {r : Option on_O} {kk : Int → on_S → Option on_O} (hM : on_Mv y2 cy ny none 5) (hw : Cond.methodLink own idx y2 ∈ on_T) (hq2 : vwCl[ci]? = some q2) (hqy : q2.1 = y2.cls) (hn : c2 < n) (hs : on_sh c2 = (0, ci)) (hc : on_Sp E y2 cy ny none f2 l2 z n [.ref (z + c2), w1, w2, w3, w4, w5] σ r) (hr : on_ok f2 ny l2 fr lo rest = true) (hd : on_dq cc pc 3 pc2 (.invokevirtual idx)) (k : ∀ (v : Int) (σ2 : on_S), on_G X E cc own rt fr lo nL z n σ2 (kk v σ2) pc2 lv rest) : on_G X E cc own rt fr lo nL z n σ (on_Cl r kk) pc lv (w5 :: w4 :: w3 :: w2 :: w1 :: .ref (z + c2) :: rest) := by
  obtain ⟨p, e, R, s, m, args, below, meth, c, out⟩ := X
  intro hC hx H locs ls hP hS hl
  obtain ⟨cx, cb, cm, co, ct, cK, cE, ck, cr, cR, cz⟩ := id hC
  obtain ⟨hd, rfl⟩ := hd
  unfold on_Cl at hx
  cases hq : r with
  | none => rw [hq] at hx; cases hx
  | some q =>
    rw [hq] at hx
    subst cR
    obtain ⟨m1, m2, m3, m4, m5, m6, m7⟩ := hM
    simp only [on_ok, Bool.and_eq_true] at hr
    obtain ⟨⟨r1, r2⟩, r3⟩ := hr
    have cb' : CallB _ s args own idx y2 cy ny none (.code y2 cy ny none :: on_T) { frames := f2, cells := 0, slots := 0, locals := l2 } 0 0 5 := callB_of (R := { frames := fr, cells := 0, slots := 0, locals := lo }) 5 ct (on_goodT m1) rfl rfl rfl (ct _ m4) (ct _ hw) ⟨m5, m6, m7⟩ ⟨Nat.le_of_ble_eq_true r1, Nat.le_of_ble_eq_true r2⟩
    refine on_runQ (q := q) (va_runV (As := [w1, w2, w3, w4, w5]) (rest := rest) (C := y2.cls) ⟨cx, cb, cm, co, ct⟩ (hc q hq) ⟨cb', ct _ m2, ct _ m3⟩ ⟨on_U_blind, ?_, ?_⟩ rfl rfl hl.1 rfl (lv_room (Nat.le_of_ble_eq_true r3)) hd ⟨Nat.le_refl _, Nat.le_refl _⟩) hS ?_
    · have h1 := va_recv (ci := ci) cK hP.2 hq2 ((on_ws_at E z σ hn).trans (by rw [on_ce0 hs]))
      rw [← hqy]
      exact h1
    · intro U hU hW
      exact ⟨rfl, by rw [hU]; exact hP, va_K.moved hW.alike cK, cE.warm hW (fun q h1 h2 => by rw [hU]; exact hS.2.1 q h1 h2)⟩
    · intro H1 locs1 g1 g2
      exact k q.1 q.2 hC hx H1 locs1 ls g1 g2 hl
theorem on_cS5v {idx f2 l2 ny : Nat} {y2 : MethodName} {cy : ByteArray} {w1 w2 w3 w4 w5 : Value} {r : Option on_O} {kk : Int → on_S → Option on_O} (hM : on_Ms y2 cy ny none 5) (hw : Cond.methodLink own idx y2 ∈ on_T) (hc : on_Sp E y2 cy ny none f2 l2 z n [w1, w2, w3, w4, w5] σ r) (hr : on_ok f2 ny l2 fr lo rest = true) (hd : on_dq cc pc 3 pc2 (.invokestatic idx)) (k : ∀ (v : Int) (σ2 : on_S), on_G X E cc own rt fr lo nL z n σ2 (kk v σ2) pc2 lv rest) : on_G X E cc own rt fr lo nL z n σ (on_Cl r kk) pc lv (w5 :: w4 :: w3 :: w2 :: w1 :: rest) := by
  obtain ⟨p, e, R, s, m, args, below, meth, c, out⟩ := X
  intro hC hx H locs ls hP hS hl
  obtain ⟨cx, cb, cm, co, ct, cK, cE, ck, cr, cR, cz⟩ := id hC
  obtain ⟨hd, rfl⟩ := hd
  unfold on_Cl at hx
  cases hq : r with
  | none => rw [hq] at hx; cases hx
  | some q =>
    rw [hq] at hx
    subst cR
    obtain ⟨m1, m2, m4, m5, m6, m7⟩ := hM
    simp only [on_ok, Bool.and_eq_true] at hr
    obtain ⟨⟨r1, r2⟩, r3⟩ := hr
    have cb' : CallB _ s args own idx y2 cy ny none (.code y2 cy ny none :: on_T) { frames := f2, cells := 0, slots := 0, locals := l2 } 0 0 5 := callB_of (R := { frames := fr, cells := 0, slots := 0, locals := lo }) 5 ct (on_goodT m1) rfl rfl rfl (ct _ m4) (ct _ hw) ⟨m5, m6, m7⟩ ⟨Nat.le_of_ble_eq_true r1, Nat.le_of_ble_eq_true r2⟩
    refine on_runQ (q := q) (va_runS (As := [w1, w2, w3, w4, w5]) (rest := rest) ⟨cx, cb, cm, co, ct⟩ (hc q hq) ⟨cb', ct _ m2⟩ ⟨on_U_blind, ?_⟩ rfl rfl hl.1 rfl (lv_room (Nat.le_of_ble_eq_true r3)) hd ⟨Nat.le_refl _, Nat.le_refl _⟩) hS ?_
    · intro U hU hW
      exact ⟨rfl, by rw [hU]; exact hP, va_K.moved hW.alike cK, cE.warm hW (fun q h1 h2 => by rw [hU]; exact hS.2.1 q h1 h2)⟩
    · intro H1 locs1 g1 g2
      exact k q.1 q.2 hC hx H1 locs1 ls g1 g2 hl
theorem on_max {idx : Nat} {kk : Int → Option on_O} (hw : Cond.methodLink own idx Lib.Math.max.name ∈ on_T) (hw2 : Cond.static Lib.Math.max.name ∈ on_T) (hw3 : Cond.initialized "java/lang/Math" ∈ on_T) (hw4 : Cond.code Lib.Math.max.name Lib.Math.max.code 2 (some .int) ∈ on_T) (hr : on_ok 0 2 0 fr lo rest = true) (hd : on_dq cc pc 3 pc2 (.invokestatic idx)) (k : ∀ v : Int, on_G X E cc own rt fr lo nL z n σ (kk v) pc2 lv (.int (on_i v) :: rest)) : on_G X E cc own rt fr lo nL z n σ (on_Mx a b kk) pc lv (.int (on_i b) :: .int (on_i a) :: rest) := by
  obtain ⟨p, e, R, s, m, args, below, meth, c, out⟩ := X
  intro hC hx H locs ls hP hS hl
  obtain ⟨cx, cb, cm, co, ct, cK, cE, ck, cr, cR, cz⟩ := id hC
  obtain ⟨hd, rfl⟩ := hd
  unfold on_Mx at hx
  by_cases h : on_R a ∧ on_R b
  · rw [if_pos h] at hx
    subst cR
    simp only [on_ok, Bool.and_eq_true] at hr
    obtain ⟨⟨r1, r2⟩, r3⟩ := hr
    have r1 := Nat.le_of_ble_eq_true r1
    have r2 := Nat.le_of_ble_eq_true r2
    have r3 := Nat.le_of_ble_eq_true r3
    refine va_mmax cx cb (cm.trans hl.1.symm) co (ct _ hw) (ct _ hw2) (ct _ hw3) (ct _ hw4) (show 1 ≤ fr by omega) (show _ + 13 ≤ lo by omega) (Nat.le_refl _) (Nat.le_refl _) hd ?_
    have e : (if on_i a < on_i b then on_i b else on_i a) = on_i (max a b) := by
      split
      · rename_i q
        first | (rw [on_i_lt h.1 h.2] at q; congr 1; omega) | (rw [on_i_lt h.2 h.1] at q; congr 1; omega)
      · rename_i q
        first | (rw [on_i_lt h.1 h.2] at q; congr 1; omega) | (rw [on_i_lt h.2 h.1] at q; congr 1; omega)
    rw [e]
    exact k _ hC hx H locs ls hP hS hl
  · rw [if_neg h] at hx
    cases hx
theorem on_min {idx : Nat} {kk : Int → Option on_O} (hw : Cond.methodLink own idx Lib.Math.min.name ∈ on_T) (hw2 : Cond.static Lib.Math.min.name ∈ on_T) (hw3 : Cond.initialized "java/lang/Math" ∈ on_T) (hw4 : Cond.code Lib.Math.min.name Lib.Math.min.code 2 (some .int) ∈ on_T) (hr : on_ok 0 2 0 fr lo rest = true) (hd : on_dq cc pc 3 pc2 (.invokestatic idx)) (k : ∀ v : Int, on_G X E cc own rt fr lo nL z n σ (kk v) pc2 lv (.int (on_i v) :: rest)) : on_G X E cc own rt fr lo nL z n σ (on_Mn a b kk) pc lv (.int (on_i b) :: .int (on_i a) :: rest) := by
  obtain ⟨p, e, R, s, m, args, below, meth, c, out⟩ := X
  intro hC hx H locs ls hP hS hl
  obtain ⟨cx, cb, cm, co, ct, cK, cE, ck, cr, cR, cz⟩ := id hC
  obtain ⟨hd, rfl⟩ := hd
  unfold on_Mn at hx
  by_cases h : on_R a ∧ on_R b
  · rw [if_pos h] at hx
    subst cR
    simp only [on_ok, Bool.and_eq_true] at hr
    obtain ⟨⟨r1, r2⟩, r3⟩ := hr
    have r1 := Nat.le_of_ble_eq_true r1
    have r2 := Nat.le_of_ble_eq_true r2
    have r3 := Nat.le_of_ble_eq_true r3
    refine va_mmin cx cb (cm.trans hl.1.symm) co (ct _ hw) (ct _ hw2) (ct _ hw3) (ct _ hw4) (show 1 ≤ fr by omega) (show _ + 13 ≤ lo by omega) (Nat.le_refl _) (Nat.le_refl _) hd ?_
    have e : (if on_i b < on_i a then on_i b else on_i a) = on_i (min a b) := by
      split
      · rename_i q
        first | (rw [on_i_lt h.1 h.2] at q; congr 1; omega) | (rw [on_i_lt h.2 h.1] at q; congr 1; omega)
      · rename_i q
        first | (rw [on_i_lt h.1 h.2] at q; congr 1; omega) | (rw [on_i_lt h.2 h.1] at q; congr 1; omega)
    rw [e]
    exact k _ hC hx H locs ls hP hS hl
  · rw [if_neg h] at hx
    cases hx
theorem on_acpi {c0 c1 n0 n1 idx : Nat} {sp dp mm : Int} {kk : on_S → Option on_O} (hw : Cond.methodLink own idx arraycopyName ∈ on_T) (hw2 : Cond.native arraycopyName ∈ on_T) (hw3 : Cond.static arraycopyName ∈ on_T) (hw4 : Cond.initialized "java/lang/System" ∈ on_T) (h0 : c0 < n) (h1 : c1 < n) (hs0 : on_sh c0 = (1, n0)) (hs1 : on_sh c1 = (1, n1)) (hr : on_ok 0 7 0 fr lo rest = true) (hd : on_dq cc pc 3 pc2 (.invokestatic idx)) (k : ∀ σ2 : on_S, on_G X E cc own rt fr lo nL z n σ2 (kk σ2) pc2 lv rest) : on_G X E cc own rt fr lo nL z n σ (on_Cp σ c0 n0 sp c1 n1 dp mm kk) pc lv (.int (on_i mm) :: .int (on_i dp) :: .ref (z + c1) :: .int (on_i sp) :: .ref (z + c0) :: rest) := by
  obtain ⟨p, e, R, s, m, args, below, meth, c, out⟩ := X
  intro hC hx H locs ls hP hS hl
  obtain ⟨cx, cb, cm, co, ct, cK, cE, ck, cr, cR, cz⟩ := id hC
  obtain ⟨hd, rfl⟩ := hd
  unfold on_Cp at hx
  by_cases h : 0 ≤ sp ∧ 0 ≤ dp ∧ 0 ≤ mm ∧ sp + mm ≤ n0 ∧ dp + mm ≤ n1
  · rw [if_pos h] at hx
    subst cR
    simp only [on_ok, Bool.and_eq_true] at hr
    obtain ⟨⟨r1, r2⟩, r3⟩ := hr
    have r1 := Nat.le_of_ble_eq_true r1
    have r2 := Nat.le_of_ble_eq_true r2
    have r3 := Nat.le_of_ble_eq_true r3
    have hN0 := on_shN hs0
    have hN1 := on_shN hs1
    obtain ⟨a1, a2, a3, a4, a5⟩ := h
    have e1 := on_i_nat a1 (show sp < 2147483648 by omega)
    have e2 := on_i_nat a2 (show dp < 2147483648 by omega)
    have e3 := on_i_nat a3 (show mm < 2147483648 by omega)
    have ng : ∀ q : Int, 0 ≤ q → q < 2147483648 → ¬ on_i q < 0 := by
      intro q q1 q2 q3
      have : on_i q < on_i 0 := q3
      rw [on_i_lt ⟨by omega, q2⟩ ⟨by omega, by omega⟩] at this
      omega
    refine va_copyi cx cb (cm.trans hl.1.symm) co (ct _ hw) (ct _ hw2) (ct _ hw3) (ct _ hw4) cK hP.2 (on_ws_D E z n σ) hS c0 c1 0 0 ((on_ws_at E z σ h0).trans (by rw [on_ce1 hs0])) ((on_ws_at E z σ h1).trans (by rw [on_ce1 hs1])) rfl rfl rfl (ng _ a1 (by omega)) (ng _ a2 (by omega)) (ng _ a3 (by omega)) (by omega) (by omega) (fun _ _ => rfl) (show 1 ≤ fr by omega) (show _ + (5 + 2 + 11) ≤ lo by omega) hd (fun H1 locs1 g1 _ g3 => ?_)
    refine on_size cz (fun hz => k _ hC hx H1 locs1 ls ⟨hz, ?_⟩ g3 hl)
    have e : on_ce E z c1 (on_cp σ c0 sp c1 dp mm c1) = .inl (on_ca E 0, n1, .inl ( va_cpy (fun j : Nat => on_i (σ c0 j)) (fun j : Nat => on_i (σ c1 j)) (on_i sp).toNatClampNeg (on_i dp).toNatClampNeg (on_i mm).toNatClampNeg)) := by
      rw [on_ce1 hs1]
      congr 4
      funext j
      unfold va_cpy on_cp on_sr
      rw [if_pos rfl]
      by_cases hj : (on_i dp).toNatClampNeg ≤ j ∧ j < (on_i dp).toNatClampNeg + (on_i mm).toNatClampNeg
      · rw [if_pos hj, if_pos ⟨by omega, by omega⟩]
        congr 2
        omega
      · rw [if_neg hj, if_neg (fun q => hj ⟨by omega, by omega⟩)]
    have e4 : on_sr σ c1 (on_cp σ c0 sp c1 dp mm c1) = on_cp σ c0 sp c1 dp mm := by
      funext c' j
      by_cases hc : c' = c1
      · subst hc; simp [on_cp, on_sr]
      · simp [on_cp, on_sr, hc]
    rw [← e, on_ws_set E z σ _ h1, e4] at g1
    exact g1
  · rw [if_neg h] at hx
    cases hx
theorem on_acpl {c0 c1 n0 n1 idx : Nat} {sp dp mm : Int} {kk : on_S → Option on_O} (hw : Cond.methodLink own idx arraycopyName ∈ on_T) (hw2 : Cond.native arraycopyName ∈ on_T) (hw3 : Cond.static arraycopyName ∈ on_T) (hw4 : Cond.initialized "java/lang/System" ∈ on_T) (h0 : c0 < n) (h1 : c1 < n) (hs0 : on_sh c0 = (3, n0)) (hs1 : on_sh c1 = (3, n1)) (hr : on_ok 0 7 0 fr lo rest = true) (hd : on_dq cc pc 3 pc2 (.invokestatic idx)) (k : ∀ σ2 : on_S, on_G X E cc own rt fr lo nL z n σ2 (kk σ2) pc2 lv rest) : on_G X E cc own rt fr lo nL z n σ (on_Cp σ c0 n0 sp c1 n1 dp mm kk) pc lv (.int (on_i mm) :: .int (on_i dp) :: .ref (z + c1) :: .int (on_i sp) :: .ref (z + c0) :: rest) := by
  obtain ⟨p, e, R, s, m, args, below, meth, c, out⟩ := X
  intro hC hx H locs ls hP hS hl
  obtain ⟨cx, cb, cm, co, ct, cK, cE, ck, cr, cR, cz⟩ := id hC
  obtain ⟨hd, rfl⟩ := hd
  unfold on_Cp at hx
  by_cases h : 0 ≤ sp ∧ 0 ≤ dp ∧ 0 ≤ mm ∧ sp + mm ≤ n0 ∧ dp + mm ≤ n1
  · rw [if_pos h] at hx
    subst cR
    simp only [on_ok, Bool.and_eq_true] at hr
    obtain ⟨⟨r1, r2⟩, r3⟩ := hr
    have r1 := Nat.le_of_ble_eq_true r1
    have r2 := Nat.le_of_ble_eq_true r2
    have r3 := Nat.le_of_ble_eq_true r3
    have hN0 := on_shN hs0
    have hN1 := on_shN hs1
    obtain ⟨a1, a2, a3, a4, a5⟩ := h
    have e1 := on_i_nat a1 (show sp < 2147483648 by omega)
    have e2 := on_i_nat a2 (show dp < 2147483648 by omega)
    have e3 := on_i_nat a3 (show mm < 2147483648 by omega)
    have ng : ∀ q : Int, 0 ≤ q → q < 2147483648 → ¬ on_i q < 0 := by
      intro q q1 q2 q3
      have : on_i q < on_i 0 := q3
      rw [on_i_lt ⟨by omega, q2⟩ ⟨by omega, by omega⟩] at this
      omega
    refine va_copyl cx cb (cm.trans hl.1.symm) co (ct _ hw) (ct _ hw2) (ct _ hw3) (ct _ hw4) cK hP.2 (on_ws_D E z n σ) hS c0 c1 2 2 ((on_ws_at E z σ h0).trans (by rw [on_ce3 hs0])) ((on_ws_at E z σ h1).trans (by rw [on_ce3 hs1])) rfl rfl rfl (ng _ a1 (by omega)) (ng _ a2 (by omega)) (ng _ a3 (by omega)) (by omega) (by omega) (fun _ _ => rfl) (show 1 ≤ fr by omega) (show _ + (5 + 2 + 11) ≤ lo by omega) hd (fun H1 locs1 g1 _ g3 => ?_)
    refine on_size cz (fun hz => k _ hC hx H1 locs1 ls ⟨hz, ?_⟩ g3 hl)
    have e : on_ce E z c1 (on_cp σ c0 sp c1 dp mm c1) = .inl (on_ca E 2, n1, .inr (.inl ( va_cpy (fun j : Nat => on_l (σ c0 j)) (fun j : Nat => on_l (σ c1 j)) (on_i sp).toNatClampNeg (on_i dp).toNatClampNeg (on_i mm).toNatClampNeg))) := by
      rw [on_ce3 hs1]
      congr 5
      funext j
      unfold va_cpy on_cp on_sr
      rw [if_pos rfl]
      by_cases hj : (on_i dp).toNatClampNeg ≤ j ∧ j < (on_i dp).toNatClampNeg + (on_i mm).toNatClampNeg
      · rw [if_pos hj, if_pos ⟨by omega, by omega⟩]
        congr 2
        omega
      · rw [if_neg hj, if_neg (fun q => hj ⟨by omega, by omega⟩)]
    have e4 : on_sr σ c1 (on_cp σ c0 sp c1 dp mm c1) = on_cp σ c0 sp c1 dp mm := by
      funext c' j
      by_cases hc : c' = c1
      · subst hc; simp [on_cp, on_sr]
      · simp [on_cp, on_sr, hc]
    rw [← e, on_ws_set E z σ _ h1, e4] at g1
    exact g1
  · rw [if_neg h] at hx
    cases hx
theorem on_lcmp_lt {off : Int} {pc1 : Nat} (hd1 : on_dq cc pc 1 pc1 .lcmp) (hd : on_dq cc pc1 3 pc2 (.ifCond .lt off)) (ht : (pc1 : Int) + off = (tgt : Int)) (kf : on_G X E cc own rt fr lo nL z n σ y pc2 lv rest) (kt : on_G X E cc own rt fr lo nL z n σ x tgt lv rest) : on_G X E cc own rt fr lo nL z n σ (on_LtL a b x y) pc lv (.long (on_l b) :: .long (on_l a) :: rest) := by
  obtain ⟨p, e, R, s, m, args, below, meth, c, out⟩ := X
  intro hC hx H locs ls hP hS hl
  obtain ⟨cx, cb, cm, co, ct, cK, cE, ck, cr, cR, cz⟩ := id hC
  obtain ⟨hd1, rfl⟩ := hd1
  obtain ⟨hd, rfl⟩ := hd
  unfold on_LtL at hx
  by_cases hr : on_RL a ∧ on_RL b
  · rw [if_pos hr] at hx
    have lc := on_lc hr.1 hr.2
    refine W.lcmp cx cb hd1 (lv_if_lt cx cb hd ht (fun h => ?_) (fun h => ?_))
    · exact kt hC (by rw [show (if a < b then x else y) = _ from if_pos (lc.1.mp h)] at hx; exact hx) H locs ls hP hS hl
    · exact kf hC (by rw [show (if a < b then x else y) = _ from if_neg (fun q => h (lc.1.mpr q))] at hx; exact hx) H locs ls hP hS hl
  · rw [if_neg hr] at hx
    cases hx
theorem on_lcmp_ge {off : Int} {pc1 : Nat} (hd1 : on_dq cc pc 1 pc1 .lcmp) (hd : on_dq cc pc1 3 pc2 (.ifCond .ge off)) (ht : (pc1 : Int) + off = (tgt : Int)) (kf : on_G X E cc own rt fr lo nL z n σ x pc2 lv rest) (kt : on_G X E cc own rt fr lo nL z n σ y tgt lv rest) : on_G X E cc own rt fr lo nL z n σ (on_LtL a b x y) pc lv (.long (on_l b) :: .long (on_l a) :: rest) := by
  obtain ⟨p, e, R, s, m, args, below, meth, c, out⟩ := X
  intro hC hx H locs ls hP hS hl
  obtain ⟨cx, cb, cm, co, ct, cK, cE, ck, cr, cR, cz⟩ := id hC
  obtain ⟨hd1, rfl⟩ := hd1
  obtain ⟨hd, rfl⟩ := hd
  unfold on_LtL at hx
  by_cases hr : on_RL a ∧ on_RL b
  · rw [if_pos hr] at hx
    have lc := on_lc hr.1 hr.2
    refine W.lcmp cx cb hd1 (lv_if_ge cx cb hd ht (fun h => ?_) (fun h => ?_))
    · exact kt hC (by rw [show (if a < b then x else y) = _ from if_neg (Int.not_lt.mpr (lc.2.2.2.1.mp h))] at hx; exact hx) H locs ls hP hS hl
    · exact kf hC (by rw [show (if a < b then x else y) = _ from if_pos (Int.not_le.mp (fun q => h (lc.2.2.2.1.mpr q)))] at hx; exact hx) H locs ls hP hS hl
  · rw [if_neg hr] at hx
    cases hx
theorem on_lcmp_le {off : Int} {pc1 : Nat} (hd1 : on_dq cc pc 1 pc1 .lcmp) (hd : on_dq cc pc1 3 pc2 (.ifCond .le off)) (ht : (pc1 : Int) + off = (tgt : Int)) (kf : on_G X E cc own rt fr lo nL z n σ y pc2 lv rest) (kt : on_G X E cc own rt fr lo nL z n σ x tgt lv rest) : on_G X E cc own rt fr lo nL z n σ (on_LeL a b x y) pc lv (.long (on_l b) :: .long (on_l a) :: rest) := by
  obtain ⟨p, e, R, s, m, args, below, meth, c, out⟩ := X
  intro hC hx H locs ls hP hS hl
  obtain ⟨cx, cb, cm, co, ct, cK, cE, ck, cr, cR, cz⟩ := id hC
  obtain ⟨hd1, rfl⟩ := hd1
  obtain ⟨hd, rfl⟩ := hd
  unfold on_LeL at hx
  by_cases hr : on_RL a ∧ on_RL b
  · rw [if_pos hr] at hx
    have lc := on_lc hr.1 hr.2
    refine W.lcmp cx cb hd1 (lv_if_le cx cb hd ht (fun h => ?_) (fun h => ?_))
    · exact kt hC (by rw [show (if a ≤ b then x else y) = _ from if_pos (lc.2.1.mp h)] at hx; exact hx) H locs ls hP hS hl
    · exact kf hC (by rw [show (if a ≤ b then x else y) = _ from if_neg (fun q => h (lc.2.1.mpr q))] at hx; exact hx) H locs ls hP hS hl
  · rw [if_neg hr] at hx
    cases hx
theorem on_lcmp_gt {off : Int} {pc1 : Nat} (hd1 : on_dq cc pc 1 pc1 .lcmp) (hd : on_dq cc pc1 3 pc2 (.ifCond .gt off)) (ht : (pc1 : Int) + off = (tgt : Int)) (kf : on_G X E cc own rt fr lo nL z n σ x pc2 lv rest) (kt : on_G X E cc own rt fr lo nL z n σ y tgt lv rest) : on_G X E cc own rt fr lo nL z n σ (on_LeL a b x y) pc lv (.long (on_l b) :: .long (on_l a) :: rest) := by
  obtain ⟨p, e, R, s, m, args, below, meth, c, out⟩ := X
  intro hC hx H locs ls hP hS hl
  obtain ⟨cx, cb, cm, co, ct, cK, cE, ck, cr, cR, cz⟩ := id hC
  obtain ⟨hd1, rfl⟩ := hd1
  obtain ⟨hd, rfl⟩ := hd
  unfold on_LeL at hx
  by_cases hr : on_RL a ∧ on_RL b
  · rw [if_pos hr] at hx
    have lc := on_lc hr.1 hr.2
    refine W.lcmp cx cb hd1 (lv_if_gt cx cb hd ht (fun h => ?_) (fun h => ?_))
    · exact kt hC (by rw [show (if a ≤ b then x else y) = _ from if_neg (Int.not_le.mpr (lc.2.2.2.2.mp h))] at hx; exact hx) H locs ls hP hS hl
    · exact kf hC (by rw [show (if a ≤ b then x else y) = _ from if_pos (Int.not_lt.mp (fun q => h (lc.2.2.2.2.mpr q)))] at hx; exact hx) H locs ls hP hS hl
  · rw [if_neg hr] at hx
    cases hx
theorem on_lcmp_eq {off : Int} {pc1 : Nat} (hd1 : on_dq cc pc 1 pc1 .lcmp) (hd : on_dq cc pc1 3 pc2 (.ifCond .eq off)) (ht : (pc1 : Int) + off = (tgt : Int)) (kf : on_G X E cc own rt fr lo nL z n σ y pc2 lv rest) (kt : on_G X E cc own rt fr lo nL z n σ x tgt lv rest) : on_G X E cc own rt fr lo nL z n σ (on_EqL a b x y) pc lv (.long (on_l b) :: .long (on_l a) :: rest) := by
  obtain ⟨p, e, R, s, m, args, below, meth, c, out⟩ := X
  intro hC hx H locs ls hP hS hl
  obtain ⟨cx, cb, cm, co, ct, cK, cE, ck, cr, cR, cz⟩ := id hC
  obtain ⟨hd1, rfl⟩ := hd1
  obtain ⟨hd, rfl⟩ := hd
  unfold on_EqL at hx
  by_cases hr : on_RL a ∧ on_RL b
  · rw [if_pos hr] at hx
    have lc := on_lc hr.1 hr.2
    refine W.lcmp cx cb hd1 (lv_if_eq cx cb hd ht (fun h => ?_) (fun h => ?_))
    · exact kt hC (by rw [show (if a = b then x else y) = _ from if_pos (lc.2.2.1.mp h)] at hx; exact hx) H locs ls hP hS hl
    · exact kf hC (by rw [show (if a = b then x else y) = _ from if_neg (fun q => h (lc.2.2.1.mpr q))] at hx; exact hx) H locs ls hP hS hl
  · rw [if_neg hr] at hx
    cases hx
theorem on_lcmp_ne {off : Int} {pc1 : Nat} (hd1 : on_dq cc pc 1 pc1 .lcmp) (hd : on_dq cc pc1 3 pc2 (.ifCond .ne off)) (ht : (pc1 : Int) + off = (tgt : Int)) (kf : on_G X E cc own rt fr lo nL z n σ x pc2 lv rest) (kt : on_G X E cc own rt fr lo nL z n σ y tgt lv rest) : on_G X E cc own rt fr lo nL z n σ (on_EqL a b x y) pc lv (.long (on_l b) :: .long (on_l a) :: rest) := by
  obtain ⟨p, e, R, s, m, args, below, meth, c, out⟩ := X
  intro hC hx H locs ls hP hS hl
  obtain ⟨cx, cb, cm, co, ct, cK, cE, ck, cr, cR, cz⟩ := id hC
  obtain ⟨hd1, rfl⟩ := hd1
  obtain ⟨hd, rfl⟩ := hd
  unfold on_EqL at hx
  by_cases hr : on_RL a ∧ on_RL b
  · rw [if_pos hr] at hx
    have lc := on_lc hr.1 hr.2
    refine W.lcmp cx cb hd1 (lv_if_ne cx cb hd ht (fun h => ?_) (fun h => ?_))
    · exact kt hC (by rw [show (if a = b then x else y) = _ from if_neg (fun q => h (lc.2.2.1.mpr q))] at hx; exact hx) H locs ls hP hS hl
    · exact kf hC (by rw [show (if a = b then x else y) = _ from if_pos (lc.2.2.1.mp h)] at hx; exact hx) H locs ls hP hS hl
  · rw [if_neg hr] at hx
    cases hx
theorem on_tsw {dflt hi : Int} {len dt : Nat} {offs : Array Int} {xs : List (Option on_O)} {d x0 : Option on_O} (tgs : List Nat) (hd : on_dq cc pc len pc2 (.tableswitch dflt 0 hi offs)) (hlen : hi + 1 = ((x0 :: xs).length : Int)) (hl2 : (x0 :: xs).length = tgs.length) (htg : ∀ j : Nat, j < tgs.length → (offs[j]?).map (fun o => (pc : Int) + o) = some (tgs.getD j 0 : Int)) (hdt : (pc : Int) + dflt = (dt : Int)) (k : ∀ (j : Nat) (q : Option on_O), (x0 :: xs)[j]? = some q → on_G X E cc own rt fr lo nL z n σ q (tgs.getD j 0) lv rest) (kd : on_G X E cc own rt fr lo nL z n σ d dt lv rest) : on_G X E cc own rt fr lo nL z n σ (on_sw a 0 (x0 :: xs) d) pc lv (.int (on_i a) :: rest) := by
  obtain ⟨p, e, R, s, m, args, below, meth, c, out⟩ := X
  intro hC hx H locs ls hP hS hl
  obtain ⟨cx, cb, cm, co, ct, cK, cE, ck, cr, cR, cz⟩ := id hC
  obtain ⟨hd, rfl⟩ := hd
  have ha := on_it (on_sw_R hx)
  rcases on_sw_out _ _ _ hx with ⟨j, e1, q, e2, e3⟩ | ⟨h1, h2⟩
  · have hj : j < (x0 :: xs).length := (List.getElem?_eq_some_iff.mp e2).1
    obtain ⟨off, o1, o2⟩ : ∃ off : Int, offs[j]? = some off ∧ (pc : Int) + off = (tgs.getD j 0 : Int) := by
      have h9 := htg j (hl2 ▸ hj)
      cases ho : offs[j]? with
      | none => rw [ho] at h9; cases h9
      | some o => rw [ho] at h9; exact ⟨o, rfl, Option.some.inj h9⟩
    refine lv_tableIn cx cb hd (by rw [ha]; omega) (by rw [ha]; omega) (off := off) ?_ o2 (k j q e2 hC e3 H locs ls hP hS hl)
    rw [ha, e1]
    simpa using o1
  · refine lv_tableOut cx cb hd ?_ hdt (kd hC h2 H locs ls hP hS hl)
    rw [ha]
    by_cases h0 : a < 0
    · exact Or.inl h0
    · refine Or.inr ?_
      by_cases h3 : hi < a
      · exact h3
      · exact absurd (show a = 0 + ((a.toNat : Nat) : Int) by omega) (h1 a.toNat (by omega))
end ON8
