/-! the law: one turn. the judgement lw_J: at this place of the law, i ints read, with this pure world -/
abbrev lw_Y : Type := Program × Env × State × MethodId × List Frame × Method × Code × Nat
def lw_a (xs : Nat → Int32) (j : Nat) : Int := (xs j).toInt
theorem lw_aR (xs : Nat → Int32) (j : Nat) : on_R (lw_a xs j) := ⟨Int32.le_toInt _, Int32.toInt_lt _⟩
def lw_cx (Y : lw_Y) (E : on_E) (z L : Nat) (xs : Nat → Int32) : Prop := match Y with
  | (p, _, s, m, _, meth, c, b) => lw_At p s m meth c b L xs ∧ va_K E.2.1 vwCl (on_tys E) s ∧ on_Ex E z s ∧ L ≤ 3072 ∧ s.heap.size = z
def lw_lv (z i b : Nat) : List (Nat × Value) := [(0, .ref b), (1, .ref (z + 0)), (2, .ref (z + 77)), (3, .int (nI i))]
def lw_J (Y : lw_Y) (E : on_E) (z L : Nat) (xs : Nat → Int32) (i cl sl n : Nat) (σ : on_S) (pc : Nat) (st : List Value) : Prop := match Y with
  | (p, e, s, m, below, meth, c, b) => lw_cx (p, e, s, m, below, meth, c, b) E z L xs → ∀ (H : Heap) (locs : List Loc) (ls : Array Slot), on_Rep E z n σ H → va_S (fun q => z ≤ q) s.heap H locs → lv_has ls 4 (lw_lv z i b) → W p E.1 e room_1 s m #[Value.ref b] below meth c H locs cl sl (lw_Z below #[Value.ref b] s) (F0 m pc ls st)
theorem on_runQh {E : on_E} {z n : Nat} {p : Program} {l : Launch} {e : Env} {R : Room} {s : State} {m : MethodId} {args : Array Value} {below : List Frame} {meth : Method} {c : Code} {H : Heap} {locs : List Loc} {Q : State → Prop} {ls : Array Slot} {st0 rest : List Value} {pc cl sl mc ms : Nat} {a : Array Value} {r2 : Option FieldType} {q : on_O} (hr : va_Run p l e R s m args below meth c H locs cl sl mc ms (F0 m pc ls st0) rest (on_Qc E r2 z n q a) (fun q => z ≤ q)) (hS : va_S (fun q => z ≤ q) s.heap H locs)
    (kk : ∀ (H1 : Heap) (locs1 : List Loc), on_Rep E z n q.2 H1 → va_S (fun q => z ≤ q) s.heap H1 locs1 → W p l e R s m args below meth c H1 locs1 (cl + mc) (sl + ms) Q (F0 m (pc + 3) ls ((on_rv r2 q.1).toList ++ rest))) : W p l e R s m args below meth c H locs cl sl Q (F0 m pc ls st0) := by
  intro T hT X
  obtain ⟨v, st₀, t, T', L, h0, X', hL, e1, e2, ⟨hv, hp, hz, hk⟩, st⟩ := hr T hT X
  cases hv
  rw [h0] at hz hk
  obtain ⟨t2, a1, b1⟩ := kk T'.heap (locs ++ L) (by rw [e1]; exact hp) ⟨Nat.le_trans hS.1 (by rw [e1]; exact hz), fun q h1 h2 => by rw [e1, hk q (Nat.lt_of_lt_of_le h1 hS.1) h2]; exact hS.2.1 q h1 h2, fun q hq => by
      rcases List.mem_append.mp hq with h | h
      · exact hS.2.2 q h
      · exact hL q h⟩ T' rfl X'
  exact ⟨t2, st t2 a1, b1⟩
section LWJ
variable {Y : lw_Y} {E : on_E} {z L : Nat} {xs : Nat → Int32} {i cl sl n : Nat} {σ : on_S} {pc pc2 p1 p2 p3 p4 p5 tgt : Nat} {st : List Value}
theorem lw_al1 (hd : on_dq code pc 1 pc2 (.aload_n 1)) (k : lw_J Y E z L xs i cl sl n σ pc2 (.ref (z + 0) :: st)) : lw_J Y E z L xs i cl sl n σ pc st := by
  obtain ⟨p, e, s, m, below, meth, c, b⟩ := Y
  intro hC H locs ls hP hS hl
  obtain ⟨⟨hx, hb, hr, hml, hown, hts, hX, hbl, hlocks, hgv⟩, hK, hE, hL, hz⟩ := id hC
  obtain ⟨hd, rfl⟩ := hd
  exact lv_aload_n hx hb hd rfl (lv_at hl 1 rfl) (k hC H locs ls hP hS hl)
theorem lw_al2 (hd : on_dq code pc 1 pc2 (.aload_n 2)) (k : lw_J Y E z L xs i cl sl n σ pc2 (.ref (z + 77) :: st)) : lw_J Y E z L xs i cl sl n σ pc st := by
  obtain ⟨p, e, s, m, below, meth, c, b⟩ := Y
  intro hC H locs ls hP hS hl
  obtain ⟨⟨hx, hb, hr, hml, hown, hts, hX, hbl, hlocks, hgv⟩, hK, hE, hL, hz⟩ := id hC
  obtain ⟨hd, rfl⟩ := hd
  exact lv_aload_n hx hb hd rfl (lv_at hl 2 rfl) (k hC H locs ls hP hS hl)
theorem lw_at (q : Nat) (hi : q < L) (hd1 : on_dq code pc 1 p1 .iaload) (k : lw_J Y E z L xs i cl sl n σ p1 (.int (on_i (lw_a xs q)) :: st)) (j : Nat) (hj : j = q) (b0 : Nat) (hb0 : b0 = Y.2.2.2.2.2.2.2) : lw_J Y E z L xs i cl sl n σ pc (.int (nI j) :: .ref b0 :: st) := by
  subst hj
  subst hb0
  obtain ⟨p, e, s, m, below, meth, c, b⟩ := Y
  intro hC H locs ls hP hS hl
  obtain ⟨⟨hx, hb, hr, hml, hown, hts, hX, hbl, hlocks, hgv⟩, hK, hE, hL, hz⟩ := id hC
  obtain ⟨hd1, rfl⟩ := hd1
  have k := k hC H locs ls hP hS hl
  refine va_sld hx hb hX hbl (by show ¬ z ≤ b; omega) hS (vp_in_nI hi (by omega)) hd1 ?_
  rw [nI_clamp (by omega)]
  rw [lw_a, on_ti] at k
  exact k
theorem lw_arg (kI : Int) (kN : Nat) (hk : Int32.ofInt kI = nI kN) (hi : i + kN < L) (hd1 : on_dq code pc 1 p1 (.aload_n 0)) (hd2 : on_dq code p1 1 p2 (.iload_n 3)) (hd3 : on_dq code p2 1 p3 (.iconst kI)) (hd4 : on_dq code p3 1 p4 .iadd) (hd5 : on_dq code p4 1 p5 .iaload) (k : lw_J Y E z L xs i cl sl n σ p5 (.int (on_i (lw_a xs (i + kN))) :: st)) : lw_J Y E z L xs i cl sl n σ pc st := by
  have h9 := lw_at (Y := Y) (i + kN) hi hd5 k (i + kN) rfl _ rfl
  obtain ⟨p, e, s, m, below, meth, c, b⟩ := Y
  intro hC H locs ls hP hS hl
  obtain ⟨⟨hx, hb, hr, hml, hown, hts, hX, hbl, hlocks, hgv⟩, hK, hE, hL, hz⟩ := id hC
  obtain ⟨hd1, rfl⟩ := hd1
  obtain ⟨hd2, rfl⟩ := hd2
  obtain ⟨hd3, rfl⟩ := hd3
  obtain ⟨hd4, rfl⟩ := hd4
  refine lv_aload_n hx hb hd1 rfl (lv_at hl 0 rfl) ?_
  refine lv_iload_n hx hb hd2 rfl (lv_at hl 3 rfl) ?_
  refine lv_iconst (v := nI kN) hx hb hd3 hk ?_
  refine lv_iadd hx hb hd4 ?_
  rw [nI_add]
  exact h9 hC H locs ls hP hS hl
theorem lw_callM {na idx c2 ci f2 l2 ny mc ms n2 : Nat} {y2 : MethodName} {cy : ByteArray} {q2 : vw_C} {As : List Value} {q : on_O} (hM : on_Mv y2 cy ny (some .int) na) (hw : Cond.methodLink R_law idx y2 ∈ on_T) (hq2 : vwCl[ci]? = some q2) (hqy : q2.1 = y2.cls) (hn : c2 < n) (hs : on_sh c2 = (0, ci)) (hlen : As.length = na) (hc : Met E.1 y2 (.code y2 cy ny (some .int) :: on_T) { frames := f2, cells := mc, slots := ms, locals := l2 } (va_Pc (.ref (z + c2) :: As) (on_U E z n σ)) (on_Qc E (some .int) z n2 q) mc ms (fun a => z ≤ a)) (ho : on_ok f2 ny l2 15 564 st = true) (hd : on_dq code pc 3 pc2 (.invokevirtual idx)) (hcl : cl + mc ≤ 600000) (hsl : sl + ms ≤ 7302250) (k : lw_J Y E z L xs i (cl + mc) (sl + ms) n2 q.2 pc2 (.int (on_i q.1) :: st)) : lw_J Y E z L xs i cl sl n σ pc (As.reverse ++ .ref (z + c2) :: st) := by
  obtain ⟨p, e, s, m, below, meth, c, b⟩ := Y
  intro hC H locs ls hP hS hl
  obtain ⟨⟨hx, hb, hr, hml, hown, hts, hX, hbl, hlocks, hgv⟩, hK, hE, hL, hz⟩ := id hC
  obtain ⟨hd, rfl⟩ := hd
  have ct : ∀ w ∈ on_T, w.before #[Value.ref b] s = true := fun w hw => hts w (on_Tin hw)
  obtain ⟨m1, m2, m3, m4, m5, m6, m7⟩ := hM
  simp only [on_ok, Bool.and_eq_true] at ho
  obtain ⟨⟨r1, r2⟩, r3⟩ := ho
  have cb' : CallB _ s #[Value.ref b] R_law idx y2 cy ny (some .int) (.code y2 cy ny (some .int) :: on_T) { frames := f2, cells := mc, slots := ms, locals := l2 } mc ms na := callB_of (R := room_1) na ct (on_goodT m1) rfl rfl rfl (ct _ m4) (ct _ hw) ⟨m5, m6, m7⟩ ⟨Nat.le_of_ble_eq_true r1, Nat.le_of_ble_eq_true r2⟩
  refine on_runQh (q := q) (va_runV (As := As) (rest := st) (C := y2.cls) ⟨hx, hb, hml, hown, ct⟩ hc ⟨cb', ct _ m2, ct _ m3⟩ ⟨on_U_blind, ?_, ?_⟩ rfl hlen hl.1 rfl (lv_room (Nat.le_of_ble_eq_true r3)) hd ⟨hcl, hsl⟩) hS ?_
  · have h1 := va_recv (ci := ci) hK hP.2 hq2 ((on_ws_at E z σ hn).trans (by rw [on_ce0 hs]))
    rw [← hqy]
    exact h1
  · intro U hU hW
    exact ⟨rfl, by rw [hU]; exact hP, va_K.moved hW.alike hK, hE.warm hW (fun q h1 h2 => by rw [hU]; exact hS.2.1 q h1 h2)⟩
  · intro H1 locs1 g1 g2
    exact k hC H1 locs1 ls g1 g2 hl
theorem lw_call {na idx c2 ci f2 l2 ny : Nat} {y2 : MethodName} {cy : ByteArray} {q2 : vw_C} {As : List Value} {q : on_O} {r : Option on_O} (hM : on_Mv y2 cy ny (some .int) na) (hw : Cond.methodLink R_law idx y2 ∈ on_T) (hq2 : vwCl[ci]? = some q2) (hqy : q2.1 = y2.cls) (hn : c2 < n) (hs : on_sh c2 = (0, ci)) (hlen : As.length = na) (hc : on_Sp E y2 cy ny (some .int) f2 l2 z n (.ref (z + c2) :: As) σ r) (hr : r = some q) (ho : on_ok f2 ny l2 15 564 st = true) (hd : on_dq code pc 3 pc2 (.invokevirtual idx)) (hcl : cl ≤ 600000) (hsl : sl ≤ 7302250) (k : lw_J Y E z L xs i cl sl n q.2 pc2 (.int (on_i q.1) :: st)) : lw_J Y E z L xs i cl sl n σ pc (As.reverse ++ .ref (z + c2) :: st) :=
  lw_callM hM hw hq2 hqy hn hs hlen (hc q hr) ho hd hcl hsl k
theorem lw_same {a : Int32} {off : Int} (hd : on_dq code pc 3 pc2 (.if_icmp .eq off)) (ht : (pc : Int) + off = (tgt : Int)) (k : lw_J Y E z L xs i cl sl n σ tgt st) : lw_J Y E z L xs i cl sl n σ pc (.int a :: .int a :: st) := by
  obtain ⟨p, e, s, m, below, meth, c, b⟩ := Y
  intro hC H locs ls hP hS hl
  obtain ⟨⟨hx, hb, hr, hml, hown, hts, hX, hbl, hlocks, hgv⟩, hK, hE, hL, hz⟩ := id hC
  obtain ⟨hd, rfl⟩ := hd
  exact lv_icmp_eq hx hb hd ht (fun _ => k hC H locs ls hP hS hl) (fun h => absurd rfl h)
theorem lw_wide {cl2 sl2 : Nat} (h1 : cl ≤ cl2) (h2 : sl ≤ sl2) (k : lw_J Y E z L xs i cl2 sl2 n σ pc st) : lw_J Y E z L xs i cl sl n σ pc st := by
  obtain ⟨p, e, s, m, below, meth, c, b⟩ := Y
  intro hC H locs ls hP hS hl
  exact W.widen h1 h2 (k hC H locs ls hP hS hl)
theorem lw_i2l {x : Int} (hR : on_R x) (hd : on_dq code pc 1 pc2 .i2l) (k : lw_J Y E z L xs i cl sl n σ pc2 (.long (on_l x) :: st)) : lw_J Y E z L xs i cl sl n σ pc (.int (on_i x) :: st) := by
  obtain ⟨p, e, s, m, below, meth, c, b⟩ := Y
  intro hC H locs ls hP hS hl
  obtain ⟨⟨hx, hb, hr, hml, hown, hts, hX, hbl, hlocks, hgv⟩, hK, hE, hL, hz⟩ := id hC
  obtain ⟨hd, rfl⟩ := hd
  exact lv_i2l hx hb hd (on_i2l hR) (k hC H locs ls hP hS hl)
theorem lw_32 (hd : on_dq code pc 2 p1 (.bipush 32)) (hd2 : on_dq code p1 1 pc2 .lshl) {x : Int64} (k : lw_J Y E z L xs i cl sl n σ pc2 (.long (x <<< ((32 : Int32).toInt64 &&& 63)) :: st)) : lw_J Y E z L xs i cl sl n σ pc (.long x :: st) := by
  obtain ⟨p, e, s, m, below, meth, c, b⟩ := Y
  intro hC H locs ls hP hS hl
  obtain ⟨⟨hx, hb, hr, hml, hown, hts, hX, hbl, hlocks, hgv⟩, hK, hE, hL, hz⟩ := id hC
  obtain ⟨hd, rfl⟩ := hd
  obtain ⟨hd2, rfl⟩ := hd2
  refine lv_bipush (v := 32) hx hb hd (by decide) ?_
  exact lv_lshl hx hb hd2 rfl (k hC H locs ls hP hS hl)
theorem lw_mask {idx : Nat} {v : Int64} (hw : Cond.constantLong R_law idx v ∈ on_T) (hd : on_dq code pc 3 p1 (.ldc2_w idx)) (hd2 : on_dq code p1 1 p2 .land) (hd3 : on_dq code p2 1 pc2 .lor) {x y : Int64} (k : lw_J Y E z L xs i cl sl n σ pc2 (.long (y ||| (x &&& v)) :: st)) : lw_J Y E z L xs i cl sl n σ pc (.long x :: .long y :: st) := by
  obtain ⟨p, e, s, m, below, meth, c, b⟩ := Y
  intro hC H locs ls hP hS hl
  obtain ⟨⟨hx, hb, hr, hml, hown, hts, hX, hbl, hlocks, hgv⟩, hK, hE, hL, hz⟩ := id hC
  obtain ⟨hd, rfl⟩ := hd
  obtain ⟨hd2, rfl⟩ := hd2
  obtain ⟨hd3, rfl⟩ := hd3
  have ct : ∀ w ∈ on_T, w.before #[Value.ref b] s = true := fun w hw => hts w (on_Tin hw)
  refine lv_ldc2 hx hb hown (ct _ hw) hd ?_
  refine lv_land hx hb hd2 ?_
  exact lv_lor hx hb hd3 (k hC H locs ls hP hS hl)
/-- what a turn owes: the tail, in whatever world the two calls leave -/
def lw_K (Y : lw_Y) (E : on_E) (z L : Nat) (xs : Nat → Int32) (i cl sl n : Nat) : Prop := ∀ (n2 : Nat) (σ2 : on_S), n ≤ n2 → bI n2 σ2 → lw_J Y E z L xs i (cl + 25) (sl + 616) n2 σ2 2289 []

def lw_t0 (pc idx1 idx2 : Nat) (off : Int) : List (Nat × Nat × Nat × Instr) := [(pc, 1, pc + 1, .aload_n 1), (pc + 1, 3, pc + 4, .invokevirtual idx1), (pc + 4, 1, pc + 5, .aload_n 2), (pc + 5, 3, pc + 8, .invokevirtual idx2), (pc + 8, 3, pc + 11, .if_icmp .eq off)]
set_option maxRecDepth 20000 in
theorem lw_o0 {idx1 idx2 f1 l1 n1 f2 l2 n2 : Nat} {off : Int} {y1 y2 : MethodName} {cy1 cy2 : ByteArray} {f g : on_S → Option on_O} (hi : i + 6 ≤ L) (hN : 100 ≤ n) (hcl : cl + 25 ≤ 600000) (hsl : sl + 616 ≤ 7302250) (h : on_tab code (lw_t0 pc idx1 idx2 off) = true) (ht : ((pc + 8 : Nat) : Int) + off = (2289 : Nat)) (hM1 : on_Mv y1 cy1 n1 (some .int) 0) (hw1 : Cond.methodLink R_law idx1 y1 ∈ on_T) (hy1 : RX11 = y1.cls) (ho1 : on_ok f1 n1 l1 15 564 [] = true) (hM2 : on_Mv y2 cy2 n2 (some .int) 0) (hw2 : Cond.methodLink R_law idx2 y2 ∈ on_T) (hy2 : RX12 = y2.cls) (ho2 : ∀ v : Int32, on_ok f2 n2 l2 15 564 [.int v] = true) (h1 : on_Sp E y1 cy1 n1 (some .int) f1 l1 z n (.ref (z + 0) :: []) σ (f σ)) (h2 : ∀ σ1 : on_S, on_Sp E y2 cy2 n2 (some .int) f2 l2 z n (.ref (z + 77) :: []) σ1 (g σ1)) (hop : bOp n σ f g) (k : lw_K Y E z L xs i cl sl n) : lw_J Y E z L xs i cl sl n σ pc [] := by
  obtain ⟨r, σ1, σ2, e1, e2, hR, hI⟩ := hop
  unfold lw_t0 at h
  refine lw_al1 (on_ta h 0 rfl) ?_
  refine lw_call (c2 := 0) (ci := 11) (As := []) hM1 hw1 rfl hy1 (by omega) (by decide) rfl h1 e1 ho1 (on_ta h 1 rfl) (by omega) (by omega) ?_
  refine lw_al2 (on_ta h 2 rfl) ?_
  refine lw_call (c2 := 77) (ci := 12) (As := []) hM2 hw2 rfl hy2 (by omega) (by decide) rfl (h2 _) e2 (ho2 _) (on_ta h 3 rfl) (by omega) (by omega) ?_
  refine lw_same (on_ta h 4 rfl) ht ?_
  exact lw_wide (by omega) (by omega) (k n σ2 (Nat.le_refl _) hI)
def lw_t1 (pc idx1 idx2 : Nat) (off : Int) : List (Nat × Nat × Nat × Instr) := [(pc, 1, pc + 1, .aload_n 1), (pc + 1, 1, pc + 2, .aload_n 0), (pc + 2, 1, pc + 3, .iload_n 3), (pc + 3, 1, pc + 4, .iconst 1), (pc + 4, 1, pc + 5, .iadd), (pc + 5, 1, pc + 6, .iaload), (pc + 6, 3, pc + 9, .invokevirtual idx1), (pc + 9, 1, pc + 10, .aload_n 2), (pc + 10, 1, pc + 11, .aload_n 0), (pc + 11, 1, pc + 12, .iload_n 3), (pc + 12, 1, pc + 13, .iconst 1), (pc + 13, 1, pc + 14, .iadd), (pc + 14, 1, pc + 15, .iaload), (pc + 15, 3, pc + 18, .invokevirtual idx2), (pc + 18, 3, pc + 21, .if_icmp .eq off)]
set_option maxRecDepth 20000 in
theorem lw_o1 {idx1 idx2 f1 l1 n1 f2 l2 n2 : Nat} {off : Int} {y1 y2 : MethodName} {cy1 cy2 : ByteArray} {f g : on_S → Option on_O} (hi : i + 6 ≤ L) (hN : 100 ≤ n) (hcl : cl + 25 ≤ 600000) (hsl : sl + 616 ≤ 7302250) (h : on_tab code (lw_t1 pc idx1 idx2 off) = true) (ht : ((pc + 18 : Nat) : Int) + off = (2289 : Nat)) (hM1 : on_Mv y1 cy1 n1 (some .int) 1) (hw1 : Cond.methodLink R_law idx1 y1 ∈ on_T) (hy1 : RX11 = y1.cls) (ho1 : on_ok f1 n1 l1 15 564 [] = true) (hM2 : on_Mv y2 cy2 n2 (some .int) 1) (hw2 : Cond.methodLink R_law idx2 y2 ∈ on_T) (hy2 : RX12 = y2.cls) (ho2 : ∀ v : Int32, on_ok f2 n2 l2 15 564 [.int v] = true) (h1 : on_Sp E y1 cy1 n1 (some .int) f1 l1 z n (.ref (z + 0) :: [.int (on_i (lw_a xs (i + 1)))]) σ (f σ)) (h2 : ∀ σ1 : on_S, on_Sp E y2 cy2 n2 (some .int) f2 l2 z n (.ref (z + 77) :: [.int (on_i (lw_a xs (i + 1)))]) σ1 (g σ1)) (hop : bOp n σ f g) (k : lw_K Y E z L xs i cl sl n) : lw_J Y E z L xs i cl sl n σ pc [] := by
  obtain ⟨r, σ1, σ2, e1, e2, hR, hI⟩ := hop
  unfold lw_t1 at h
  refine lw_al1 (on_ta h 0 rfl) ?_
  refine lw_arg 1 1 rfl (by omega) (on_ta h 1 rfl) (on_ta h 2 rfl) (on_ta h 3 rfl) (on_ta h 4 rfl) (on_ta h 5 rfl) ?_
  refine lw_call (c2 := 0) (ci := 11) (As := [.int (on_i (lw_a xs (i + 1)))]) hM1 hw1 rfl hy1 (by omega) (by decide) rfl h1 e1 ho1 (on_ta h 6 rfl) (by omega) (by omega) ?_
  refine lw_al2 (on_ta h 7 rfl) ?_
  refine lw_arg 1 1 rfl (by omega) (on_ta h 8 rfl) (on_ta h 9 rfl) (on_ta h 10 rfl) (on_ta h 11 rfl) (on_ta h 12 rfl) ?_
  refine lw_call (c2 := 77) (ci := 12) (As := [.int (on_i (lw_a xs (i + 1)))]) hM2 hw2 rfl hy2 (by omega) (by decide) rfl (h2 _) e2 (ho2 _) (on_ta h 13 rfl) (by omega) (by omega) ?_
  refine lw_same (on_ta h 14 rfl) ht ?_
  exact lw_wide (by omega) (by omega) (k n σ2 (Nat.le_refl _) hI)
def lw_t2 (pc idx1 idx2 : Nat) (off : Int) : List (Nat × Nat × Nat × Instr) := [(pc, 1, pc + 1, .aload_n 1), (pc + 1, 1, pc + 2, .aload_n 0), (pc + 2, 1, pc + 3, .iload_n 3), (pc + 3, 1, pc + 4, .iconst 1), (pc + 4, 1, pc + 5, .iadd), (pc + 5, 1, pc + 6, .iaload), (pc + 6, 1, pc + 7, .aload_n 0), (pc + 7, 1, pc + 8, .iload_n 3), (pc + 8, 1, pc + 9, .iconst 2), (pc + 9, 1, pc + 10, .iadd), (pc + 10, 1, pc + 11, .iaload), (pc + 11, 3, pc + 14, .invokevirtual idx1), (pc + 14, 1, pc + 15, .aload_n 2), (pc + 15, 1, pc + 16, .aload_n 0), (pc + 16, 1, pc + 17, .iload_n 3), (pc + 17, 1, pc + 18, .iconst 1), (pc + 18, 1, pc + 19, .iadd), (pc + 19, 1, pc + 20, .iaload), (pc + 20, 1, pc + 21, .aload_n 0), (pc + 21, 1, pc + 22, .iload_n 3), (pc + 22, 1, pc + 23, .iconst 2), (pc + 23, 1, pc + 24, .iadd), (pc + 24, 1, pc + 25, .iaload), (pc + 25, 3, pc + 28, .invokevirtual idx2), (pc + 28, 3, pc + 31, .if_icmp .eq off)]
set_option maxRecDepth 20000 in
theorem lw_o2 {idx1 idx2 f1 l1 n1 f2 l2 n2 : Nat} {off : Int} {y1 y2 : MethodName} {cy1 cy2 : ByteArray} {f g : on_S → Option on_O} (hi : i + 6 ≤ L) (hN : 100 ≤ n) (hcl : cl + 25 ≤ 600000) (hsl : sl + 616 ≤ 7302250) (h : on_tab code (lw_t2 pc idx1 idx2 off) = true) (ht : ((pc + 28 : Nat) : Int) + off = (2289 : Nat)) (hM1 : on_Mv y1 cy1 n1 (some .int) 2) (hw1 : Cond.methodLink R_law idx1 y1 ∈ on_T) (hy1 : RX11 = y1.cls) (ho1 : on_ok f1 n1 l1 15 564 [] = true) (hM2 : on_Mv y2 cy2 n2 (some .int) 2) (hw2 : Cond.methodLink R_law idx2 y2 ∈ on_T) (hy2 : RX12 = y2.cls) (ho2 : ∀ v : Int32, on_ok f2 n2 l2 15 564 [.int v] = true) (h1 : on_Sp E y1 cy1 n1 (some .int) f1 l1 z n (.ref (z + 0) :: [.int (on_i (lw_a xs (i + 1))), .int (on_i (lw_a xs (i + 2)))]) σ (f σ)) (h2 : ∀ σ1 : on_S, on_Sp E y2 cy2 n2 (some .int) f2 l2 z n (.ref (z + 77) :: [.int (on_i (lw_a xs (i + 1))), .int (on_i (lw_a xs (i + 2)))]) σ1 (g σ1)) (hop : bOp n σ f g) (k : lw_K Y E z L xs i cl sl n) : lw_J Y E z L xs i cl sl n σ pc [] := by
  obtain ⟨r, σ1, σ2, e1, e2, hR, hI⟩ := hop
  unfold lw_t2 at h
  refine lw_al1 (on_ta h 0 rfl) ?_
  refine lw_arg 1 1 rfl (by omega) (on_ta h 1 rfl) (on_ta h 2 rfl) (on_ta h 3 rfl) (on_ta h 4 rfl) (on_ta h 5 rfl) ?_
  refine lw_arg 2 2 rfl (by omega) (on_ta h 6 rfl) (on_ta h 7 rfl) (on_ta h 8 rfl) (on_ta h 9 rfl) (on_ta h 10 rfl) ?_
  refine lw_call (c2 := 0) (ci := 11) (As := [.int (on_i (lw_a xs (i + 1))), .int (on_i (lw_a xs (i + 2)))]) hM1 hw1 rfl hy1 (by omega) (by decide) rfl h1 e1 ho1 (on_ta h 11 rfl) (by omega) (by omega) ?_
  refine lw_al2 (on_ta h 12 rfl) ?_
  refine lw_arg 1 1 rfl (by omega) (on_ta h 13 rfl) (on_ta h 14 rfl) (on_ta h 15 rfl) (on_ta h 16 rfl) (on_ta h 17 rfl) ?_
  refine lw_arg 2 2 rfl (by omega) (on_ta h 18 rfl) (on_ta h 19 rfl) (on_ta h 20 rfl) (on_ta h 21 rfl) (on_ta h 22 rfl) ?_
  refine lw_call (c2 := 77) (ci := 12) (As := [.int (on_i (lw_a xs (i + 1))), .int (on_i (lw_a xs (i + 2)))]) hM2 hw2 rfl hy2 (by omega) (by decide) rfl (h2 _) e2 (ho2 _) (on_ta h 23 rfl) (by omega) (by omega) ?_
  refine lw_same (on_ta h 24 rfl) ht ?_
  exact lw_wide (by omega) (by omega) (k n σ2 (Nat.le_refl _) hI)
def lw_t3 (pc idx1 idx2 : Nat) (off : Int) : List (Nat × Nat × Nat × Instr) := [(pc, 1, pc + 1, .aload_n 1), (pc + 1, 1, pc + 2, .aload_n 0), (pc + 2, 1, pc + 3, .iload_n 3), (pc + 3, 1, pc + 4, .iconst 1), (pc + 4, 1, pc + 5, .iadd), (pc + 5, 1, pc + 6, .iaload), (pc + 6, 1, pc + 7, .aload_n 0), (pc + 7, 1, pc + 8, .iload_n 3), (pc + 8, 1, pc + 9, .iconst 2), (pc + 9, 1, pc + 10, .iadd), (pc + 10, 1, pc + 11, .iaload), (pc + 11, 1, pc + 12, .aload_n 0), (pc + 12, 1, pc + 13, .iload_n 3), (pc + 13, 1, pc + 14, .iconst 3), (pc + 14, 1, pc + 15, .iadd), (pc + 15, 1, pc + 16, .iaload), (pc + 16, 3, pc + 19, .invokevirtual idx1), (pc + 19, 1, pc + 20, .aload_n 2), (pc + 20, 1, pc + 21, .aload_n 0), (pc + 21, 1, pc + 22, .iload_n 3), (pc + 22, 1, pc + 23, .iconst 1), (pc + 23, 1, pc + 24, .iadd), (pc + 24, 1, pc + 25, .iaload), (pc + 25, 1, pc + 26, .aload_n 0), (pc + 26, 1, pc + 27, .iload_n 3), (pc + 27, 1, pc + 28, .iconst 2), (pc + 28, 1, pc + 29, .iadd), (pc + 29, 1, pc + 30, .iaload), (pc + 30, 1, pc + 31, .aload_n 0), (pc + 31, 1, pc + 32, .iload_n 3), (pc + 32, 1, pc + 33, .iconst 3), (pc + 33, 1, pc + 34, .iadd), (pc + 34, 1, pc + 35, .iaload), (pc + 35, 3, pc + 38, .invokevirtual idx2), (pc + 38, 3, pc + 41, .if_icmp .eq off)]
set_option maxRecDepth 20000 in
theorem lw_o3 {idx1 idx2 f1 l1 n1 f2 l2 n2 : Nat} {off : Int} {y1 y2 : MethodName} {cy1 cy2 : ByteArray} {f g : on_S → Option on_O} (hi : i + 6 ≤ L) (hN : 100 ≤ n) (hcl : cl + 25 ≤ 600000) (hsl : sl + 616 ≤ 7302250) (h : on_tab code (lw_t3 pc idx1 idx2 off) = true) (ht : ((pc + 38 : Nat) : Int) + off = (2289 : Nat)) (hM1 : on_Mv y1 cy1 n1 (some .int) 3) (hw1 : Cond.methodLink R_law idx1 y1 ∈ on_T) (hy1 : RX11 = y1.cls) (ho1 : on_ok f1 n1 l1 15 564 [] = true) (hM2 : on_Mv y2 cy2 n2 (some .int) 3) (hw2 : Cond.methodLink R_law idx2 y2 ∈ on_T) (hy2 : RX12 = y2.cls) (ho2 : ∀ v : Int32, on_ok f2 n2 l2 15 564 [.int v] = true) (h1 : on_Sp E y1 cy1 n1 (some .int) f1 l1 z n (.ref (z + 0) :: [.int (on_i (lw_a xs (i + 1))), .int (on_i (lw_a xs (i + 2))), .int (on_i (lw_a xs (i + 3)))]) σ (f σ)) (h2 : ∀ σ1 : on_S, on_Sp E y2 cy2 n2 (some .int) f2 l2 z n (.ref (z + 77) :: [.int (on_i (lw_a xs (i + 1))), .int (on_i (lw_a xs (i + 2))), .int (on_i (lw_a xs (i + 3)))]) σ1 (g σ1)) (hop : bOp n σ f g) (k : lw_K Y E z L xs i cl sl n) : lw_J Y E z L xs i cl sl n σ pc [] := by
  obtain ⟨r, σ1, σ2, e1, e2, hR, hI⟩ := hop
  unfold lw_t3 at h
  refine lw_al1 (on_ta h 0 rfl) ?_
  refine lw_arg 1 1 rfl (by omega) (on_ta h 1 rfl) (on_ta h 2 rfl) (on_ta h 3 rfl) (on_ta h 4 rfl) (on_ta h 5 rfl) ?_
  refine lw_arg 2 2 rfl (by omega) (on_ta h 6 rfl) (on_ta h 7 rfl) (on_ta h 8 rfl) (on_ta h 9 rfl) (on_ta h 10 rfl) ?_
  refine lw_arg 3 3 rfl (by omega) (on_ta h 11 rfl) (on_ta h 12 rfl) (on_ta h 13 rfl) (on_ta h 14 rfl) (on_ta h 15 rfl) ?_
  refine lw_call (c2 := 0) (ci := 11) (As := [.int (on_i (lw_a xs (i + 1))), .int (on_i (lw_a xs (i + 2))), .int (on_i (lw_a xs (i + 3)))]) hM1 hw1 rfl hy1 (by omega) (by decide) rfl h1 e1 ho1 (on_ta h 16 rfl) (by omega) (by omega) ?_
  refine lw_al2 (on_ta h 17 rfl) ?_
  refine lw_arg 1 1 rfl (by omega) (on_ta h 18 rfl) (on_ta h 19 rfl) (on_ta h 20 rfl) (on_ta h 21 rfl) (on_ta h 22 rfl) ?_
  refine lw_arg 2 2 rfl (by omega) (on_ta h 23 rfl) (on_ta h 24 rfl) (on_ta h 25 rfl) (on_ta h 26 rfl) (on_ta h 27 rfl) ?_
  refine lw_arg 3 3 rfl (by omega) (on_ta h 28 rfl) (on_ta h 29 rfl) (on_ta h 30 rfl) (on_ta h 31 rfl) (on_ta h 32 rfl) ?_
  refine lw_call (c2 := 77) (ci := 12) (As := [.int (on_i (lw_a xs (i + 1))), .int (on_i (lw_a xs (i + 2))), .int (on_i (lw_a xs (i + 3)))]) hM2 hw2 rfl hy2 (by omega) (by decide) rfl (h2 _) e2 (ho2 _) (on_ta h 33 rfl) (by omega) (by omega) ?_
  refine lw_same (on_ta h 34 rfl) ht ?_
  exact lw_wide (by omega) (by omega) (k n σ2 (Nat.le_refl _) hI)
def lw_t5 (pc idx1 idx2 : Nat) (off : Int) : List (Nat × Nat × Nat × Instr) := [(pc, 1, pc + 1, .aload_n 1), (pc + 1, 1, pc + 2, .aload_n 0), (pc + 2, 1, pc + 3, .iload_n 3), (pc + 3, 1, pc + 4, .iconst 1), (pc + 4, 1, pc + 5, .iadd), (pc + 5, 1, pc + 6, .iaload), (pc + 6, 1, pc + 7, .aload_n 0), (pc + 7, 1, pc + 8, .iload_n 3), (pc + 8, 1, pc + 9, .iconst 2), (pc + 9, 1, pc + 10, .iadd), (pc + 10, 1, pc + 11, .iaload), (pc + 11, 1, pc + 12, .aload_n 0), (pc + 12, 1, pc + 13, .iload_n 3), (pc + 13, 1, pc + 14, .iconst 3), (pc + 14, 1, pc + 15, .iadd), (pc + 15, 1, pc + 16, .iaload), (pc + 16, 1, pc + 17, .aload_n 0), (pc + 17, 1, pc + 18, .iload_n 3), (pc + 18, 1, pc + 19, .iconst 4), (pc + 19, 1, pc + 20, .iadd), (pc + 20, 1, pc + 21, .iaload), (pc + 21, 1, pc + 22, .aload_n 0), (pc + 22, 1, pc + 23, .iload_n 3), (pc + 23, 1, pc + 24, .iconst 5), (pc + 24, 1, pc + 25, .iadd), (pc + 25, 1, pc + 26, .iaload), (pc + 26, 3, pc + 29, .invokevirtual idx1), (pc + 29, 1, pc + 30, .aload_n 2), (pc + 30, 1, pc + 31, .aload_n 0), (pc + 31, 1, pc + 32, .iload_n 3), (pc + 32, 1, pc + 33, .iconst 1), (pc + 33, 1, pc + 34, .iadd), (pc + 34, 1, pc + 35, .iaload), (pc + 35, 1, pc + 36, .aload_n 0), (pc + 36, 1, pc + 37, .iload_n 3), (pc + 37, 1, pc + 38, .iconst 2), (pc + 38, 1, pc + 39, .iadd), (pc + 39, 1, pc + 40, .iaload), (pc + 40, 1, pc + 41, .aload_n 0), (pc + 41, 1, pc + 42, .iload_n 3), (pc + 42, 1, pc + 43, .iconst 3), (pc + 43, 1, pc + 44, .iadd), (pc + 44, 1, pc + 45, .iaload), (pc + 45, 1, pc + 46, .aload_n 0), (pc + 46, 1, pc + 47, .iload_n 3), (pc + 47, 1, pc + 48, .iconst 4), (pc + 48, 1, pc + 49, .iadd), (pc + 49, 1, pc + 50, .iaload), (pc + 50, 1, pc + 51, .aload_n 0), (pc + 51, 1, pc + 52, .iload_n 3), (pc + 52, 1, pc + 53, .iconst 5), (pc + 53, 1, pc + 54, .iadd), (pc + 54, 1, pc + 55, .iaload), (pc + 55, 3, pc + 58, .invokevirtual idx2), (pc + 58, 3, pc + 61, .if_icmp .eq off)]
set_option maxRecDepth 20000 in
theorem lw_o5 {idx1 idx2 f1 l1 n1 f2 l2 n2 : Nat} {off : Int} {y1 y2 : MethodName} {cy1 cy2 : ByteArray} {f g : on_S → Option on_O} (hi : i + 6 ≤ L) (hN : 100 ≤ n) (hcl : cl + 25 ≤ 600000) (hsl : sl + 616 ≤ 7302250) (h : on_tab code (lw_t5 pc idx1 idx2 off) = true) (ht : ((pc + 58 : Nat) : Int) + off = (2289 : Nat)) (hM1 : on_Mv y1 cy1 n1 (some .int) 5) (hw1 : Cond.methodLink R_law idx1 y1 ∈ on_T) (hy1 : RX11 = y1.cls) (ho1 : on_ok f1 n1 l1 15 564 [] = true) (hM2 : on_Mv y2 cy2 n2 (some .int) 5) (hw2 : Cond.methodLink R_law idx2 y2 ∈ on_T) (hy2 : RX12 = y2.cls) (ho2 : ∀ v : Int32, on_ok f2 n2 l2 15 564 [.int v] = true) (h1 : on_Sp E y1 cy1 n1 (some .int) f1 l1 z n (.ref (z + 0) :: [.int (on_i (lw_a xs (i + 1))), .int (on_i (lw_a xs (i + 2))), .int (on_i (lw_a xs (i + 3))), .int (on_i (lw_a xs (i + 4))), .int (on_i (lw_a xs (i + 5)))]) σ (f σ)) (h2 : ∀ σ1 : on_S, on_Sp E y2 cy2 n2 (some .int) f2 l2 z n (.ref (z + 77) :: [.int (on_i (lw_a xs (i + 1))), .int (on_i (lw_a xs (i + 2))), .int (on_i (lw_a xs (i + 3))), .int (on_i (lw_a xs (i + 4))), .int (on_i (lw_a xs (i + 5)))]) σ1 (g σ1)) (hop : bOp n σ f g) (k : lw_K Y E z L xs i cl sl n) : lw_J Y E z L xs i cl sl n σ pc [] := by
  obtain ⟨r, σ1, σ2, e1, e2, hR, hI⟩ := hop
  unfold lw_t5 at h
  refine lw_al1 (on_ta h 0 rfl) ?_
  refine lw_arg 1 1 rfl (by omega) (on_ta h 1 rfl) (on_ta h 2 rfl) (on_ta h 3 rfl) (on_ta h 4 rfl) (on_ta h 5 rfl) ?_
  refine lw_arg 2 2 rfl (by omega) (on_ta h 6 rfl) (on_ta h 7 rfl) (on_ta h 8 rfl) (on_ta h 9 rfl) (on_ta h 10 rfl) ?_
  refine lw_arg 3 3 rfl (by omega) (on_ta h 11 rfl) (on_ta h 12 rfl) (on_ta h 13 rfl) (on_ta h 14 rfl) (on_ta h 15 rfl) ?_
  refine lw_arg 4 4 rfl (by omega) (on_ta h 16 rfl) (on_ta h 17 rfl) (on_ta h 18 rfl) (on_ta h 19 rfl) (on_ta h 20 rfl) ?_
  refine lw_arg 5 5 rfl (by omega) (on_ta h 21 rfl) (on_ta h 22 rfl) (on_ta h 23 rfl) (on_ta h 24 rfl) (on_ta h 25 rfl) ?_
  refine lw_call (c2 := 0) (ci := 11) (As := [.int (on_i (lw_a xs (i + 1))), .int (on_i (lw_a xs (i + 2))), .int (on_i (lw_a xs (i + 3))), .int (on_i (lw_a xs (i + 4))), .int (on_i (lw_a xs (i + 5)))]) hM1 hw1 rfl hy1 (by omega) (by decide) rfl h1 e1 ho1 (on_ta h 26 rfl) (by omega) (by omega) ?_
  refine lw_al2 (on_ta h 27 rfl) ?_
  refine lw_arg 1 1 rfl (by omega) (on_ta h 28 rfl) (on_ta h 29 rfl) (on_ta h 30 rfl) (on_ta h 31 rfl) (on_ta h 32 rfl) ?_
  refine lw_arg 2 2 rfl (by omega) (on_ta h 33 rfl) (on_ta h 34 rfl) (on_ta h 35 rfl) (on_ta h 36 rfl) (on_ta h 37 rfl) ?_
  refine lw_arg 3 3 rfl (by omega) (on_ta h 38 rfl) (on_ta h 39 rfl) (on_ta h 40 rfl) (on_ta h 41 rfl) (on_ta h 42 rfl) ?_
  refine lw_arg 4 4 rfl (by omega) (on_ta h 43 rfl) (on_ta h 44 rfl) (on_ta h 45 rfl) (on_ta h 46 rfl) (on_ta h 47 rfl) ?_
  refine lw_arg 5 5 rfl (by omega) (on_ta h 48 rfl) (on_ta h 49 rfl) (on_ta h 50 rfl) (on_ta h 51 rfl) (on_ta h 52 rfl) ?_
  refine lw_call (c2 := 77) (ci := 12) (As := [.int (on_i (lw_a xs (i + 1))), .int (on_i (lw_a xs (i + 2))), .int (on_i (lw_a xs (i + 3))), .int (on_i (lw_a xs (i + 4))), .int (on_i (lw_a xs (i + 5)))]) hM2 hw2 rfl hy2 (by omega) (by decide) rfl (h2 _) e2 (ho2 _) (on_ta h 53 rfl) (by omega) (by omega) ?_
  refine lw_same (on_ta h 54 rfl) ht ?_
  exact lw_wide (by omega) (by omega) (k n σ2 (Nat.le_refl _) hI)
end LWJ
