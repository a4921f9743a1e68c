/-! an image made -/
def tb_X11_image : List (Nat × Nat × Nat × Instr) := [(0, 1, 1, .iload_n 1), (1, 3, 4, .ifCond .lt 8), (4, 1, 5, .iload_n 1), (5, 1, 6, .iconst 3), (6, 3, 9, .if_icmp .lt 6), (9, 2, 11, .bipush (-2)), (11, 1, 12, .ireturn), (12, 1, 13, .aload_n 0), (13, 3, 16, .getfield 32), (16, 1, 17, .iload_n 1), (17, 1, 18, .aaload), (18, 1, 19, .astore_n 2), (19, 1, 20, .aload_n 2), (20, 3, 23, .ifnonnull 18), (23, 3, 26, .new 13), (26, 1, 27, .dup), (27, 3, 30, .invokespecial 15), (30, 1, 31, .astore_n 2), (31, 1, 32, .aload_n 0), (32, 3, 35, .getfield 32), (35, 1, 36, .iload_n 1), (36, 1, 37, .aload_n 2), (37, 1, 38, .aastore), (38, 1, 39, .aload_n 2), (39, 1, 40, .aload_n 0), (40, 3, 43, .getfield 16), (43, 3, 46, .invokevirtual 96), (46, 1, 47, .iconst 0), (47, 1, 48, .ireturn)]
set_option maxRecDepth 100000 in
theorem tk_X11_image (k : Nat) {pc n pc2 : Nat} {i : Instr} (hk : tb_X11_image[k]? = some (pc, n, pc2, i)) : on_dq cX11_image pc n pc2 i := on_ta (by decide +kernel) k hk
/-- a new street's cells behind n, all zero -/
def on_zr (n : Nat) (σ : on_S) : on_S := fun c i => if n ≤ c ∧ c < n + 25 then 0 else σ c i
def on_new (n : Nat) (k : Int) (σ : on_S) : on_S := on_st (on_zr n σ) 53 k n
theorem on_zr_lt {n c : Nat} (σ : on_S) (h : c < n) : on_zr n σ c = σ c := by
  funext i
  unfold on_zr
  rw [if_neg (by omega)]
theorem on_zr_in {n j : Nat} (σ : on_S) (h : j < 25) : on_zr n σ (n + j) = fun _ => 0 := by
  funext i
  unfold on_zr
  rw [if_pos (by omega)]
set_option maxRecDepth 20000 in
theorem on_lf9 {E : on_E} {z n m : Nat} (hb : on_Sb m n) : ∀ j : Nat, j < 25 → (lfX9 E z n)[j]? = some (on_ce E z (n + j) (fun _ => 0)) := by
  intro j hj
  have hs := on_shb hb j hj
  have h : j = 0 ∨ j = 1 ∨ j = 2 ∨ j = 3 ∨ j = 4 ∨ j = 5 ∨ j = 6 ∨ j = 7 ∨ j = 8 ∨ j = 9 ∨ j = 10 ∨ j = 11 ∨ j = 12 ∨ j = 13 ∨ j = 14 ∨ j = 15 ∨ j = 16 ∨ j = 17 ∨ j = 18 ∨ j = 19 ∨ j = 20 ∨ j = 21 ∨ j = 22 ∨ j = 23 ∨ j = 24 := by omega
  unfold on_ce
  rw [hs]
  rcases h with h | h | h | h | h | h | h | h | h | h | h | h | h | h | h | h | h | h | h | h | h | h | h | h | h <;> subst h <;> rfl
theorem on_join {E : on_E} {z n : Nat} {σ : on_S} {H : Heap} (hb : on_Sb (n + 25) n) (h1 : va_P E.2.1 vwCl (on_ws E z n σ) H) (h2 : on_Rj E z n (lfX9 E z n) H) : on_Rep E z (n + 25) (on_zr n σ) H := by
  refine ⟨by rw [h2.1]; rfl, ?_⟩
  have e : on_ws E z (n + 25) (on_zr n σ) = on_ws E z n σ ++ on_wl z n (lfX9 E z n) := by
    apply List.ext_getElem?
    intro k
    have hl : (on_ws E z n σ).length = n := by simp [on_ws]
    have hl2 : (lfX9 E z n).length = 25 := rfl
    by_cases hk : k < n
    · rw [List.getElem?_append_left (by rw [hl]; exact hk), on_ws_at E z _ (show k < n + 25 by omega), on_ws_at E z _ hk, on_zr_lt σ hk]
    · rw [List.getElem?_append_right (by rw [hl]; omega), hl]
      by_cases hk2 : k < n + 25
      · have ek : k = n + (k - n) := by omega
        rw [on_ws_at E z _ hk2, on_wl_at z _ n (k - n) _ (on_lf9 (E := E) (z := z) hb (k - n) (by omega)), ← ek]
        have := on_zr_in (n := n) σ (show k - n < 25 by omega)
        rw [← ek] at this
        rw [this]
      · rw [List.getElem?_eq_none (by simp [on_ws]; omega), List.getElem?_eq_none (by rw [on_wl_len, hl2]; omega)]
  rw [e]
  exact h1.app h2.2
theorem on_runI {E : on_E} {z n : Nat} {σ : on_S} {p : Program} {l : Launch} {e : Env} {R : Room} {s : State} {m : MethodId} {args : Array Value} {below : List Frame} {meth : Method} {c : Code} {H : Heap} {locs : List Loc} {Q : State → Prop} {ls : Array Slot} {st0 rest : List Value} {pc : Nat} {a : Array Value} {cl sl mc2 ms2 : Nat} {Lc : List va_E} (hr : va_Run p l e R s m args below meth c H locs cl sl mc2 ms2 (F0 m pc ls st0) rest (on_Qn E z n Lc a) (fun q => z + n ≤ q)) (hP : va_P E.2.1 vwCl (on_ws E z n σ) H) (hS : va_S (fun q => z ≤ q) s.heap H locs)
    (kk : ∀ (H1 : Heap) (locs1 : List Loc), va_P E.2.1 vwCl (on_ws E z n σ) H1 → on_Rj E z n Lc H1 → va_S (fun q => z ≤ q) s.heap H1 locs1 → W p l e R s m args below meth c H1 locs1 (cl + mc2) (sl + ms2) Q (F0 m (pc + 3) ls rest)) : W p l e R s m args below meth c H locs cl sl Q (F0 m pc ls st0) := by
  intro T hT X
  obtain ⟨v, st₀, t, T', Lx, h0, X', hL, e1, e2, ⟨hv, hj, hz, hk⟩, st⟩ := hr T hT X
  cases hv
  rw [h0] at hz hk
  have hN : va_P E.2.1 vwCl (on_ws E z n σ) T'.heap := by
    rw [e1]
    refine hP.kept (fun k x hx => ?_)
    have hlt : k < n := by
      have := (List.getElem?_eq_some_iff.mp hx).1
      simpa [on_ws] using this
    have h9 := hP k x hx
    rw [on_ws_at E z σ hlt] at hx
    cases hx
    exact hk _ h9.lt (by show ¬ z + n ≤ z + k; omega)
  obtain ⟨t2, a1, b1⟩ := kk T'.heap (locs ++ Lx) hN (by rw [e1]; exact hj) ⟨Nat.le_trans hS.1 (by rw [e1]; exact hz), fun q h1 h2 => by rw [e1, hk q (Nat.lt_of_lt_of_le h1 hS.1) (fun h => h2 (by show z ≤ q; omega))]; exact hS.2.1 q h1 h2, fun q hq => by
      rcases List.mem_append.mp hq with h | h
      · exact hS.2.2 q h
      · have := hL q h; show z ≤ q.base; omega⟩ T' rfl X'
  exact ⟨t2, st t2 a1, b1⟩
theorem on_runQg {E : on_E} {z n : Nat} {p : Program} {l : Launch} {e : Env} {R : Room} {s : State} {m : MethodId} {args : Array Value} {below : List Frame} {meth : Method} {c : Code} {H : Heap} {locs : List Loc} {Q : State → Prop} {ls : Array Slot} {st0 rest : List Value} {pc cl sl : Nat} {a : Array Value} {r2 : Option FieldType} {q : on_O} (hr : va_Run p l e R s m args below meth c H locs cl sl 0 0 (F0 m pc ls st0) rest (on_Qc E r2 z n q a) (fun q => z ≤ q)) (hS : va_S (fun q => z ≤ q) s.heap H locs)
    (kk : ∀ (H1 : Heap) (locs1 : List Loc), on_Rep E z n q.2 H1 → va_S (fun q => z ≤ q) s.heap H1 locs1 → W p l e R s m args below meth c H1 locs1 cl sl Q (F0 m (pc + 3) ls ((on_rv r2 q.1).toList ++ rest))) : W p l e R s m args below meth c H locs cl sl Q (F0 m pc ls st0) := by
  intro T hT X
  obtain ⟨v, st₀, t, T', L, h0, X', hL, e1, e2, ⟨hv, hp, hz, hk⟩, st⟩ := hr T hT X
  cases hv
  rw [h0] at hz hk
  obtain ⟨t2, a1, b1⟩ := kk T'.heap (locs ++ L) (by rw [e1]; exact hp) ⟨Nat.le_trans hS.1 (by rw [e1]; exact hz), fun q h1 h2 => by rw [e1, hk q (Nat.lt_of_lt_of_le h1 hS.1) h2]; exact hS.2.1 q h1 h2, fun q hq => by
      rcases List.mem_append.mp hq with h | h
      · exact hS.2.2 q h
      · exact hL q h⟩ T' rfl X'
  exact ⟨t2, st t2 a1, b1⟩
/-- an image is kept where one stands already, or the number is none -/
def pf_X11_image (n : Nat) (p0 : Int) (σ : on_S) : Option on_O :=
  on_Lt p0 0 (some ((-2), σ)) (
    on_Lt p0 3 (
      on_Im n σ p0 none fun b =>
        on_Cl (pf_X9_copyFrom b 2 σ) fun _ σ2 => some (0, σ2)) (
      some ((-2), σ)))
set_option maxRecDepth 100000 in
set_option maxHeartbeats 4000000 in
theorem ct_X11_image {E : on_E} {z n : Nat} {p0 : Int} (hN : 100 ≤ n) {σ : on_S} : on_Sp E yX11_image cX11_image 3 (some .int) 3 68 z n [.ref (z + 0), .int (on_i p0)] σ (pf_X11_image n p0 σ) := by
  refine on_met [some (.ref (z + 0)), some (.int (on_i p0)), none] (by decide) rfl rfl (fun X => ?_)
  rw [pf_X11_image]
  refine on_il1 (tk_X11_image 0 rfl) ?_
  refine on_if_lt (tk_X11_image 1 rfl) (tgt := 9) (by decide) ?_ ?_
  · refine on_il1 (tk_X11_image 2 rfl) ?_
    refine on_iconst (tk_X11_image 3 rfl) ?_
    refine on_icmp_lt (tk_X11_image 4 rfl) (tgt := 12) (by decide) ?_ ?_
    · refine on_bipush (tk_X11_image 5 rfl) bp_m2 ?_
      exact on_iret (tk_X11_image 6 rfl)
    · refine on_al0 (tk_X11_image 7 rfl) ?_
      refine fg_11_5 hN kw_2_184 (tk_X11_image 8 rfl) ?_
      refine on_il1 (tk_X11_image 9 rfl) ?_
      refine on_aaS hN rfl (tk_X11_image 10 rfl) (tk_X11_image 11 rfl) (tk_X11_image 12 rfl) (tk_X11_image 13 rfl) (tgt := 38) (by decide) on_none (fun b hb => ?_)
      refine on_al2 (tk_X11_image 23 rfl) ?_
      refine on_al0 (tk_X11_image 24 rfl) ?_
      refine fg_11_2 hN kw_2_181 (tk_X11_image 25 rfl) ?_
      refine on_cV1v 9 ms_X9_copyFrom kw_3_185 rfl rfl (ltS_0 hb) (shS_0 hb) (ct_X9_copyFrom hN hb (on_Sb2 hN)) rfl (tk_X11_image 26 rfl) fun v6 σ7 => ?_
      refine on_iconst (tk_X11_image 27 rfl) ?_
      exact on_iret (tk_X11_image 28 rfl)
  · refine on_bipush (tk_X11_image 5 rfl) bp_m2 ?_
    exact on_iret (tk_X11_image 6 rfl)
