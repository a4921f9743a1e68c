/-! the law: both objects made -/
theorem oj_blindA {E : on_E} {z o : Nat} {e0 : va_E} {av : List Value} : FrameBlind (va_Pc av (fun U => (on_Rj E z o [e0] U.heap ∧ va_K E.2.1 vwCl (on_tys E) U ∧ on_Ex E z U) ∧ va_AO "OppositeNets$Street" U ∧ va_AO "OppositeNets$Slot" U)) := by
  intro a U g mk h
  obtain ⟨h1, ⟨h2, h3, h4⟩, h5, h6⟩ := h
  exact ⟨h1, ⟨h2, va_K.moved (u := U) (U := U.calling g mk a) (Vm.Alike.refl U.vm) h3, on_Ex.same (u := U) rfl rfl h4⟩, va_AO.moved (u := U) (U := U.calling g mk a) (Vm.Alike.refl U.vm) h5, va_AO.moved (u := U) (U := U.calling g mk a) (Vm.Alike.refl U.vm) h6⟩
theorem on_runIg {E : on_E} {z o : Nat} {ws : va_W} {p : Program} {l : Launch} {e : Env} {R : Room} {s : State} {m : MethodId} {args : Array Value} {below : List Frame} {meth : Method} {c : Code} {H : Heap} {locs : List Loc} {Q : State → Prop} {ls : Array Slot} {st0 rest : List Value} {pc : Nat} {a : Array Value} {cl sl mc2 ms2 : Nat} {Lc : List va_E} (hr : va_Run p l e R s m args below meth c H locs cl sl mc2 ms2 (F0 m pc ls st0) rest (on_Qn E z o Lc a) (fun q => z + o ≤ q)) (hP : va_P E.2.1 vwCl ws H) (hw : ∀ (k : Nat) (x : Nat × va_E), ws[k]? = some x → x.1 < z + o) (hS : va_S (fun q => z ≤ q) s.heap H locs)
    (kk : ∀ (H1 : Heap) (locs1 : List Loc), va_P E.2.1 vwCl ws H1 → on_Rj E z o Lc H1 → va_S (fun q => z ≤ q) s.heap H1 locs1 → W p l e R s m args below meth c H1 locs1 (cl + mc2) (sl + ms2) Q (F0 m (pc + 3) ls rest)) : W p l e R s m args below meth c H locs cl sl Q (F0 m pc ls st0) := by
  intro T hT X
  obtain ⟨v, st₀, t, T', Lx, h0, X', hL, e1, e2, ⟨hv, hj, hz, hk⟩, st⟩ := hr T hT X
  cases hv
  rw [h0] at hz hk
  have hN : va_P E.2.1 vwCl ws T'.heap := by
    rw [e1]
    refine hP.kept (fun k x hx => ?_)
    have h8 := hw k x hx
    exact hk _ ((hP k x hx).lt) (by show ¬ z + o ≤ x.1; omega)
  obtain ⟨t2, a1, b1⟩ := kk T'.heap (locs ++ Lx) hN (by rw [e1]; exact hj) ⟨Nat.le_trans hS.1 (by rw [e1]; exact hz), fun q h1 h2 => by rw [e1, hk q (Nat.lt_of_lt_of_le h1 hS.1) (fun h => h2 (by show z ≤ q; omega))]; exact hS.2.1 q h1 h2, fun q hq => by
      rcases List.mem_append.mp hq with h | h
      · exact hS.2.2 q h
      · have := hL q h; show z ≤ q.base; omega⟩ T' rfl X'
  exact ⟨t2, st t2 a1, b1⟩
def lw_tb : List (Nat × Nat × Nat × Instr) := [(0, 3, 3, .new 7), (3, 1, 4, .dup), (4, 3, 7, .invokespecial 9), (7, 1, 8, .astore_n 1), (8, 3, 11, .new 10), (11, 1, 12, .dup), (12, 3, 15, .invokespecial 12), (15, 1, 16, .astore_n 2), (16, 1, 17, .iconst 0), (17, 1, 18, .istore_n 3)]
theorem lw_tbk : on_tab code lw_tb = true := by decide +kernel
set_option maxRecDepth 20000 in
set_option maxHeartbeats 1000000 in
theorem lw_b3 {p : Program} {e : Env} {s : State} {m : MethodId} {below : List Frame} {meth : Method} {c : Code} {b L : Nat} {xs : Nat → Int32} {E : on_E} {z : Nat} (hL : L ≤ 3072) (hC : lw_cx (p, e, s, m, below, meth, c, b) E z L xs) {H4 : Heap} {locs4 : List Loc} {ls : Array Slot} (hR : on_Rep E z 100 on_s0 H4) (hS4 : va_S (fun q => z ≤ q) s.heap H4 locs4) (hl : lv_has ls 4 [(1, .ref (z + 0)), (0, .ref b)]) : W p E.1 e room_1 s m #[Value.ref b] below meth c H4 locs4 100 48876 (lw_Z below #[Value.ref b] s) (F0 m 15 ls [.ref (z + 77)]) := by
  obtain ⟨⟨hx, hb, hr, hml, hown, hts, hX, hbl, hlocks, hgv⟩, hK, hE, -, hz⟩ := id hC
  have h := lw_tbk
  unfold lw_tb at h
  refine lv_astore_n (lv' := [(2, .ref (z + 77)), (1, .ref (z + 0)), (0, .ref b)]) hx hb (on_ta h 7 rfl).1 rfl hl (by decide) rfl (fun ls hl => ?_)
  refine lv_iconst (v := 0) hx hb (on_ta h 8 rfl).1 (by decide) ?_
  refine lv_istore_n (lv' := [(3, .int 0), (2, .ref (z + 77)), (1, .ref (z + 0)), (0, .ref b)]) hx hb (on_ta h 9 rfl).1 rfl hl (by decide) rfl (fun ls hl => ?_)
  have hl9 : lv_has ls 4 (lw_lv z 0 b) := lv_sub hl [3, 2, 1, 0] rfl
  have hJ : lw_J (p, e, s, m, below, meth, c, b) E z L xs 0 100 48876 100 on_s0 18 [] := lw_loop 513 0 100 48876 100 on_s0 (by omega) (by omega) (Nat.le_refl 100) (Nat.le_of_ble_eq_true rfl) (Nat.le_of_ble_eq_true rfl) on_s0_I
  exact hJ hC H4 locs4 ls hR hS4 hl9
set_option maxRecDepth 20000 in
set_option maxHeartbeats 1000000 in
theorem lw_b2 {p : Program} {e : Env} {s : State} {m : MethodId} {below : List Frame} {meth : Method} {c : Code} {b L : Nat} {xs : Nat → Int32} {E : on_E} {z : Nat} (hL : L ≤ 3072) (hC : lw_cx (p, e, s, m, below, meth, c, b) E z L xs) {H2 : Heap} {locs2 : List Loc} {ls : Array Slot} (hJ2 : on_Rj E z 0 (lfX11 E z 0) H2) (hS2 : va_S (fun q => z ≤ q) s.heap H2 locs2) (hl : lv_has ls 4 [(1, .ref (z + 0)), (0, .ref b)]) : W p E.1 e room_1 s m #[Value.ref b] below meth c H2 locs2 77 6442 (lw_Z below #[Value.ref b] s) (F0 m 8 ls []) := by
  obtain ⟨⟨hx, hb, hr, hml, hown, hts, hX, hbl, hlocks, hgv⟩, hK, hE, -, hz⟩ := id hC
  have ct : ∀ w ∈ on_T, w.before #[Value.ref b] s = true := fun w hw => hts w (on_Tin hw)
  have h := lw_tbk
  unfold lw_tb at h
  have hlen : (lfX11 E z 0).length = 77 := by rw [lfA_eq]; rfl
  have hz2 : H2.size = z + 77 := by have := hJ2.1; rw [hlen] at this; exact this
  have hKm := hK.1 12 _ (show vwCl[12]? = some (RX12, TX12, 37) from rfl)
  refine W.newcK hx hb hown (ct _ kw_6_135) (ct _ on_i12) (ct _ kw_1_13) rfl (on_ta h 4 rfl).1 (Nat.le_of_ble_eq_true rfl) (Nat.le_of_ble_eq_true rfl) hKm.2.1 rfl fun H3 kC3 hkC3 e3 z3 o3 => ?_
  have hM0 : on_Rj E z 77 [] H2 := ⟨hz2, fun k x hx => by cases hx⟩
  have hM1 : on_Rj E z 77 [.inr (12, dfX12)] H3 := hM0.grow z3 o3 ⟨_, rfl, (u_born tyX12 ct on_in12 hKm hkC3 e3 tyX12_ok).to dfX12_ok⟩
  have hS3 : va_S (fun q => z ≤ q) s.heap H3 locs2 := ⟨by have := hS2.1; omega, fun x h1 h2 => (o3 x (Nat.lt_of_lt_of_le h1 hS2.1)).trans (hS2.2.1 x h1 h2), hS2.2.2⟩
  have hA3 : va_P E.2.1 vwCl (on_wl z 0 (lfX11 E z 0)) H3 := hJ2.2.kept (fun k x hx => o3 x.1 ((hJ2.2 k x hx).lt))
  rw [hz2]
  refine lv_dup hx hb (on_ta h 5 rfl).1 rfl ?_
  have cb2 : CallB room_1 s #[Value.ref b] R_law 12 yX12_init cX12_init 1 none (.code yX12_init cX12_init 1 none :: on_T) { frames := 1, cells := 22, slots := 42397, locals := 12 } 22 42397 0 := callB_of (R := room_1) 0 ct (on_goodT kw_6_139) rfl rfl rfl (ct _ kw_1_13) (ct _ kw_6_137) ⟨by decide, by decide, rfl⟩ ⟨Nat.le_of_ble_eq_true rfl, Nat.le_of_ble_eq_true rfl⟩
  refine on_runIg (ws := on_wl z 0 (lfX11 E z 0)) (va_runI (As := []) (rest := [.ref (z + 77)]) ⟨hx, hb, hml, hown, ct⟩ (cn_X12 (E := E) (z := z) (o := 77)) ⟨cb2, rfl, ct _ kw_6_138⟩ ⟨oj_blind, ?_⟩ rfl rfl hl.1 rfl (lv_room (Nat.le_of_ble_eq_true rfl)) (on_ta h 6 rfl).1 ⟨Nat.le_of_ble_eq_true rfl, Nat.le_of_ble_eq_true rfl⟩) hA3 (fun k x hx => ?_) hS3 ?_
  · intro U hU hW
    exact ⟨rfl, by rw [hU]; exact hM1, va_K.moved hW.alike hK, hE.warm hW (fun q h1 h2 => by rw [hU]; exact hS3.2.1 q h1 h2)⟩
  · obtain ⟨e9, h9, rfl⟩ := on_wl_inv hx
    have h8 := (List.getElem?_eq_some_iff.mp h9).1
    rw [hlen] at h8
    show z + (0 + k) < z + 77
    omega
  intro H4 locs4 hA4 hM4 hS4
  have hR := on_start hA4 hM4
  exact lw_b3 hL hC hR hS4 hl
set_option maxRecDepth 20000 in
set_option maxHeartbeats 1000000 in
theorem lw_begin {p : Program} {e : Env} {s : State} {m : MethodId} {below : List Frame} {meth : Method} {c : Code} {b L : Nat} {xs : Nat → Int32} {E : on_E} {z : Nat} (hL : L ≤ 3072) (hC : lw_cx (p, e, s, m, below, meth, c, b) E z L xs) : W p E.1 e room_1 s m #[Value.ref b] below meth c s.heap [] 0 0 (lw_Z below #[Value.ref b] s) (entryFrame m ([Value.ref b] : List Value).toArray 4) := by
  obtain ⟨⟨hx, hb, hr, hml, hown, hts, hX, hbl, hlocks, hgv⟩, hK, hE, -, hz⟩ := id hC
  have ct : ∀ w ∈ on_T, w.before #[Value.ref b] s = true := fun w hw => hts w (on_Tin hw)
  have h := lw_tbk
  unfold lw_tb at h
  have a1 : va_AO "OppositeNets$Street" s := va_AO.of (hts _ on_ga1)
  have a2 : va_AO "OppositeNets$Slot" s := va_AO.of (hts _ on_ga2)
  have hl := lv_entry ([.ref b]) (n := 4) (Nat.le_of_ble_eq_true rfl)
  rw [lg_entry_eq]
  generalize (lg_sl ([.ref b]) ++ List.replicate (4 - (lg_sl ([.ref b])).length) Slot.unset).toArray = ls at hl ⊢
  have hl : lv_has ls 4 [(0, .ref b)] := hl
  have hS : va_S (fun q => z ≤ q) s.heap s.heap [] := va_S.rf
  have hKn := hK.1 11 _ (show vwCl[11]? = some (RX11, TX11, 12) from rfl)
  refine W.newcK hx hb hown (ct _ kw_1_22) (ct _ on_i11) (ct _ kw_1_1) rfl (on_ta h 0 rfl).1 (Nat.le_of_ble_eq_true rfl) (Nat.le_of_ble_eq_true rfl) hKn.2.1 rfl fun H1 kC hkC e1 z1 o1 => ?_
  have hJ0 : on_Rj E z 0 [] s.heap := ⟨hz, fun k x hx => by cases hx⟩
  have hJ1 : on_Rj E z 0 [.inr (11, dfX11)] H1 := hJ0.grow z1 o1 ⟨_, rfl, (u_born tyX11 ct on_in11 hKn hkC e1 tyX11_ok).to dfX11_ok⟩
  have hS1 : va_S (fun q => z ≤ q) s.heap H1 [] := ⟨by omega, fun x h1 h2 => o1 x h1, fun l h => by cases h⟩
  rw [hz]
  refine lv_dup hx hb (on_ta h 1 rfl).1 rfl ?_
  have cb1 : CallB room_1 s #[Value.ref b] R_law 9 yX11_init cX11_init 2 none (.code yX11_init cX11_init 2 none :: on_T) { frames := 3, cells := 76, slots := 6430, locals := 52 } 76 6430 0 := callB_of (R := room_1) 0 ct (on_goodT kw_1_26) rfl rfl rfl (ct _ kw_1_1) (ct _ kw_1_24) ⟨by decide, by decide, rfl⟩ ⟨Nat.le_of_ble_eq_true rfl, Nat.le_of_ble_eq_true rfl⟩
  refine on_runIg (ws := []) (va_runI (As := []) (rest := [.ref (z + 0)]) ⟨hx, hb, hml, hown, ct⟩ (cn_X11 (E := E) (z := z) (o := 0)) ⟨cb1, rfl, ct _ kw_1_25⟩ ⟨oj_blindA, ?_⟩ rfl rfl hl.1 rfl (lv_room (Nat.le_of_ble_eq_true rfl)) (on_ta h 2 rfl).1 ⟨Nat.le_of_ble_eq_true rfl, Nat.le_of_ble_eq_true rfl⟩) (fun k x hx => by cases hx) (fun k x hx => by cases hx) hS1 ?_
  · intro U hU hW
    exact ⟨rfl, ⟨by rw [hU]; exact hJ1, va_K.moved hW.alike hK, hE.warm hW (fun q h1 h2 => by rw [hU]; exact hS1.2.1 q h1 h2)⟩, va_AO.moved hW.alike a1, va_AO.moved hW.alike a2⟩
  intro H2 locs2 _ hJ2 hS2
  refine lv_astore_n (lv' := [(1, .ref (z + 0)), (0, .ref b)]) hx hb (on_ta h 3 rfl).1 rfl hl (by decide) rfl (fun ls hl => ?_)
  exact lw_b2 hL hC hJ2 hS2 hl
