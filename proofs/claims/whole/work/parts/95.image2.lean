/-! an image made: a new street -/
theorem on_Lent {av : List Value} {ny : Nat} (lv : List (Option Value)) (hlv : lv = on_ent av ++ List.replicate (ny - (on_ent av).length) none) (hle : lv.length = ny) : on_L (lg_sl av ++ List.replicate (ny - (lg_sl av).length) Slot.unset).toArray ny lv := by
  have hle2 : (lg_sl av).length ≤ ny := by
    rw [← on_ent_len, ← hle, hlv]
    simp
  have hl := lv_entry av (n := ny) hle2
  refine ⟨hl.1, hl.2.1, hle, fun k v hk => ?_⟩
  rw [hlv] at hk
  have hk2 : (on_ent av)[k]? = some (some v) := by
    rw [List.getElem?_append] at hk
    split at hk
    · exact hk
    · simp [List.getElem?_replicate] at hk
  have := on_ent_mem av 0 k v hk2
  exact hl.2.2 (k, v) (by simpa using this)
theorem on_new_up {z n : Nat} {σ : on_S} {k : Int} (hn : 0 < n) (h0 : 0 ≤ k) : on_rr z (on_st σ 53 k n 53) = va_up (on_rr z (σ 53)) k.toNat (some (z + n)) := by
  funext j
  unfold on_rr va_up on_st
  by_cases h : j = k.toNat
  · have e : (j : Int) = k := by omega
    rw [if_pos h]
    simp only [e, and_self, if_true, true_and]
    rw [if_neg (by omega)]
    rfl
  · have e : (j : Int) ≠ k := by omega
    rw [if_neg h]
    simp only [e, and_false, if_false]
set_option maxRecDepth 100000 in
set_option maxHeartbeats 4000000 in
theorem ct_X11_image0 {E : on_E} {z n : Nat} {p0 : Int} (hN : 100 ≤ n) {σ : on_S} {q : on_O} (h0 : 0 ≤ p0) (h3' : p0 < 3) (hz : σ 53 p0 = 0) (hb : on_Sb (n + 25) n) (hq : pf_X9_copyFrom n 2 (on_new n p0 σ) = some q) : Met E.1 yX11_image (.code yX11_image cX11_image 3 (some .int) :: on_T) { frames := 3, cells := 25, slots := 616, locals := 68 } (va_Pc [.ref (z + 0), .int (on_i p0)] (on_U E z n σ)) (on_Qc E (some .int) z (n + 25) (0, q.2)) 25 616 (fun a => z ≤ a) := by
  refine Met.ofW (cc := cX11_image) (maxL := 3) (ret := some .int) (by decide) rfl ?_
  intro p e s m args below meth c s₁ B hml hv
  obtain ⟨rfl, hP, cK, cE⟩ := hv
  have hts := atoms_spec (ws := .code yX11_image cX11_image 3 (some .int) :: on_T) B.pre
  have ct : ∀ w ∈ on_T, w.before [Value.ref (z + 0), Value.int (on_i p0)].toArray s = true := fun w hw => hts w (List.mem_cons_of_mem _ hw)
  rw [lg_entry_eq]
  have hl := on_Lent (av := [.ref (z + 0), .int (on_i p0)]) (ny := 3) [some (.ref (z + 0)), some (.int (on_i p0)), none] rfl rfl
  generalize (lg_sl [Value.ref (z + 0), .int (on_i p0)] ++ List.replicate (3 - (lg_sl [Value.ref (z + 0), .int (on_i p0)]).length) Slot.unset).toArray = ls at hl ⊢
  have cx := B.exec
  have cb := B.bytes
  have cm := hml
  have co := findClass_of_methodNamed B.named
  have ck := B.notSynchronized
  have cr := B.returns
  have cz := hP.1
  have hS : va_S (fun a => z ≤ a) s.heap s.heap [] := va_S.rf
  have r0 : on_R p0 := by unfold on_R; omega
  have e0 : (0 : Int32) = on_i 0 := rfl
  have ei : (on_i p0).toNatClampNeg = p0.toNat := by
    have := on_i_nat h0 (show p0 < 2147483648 by omega)
    omega
  refine lv_iload_n cx cb (tk_X11_image 0 rfl).1 rfl (on_L_get hl 1 rfl) ?_
  refine lv_if_lt cx cb (tk_X11_image 1 rfl).1 (tgt := 9) (by decide) (fun h => absurd ((on_i_lt r0 (show on_R 0 by unfold on_R; omega)).mp (show on_i p0 < on_i 0 from h)) (by omega)) (fun _ => ?_)
  refine lv_iload_n cx cb (tk_X11_image 2 rfl).1 rfl (on_L_get hl 1 rfl) ?_
  refine lv_iconst cx cb (tk_X11_image 3 rfl).1 rfl ?_
  refine lv_icmp_lt cx cb (tk_X11_image 4 rfl).1 (tgt := 12) (by decide) (fun _ => ?_) (fun h => absurd ((on_i_lt r0 (show on_R 3 by unfold on_R; omega)).mpr h3') h)
  refine lv_aload_n cx cb (tk_X11_image 7 rfl).1 rfl (on_L_get hl 0 rfl) ?_
  refine va_get (ref := (TX11 5).1) cx cb ct on_in11 co cK hP.2 0 ((on_ws_at E z σ (ltc_0 hN)).trans (by rw [on_ce0 sh_0])) (show vwCl[11]? = some (RX11, TX11, 12) from rfl) 5 (by decide) (ct _ kw_2_184) (fun _ h => h) rfl (tk_X11_image 8 rfl).1 ?_
  refine lv_iload_n cx cb (tk_X11_image 9 rfl).1 rfl (on_L_get hl 1 rfl) ?_
  refine va_aldq cx cb cK hP.2 53 4 ((on_ws_at E z σ (ltc_53 hN)).trans (by rw [on_ce5 sh_53])) rfl (on_i_in h0 h3' (by decide)) (tk_X11_image 10 rfl).1 ?_
  rw [ei, on_rr_at h0, if_pos hz]
  refine lv_astore_nN cx cb (tk_X11_image 11 rfl).1 rfl (on_L_has hl) (by decide) rfl (fun ls2 h2 => ?_)
  have hl2 : on_L ls2 3 [some (.ref (z + 0)), some (.int (on_i p0)), some .null] := on_L_st1 hl (i := 2) (v := .null) (by decide) (on_c1_ho (i := 1) rfl rfl) h2
  refine lv_aload_nN cx cb (tk_X11_image 12 rfl).1 rfl (on_L_get hl2 2 rfl) ?_
  refine lv_ifnonnullN cx cb (tk_X11_image 13 rfl).1 ?_
  have hKn := cK.1 9 _ (show vwCl[9]? = some (RX9, TX9, 16) from rfl)
  refine W.newcK cx cb co (ct _ kw_1_30) (ct _ kw_1_31) (ct _ kw_1_2) rfl (tk_X11_image 14 rfl).1 (by decide) (by decide) hKn.2.1 rfl fun H1 kC hkC e1 z1 o1 => ?_
  have hP1 : va_P E.2.1 vwCl (on_ws E z n σ) H1 := hP.2.kept (fun k x hx => o1 x.1 ((hP.2 k x hx).lt))
  have hJ0 : on_Rj E z n [] s.heap := ⟨cz, fun k x hx => by cases hx⟩
  have hJ1 : on_Rj E z n [.inr (9, dfX9)] H1 := hJ0.grow z1 o1 ⟨_, rfl, (u_born tyX9 ct on_in9 hKn hkC e1 tyX9_ok).to dfX9_ok⟩
  have hS1 : va_S (fun a => z ≤ a) s.heap H1 [] := ⟨by omega, fun x h1 h2 => o1 x h1, fun l h => by cases h⟩
  have ez : s.heap.size = z + n := cz
  rw [ez]
  refine lv_dup cx cb (tk_X11_image 15 rfl).1 rfl ?_
  have cb' : va_CN _ s [Value.ref (z + 0), Value.int (on_i p0)].toArray RX11 15 yX9_init "OppositeNets" cX9_init 1 none (.code yX9_init cX9_init 1 none :: on_T) { frames := 2, cells := 24, slots := 600, locals := 32 } 24 600 0 := va_cnB (R := { frames := 3, cells := 25, slots := 616, locals := 68 }) 0 ct (on_goodT kw_1_34) rfl rfl rfl (cE.2.2.2.1 ("OppositeNets", 15, ⟨"OppositeNets$Street", "<init>", "()V"⟩) (by decide)) (ct _ kw_1_2) ⟨by decide, by decide, rfl⟩ ⟨by decide, by decide⟩
  refine on_runI (va_runIN (As := []) (rest := [.ref (z + n)]) ⟨cx, cb, cm, co, ct⟩ (cn_X9 (E := E) (z := z) (o := n)) ⟨cb', rfl, ct _ kw_1_33⟩ ⟨oj_blind, ?_⟩ rfl rfl hl2.1 rfl (lv_room (Nat.le_of_ble_eq_true rfl)) (tk_X11_image 16 rfl).1 ⟨by decide, by decide⟩) hP1 hS1 ?_
  · intro U hU hW
    exact ⟨rfl, by rw [hU]; exact hJ1, va_K.moved hW.alike cK, cE.warm hW (fun q h1 h2 => by rw [hU]; exact hS1.2.1 q h1 (fun h => h2 (by exact h)))⟩
  intro H2 locs2 hP2 hJ2 hS2
  have hR2 := on_join hb hP2 hJ2
  generalize hσ : on_zr n σ = τ at hR2
  have hN2 : 100 ≤ n + 25 := by omega
  refine lv_astore_n cx cb (tk_X11_image 17 rfl).1 rfl (on_L_has hl2) (by decide) rfl (fun ls3 h3 => ?_)
  have hl3 : on_L ls3 3 [some (.ref (z + 0)), some (.int (on_i p0)), some (.ref (z + n))] := on_L_st1 hl2 (i := 2) (v := .ref (z + n)) (by decide) (on_c1_ho (i := 1) rfl rfl) h3
  refine lv_aload_n cx cb (tk_X11_image 18 rfl).1 rfl (on_L_get hl3 0 rfl) ?_
  refine va_get (ref := (TX11 5).1) cx cb ct on_in11 co cK hR2.2 0 ((on_ws_at E z τ (ltc_0 hN2)).trans (by rw [on_ce0 sh_0])) (show vwCl[11]? = some (RX11, TX11, 12) from rfl) 5 (by decide) (ct _ kw_2_184) (fun _ h => h) rfl (tk_X11_image 19 rfl).1 ?_
  refine lv_iload_n cx cb (tk_X11_image 20 rfl).1 rfl (on_L_get hl3 1 rfl) ?_
  refine lv_aload_n cx cb (tk_X11_image 21 rfl).1 rfl (on_L_get hl3 2 rfl) ?_
  have hsn : on_sh n = (0, 9) := (on_shb hb 0 (by decide)).trans rfl
  refine va_astq cx cb cK hR2.2 (on_ws_D E z (n + 25) τ) hS2 53 4 n 9 ((on_ws_at E z τ (ltc_53 hN2)).trans (by rw [on_ce5 sh_53])) rfl ((on_ws_at E z τ (show n < n + 25 by omega)).trans (by rw [on_ce0 hsn])) (show vwCl[9]? = some (RX9, TX9, 16) from rfl) (on_i_in h0 h3' (by decide)) (tk_X11_image 22 rfl).1 (fun H3 locs3 g1 _ g3 => ?_)
  have e53 : on_ce E z 53 (on_st τ 53 p0 n 53) = .inl (on_ca E 4, 3, .inr (.inr (.inr (.inr (va_up (on_rr z (τ 53)) (on_i p0).toNatClampNeg (some (z + n))))))) := by
    rw [on_ce5 sh_53, on_new_up (by omega) h0, ei]
  rw [← e53, on_ws_set E z τ _ (ltc_53 hN2), on_sr_st] at g1
  have hq2 : on_new n p0 σ = on_st τ 53 p0 n := by rw [← hσ]; rfl
  rw [hq2] at hq
  generalize on_st τ 53 p0 n = υ at g1 hq
  refine oj_size cz ?_ (fun hsz => ?_)
  · have h9 := (g1 (n + 24) _ (on_ws_at E z υ (show n + 24 < n + 25 by omega))).lt
    simp only at h9
    omega
  have hR3 : on_Rep E z (n + 25) υ H3 := ⟨by rw [hsz]; omega, g1⟩
  refine lv_aload_n cx cb (tk_X11_image 23 rfl).1 rfl (on_L_get hl3 2 rfl) ?_
  refine lv_aload_n cx cb (tk_X11_image 24 rfl).1 rfl (on_L_get hl3 0 rfl) ?_
  refine va_get (ref := (TX11 2).1) cx cb ct on_in11 co cK hR3.2 0 ((on_ws_at E z υ (ltc_0 hN2)).trans (by rw [on_ce0 sh_0])) (show vwCl[11]? = some (RX11, TX11, 12) from rfl) 2 (by decide) (ct _ kw_2_181) (fun _ h => h) rfl (tk_X11_image 25 rfl).1 ?_
  obtain ⟨m1, m2, m3, m4, m5, m6, m7⟩ := ms_X9_copyFrom
  have cb2 : CallB _ s [Value.ref (z + 0), Value.int (on_i p0)].toArray RX11 96 yX9_copyFrom cX9_copyFrom 2 none (.code yX9_copyFrom cX9_copyFrom 2 none :: on_T) { frames := 2, cells := 0, slots := 0, locals := 47 } 0 0 1 := callB_of (R := { frames := 3, cells := 25, slots := 616, locals := 68 }) 1 ct (on_goodT m1) rfl rfl rfl (ct _ m4) (ct _ kw_3_185) ⟨m5, m6, m7⟩ ⟨by decide, by decide⟩
  refine on_runQg (q := q) (va_runV (As := [.ref (z + 2)]) (rest := []) (C := yX9_copyFrom.cls) ⟨cx, cb, cm, co, ct⟩ (ct_X9_copyFrom (E := E) (z := z) (n := n + 25) hN2 hb (on_Sb2 hN2) q hq) ⟨cb2, ct _ m2, ct _ m3⟩ ⟨on_U_blind, ?_, ?_⟩ rfl rfl hl3.1 rfl (lv_room (Nat.le_of_ble_eq_true rfl)) (tk_X11_image 26 rfl).1 ⟨by decide, by decide⟩) g3 ?_
  · exact va_recv (ci := 9) cK hR3.2 (show vwCl[9]? = some (RX9, TX9, 16) from rfl) ((on_ws_at E z υ (show n < n + 25 by omega)).trans (by rw [on_ce0 hsn]))
  · intro U hU hW
    exact ⟨rfl, by rw [hU]; exact hR3, va_K.moved hW.alike cK, cE.warm hW (fun q h1 h2 => by rw [hU]; exact g3.2.1 q h1 h2)⟩
  intro H4 locs4 hR4 hS4
  refine lv_iconst cx cb (tk_X11_image 27 rfl).1 rfl ?_
  exact W.widen (by decide) (by decide) (W.iret (v := on_i 0) cx cb cr (fun t ht hW => ⟨rfl, by rw [ht]; exact hR4, hS4.F ht⟩) hS4.2.2 (tk_X11_image 28 rfl).1 ck)
