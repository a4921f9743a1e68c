/-! B: slots -/
theorem bSh8 : on_shl 8 0 = 8 ∧ on_shl 8 1 = 16 ∧ on_shl 8 2 = 32 ∧ on_shl 8 3 = 64 := by decide
theorem bShl (k : Nat) (hk : 0 < k ∧ k ≤ 64) (x : BitVec 64) : (x <<< (64 - k)).sshiftRight (64 - k) = (x.truncate k).signExtend 64 := by
  apply BitVec.eq_of_getLsbD_eq
  intro i hi
  rw [BitVec.getLsbD_sshiftRight, BitVec.getLsbD_signExtend, BitVec.msb_eq_getLsbD_last, BitVec.msb_eq_getLsbD_last]
  simp only [BitVec.getLsbD_shiftLeft, BitVec.truncate_eq_setWidth, BitVec.getLsbD_setWidth]
  have e4 : ¬ (64 ≤ i) := by omega
  by_cases h : i < k
  · have e1 : 64 - k + i < 64 := by omega
    have e2 : ¬ (64 - k + i < 64 - k) := by omega
    have e3 : 64 - k + i - (64 - k) = i := by omega
    simp [h, e1, e2, e3, e4, hi]
  · have e1 : ¬ (64 - k + i < 64) := by omega
    have e5 : (63 < 64 - k) ↔ False := ⟨fun g => by omega, fun g => g.elim⟩
    have e6 : 63 - (64 - k) = k - 1 := by omega
    have e7 : k - 1 < k := by omega
    simp [h, e1, e4, e5, e6, e7, hi]
theorem bCut64 (v : Int) : on_shrl (on_shll v 0) 0 = (on_l v).toInt := by
  unfold on_shrl on_shll
  rw [on_tl]
  simp [on_i]
theorem bCutK (v : Int) (k : Nat) (hk : 0 < k ∧ k ≤ 64) (m : Int64) (hm : m.toBitVec.smod 64 = BitVec.ofNat 64 (64 - k)) : ((on_l v <<< m) >>> m).toInt = (BitVec.ofInt k v).toInt := by
  have e : ((on_l v <<< m) >>> m).toBitVec = ((BitVec.ofInt k v)).signExtend 64 := by
    rw [Int64.toBitVec_shiftRight, Int64.toBitVec_shiftLeft, hm]
    have : (BitVec.ofNat 64 (64 - k)).toNat = 64 - k := by simp; omega
    rw [BitVec.shiftLeft_eq', BitVec.sshiftRight_eq', this, bShl k hk]
    congr 1
    unfold on_l
    apply BitVec.eq_of_toInt_eq
    show (BitVec.setWidth k (Int64.ofInt v).toBitVec).toInt = _
    rw [Int64.toBitVec_ofInt]
    rw [BitVec.toInt_setWidth]
    simp
    have n0 : 0 ≤ v % 18446744073709551616 := Int.emod_nonneg _ (by omega)
    rw [Int.max_eq_left n0]
    have d : ((2 ^ k : Nat) : Int) ∣ 18446744073709551616 := by
      show ((2 ^ k : Nat) : Int) ∣ ((18446744073709551616 : Nat) : Int)
      exact Int.ofNat_dvd.mpr (Nat.pow_dvd_pow 2 hk.2)
    simp only [Int.bmod]
    rw [Int.emod_emod_of_dvd _ d]
  rw [← Int64.toInt_toBitVec, e, BitVec.toInt_signExtend_of_le (by omega)]

theorem bCut0 (v : Int) : on_shrl (on_shll v 56) 56 = on_ib v := by
  unfold on_shrl on_shll
  rw [on_tl, bCutK v 8 (by omega) _ (by decide)]
  unfold on_ib on_i
  rw [Int8.toInt_toInt32, ← Int8.toInt_toBitVec]
  simp
theorem bCut1 (v : Int) : on_shrl (on_shll v 48) 48 = on_is v := by
  unfold on_shrl on_shll
  rw [on_tl, bCutK v 16 (by omega) _ (by decide)]
  unfold on_is on_i
  rw [Int16.toInt_toInt32, ← Int16.toInt_toBitVec]
  simp
theorem bCut2 (v : Int) : on_shrl (on_shll v 32) 32 = on_nm v := by
  unfold on_shrl on_shll
  rw [on_tl, bCutK v 32 (by omega) _ (by decide)]
  unfold on_nm on_i
  rw [← Int32.toInt_toBitVec]
  simp

section O46
variable {n : Nat} {σ : on_S} {p q r : Int}
theorem c_isSlot (hp : on_R p) : pf_X11_isSlot p σ = some (if 0 ≤ p ∧ p ≤ 3 then 1 else 0, σ) := by
  unfold pf_X11_isSlot pf_X11_isSlot_13
  by_cases h : p < 0
  · rw [bLtT hp (by omega) h, if_neg (by omega)]
  · rw [bLtF hp (by omega) (by omega)]
    by_cases g : p < 4
    · rw [bLtT hp (by omega) g, if_pos (by omega)]
    · rw [bLtF hp (by omega) (by omega), if_neg (by omega)]
theorem m_isSlot (hp : on_R p) : pf_X12_isSlot p σ = some (if 0 ≤ p ∧ p ≤ 3 then 1 else 0, σ) := by
  unfold pf_X12_isSlot
  rw [bCk hp, bCl (m_in' hp (by omega) (by omega))]
  unfold on_Bz
  by_cases h : 0 ≤ p ∧ p ≤ 3
  · rw [if_pos h]; rfl
  · rw [if_neg h]; rfl
theorem bI.slots {σ' : on_S} (hI : bI n σ) (h : ∀ c, ¬ (69 ≤ c ∧ c ≤ 76) → ¬ (96 ≤ c ∧ c ≤ 99) → σ' c = σ c) (hs : bSq σ') : bI n σ' := by
  have w := h 78 (by omega) (by omega)
  refine ⟨by rw [w]; exact hI.k, by rw [w]; exact hI.r.to fun k hk => h _ (by omega) (by omega), ?_, hs, ?_, ?_⟩
  · have t := hI.t
    unfold bTp at t ⊢
    rw [h 0 (by omega) (by omega), h 1 (by omega) (by omega), h 52 (by omega) (by omega), h 77 (by omega) (by omega), h 81 (by omega) (by omega)]
    exact t
  · obtain ⟨j, h1, h2, h3⟩ := hI.i
    have e : ∀ k, bImg σ' k = bImg σ k := fun k => by unfold bImg; rw [h 79 (by omega) (by omega)]
    refine ⟨j, h1, fun k hk => ?_, fun k k' => ?_⟩
    · rw [h 53 (by omega) (by omega), h 80 (by omega) (by omega), e]
      rcases h2 k hk with a | ⟨a, i, i1, i2, i3, i4⟩
      · exact Or.inl a
      · exact Or.inr ⟨a, i, i1, i2, i3, i4.to fun q hq => h _ (by omega) (by omega)⟩
    · rw [h 53 (by omega) (by omega)]; exact h3 k k'
  · intro i hi
    rw [h 56 (by omega) (by omega)]
    exact hI.o i hi
theorem o_row (hI : bI n σ) (hp : on_R p) (hq : on_R q) (hr : on_R r) : bOp n σ (pf_X11_row p q r) (pf_X12_row p q r) := by
  by_cases hs : 0 ≤ p ∧ p ≤ 3
  · have hp' : (p.toNat : Int) = p := by omega
    generalize hP : p.toNat = P at hp'
    have P4 : P < 4 := by omega
    by_cases hq0 : 0 ≤ q ∧ q ≤ 3
    · by_cases hr0 : 0 ≤ r ∧ r ≤ 60
      · -- the class
        have L : ∀ (m nf : Nat) (k : Int) (σ' : on_S), 0 ≤ k → k + (m : Int) = 60 → m < nf → (∀ c, c ≠ 69 + 2 * P + 1 → σ' c = on_st (on_st σ (69 + 2 * P) 0 q) (69 + 2 * P) 1 r c) → (∀ i, 0 ≤ i → i < k → σ' (69 + 2 * P + 1) i = 0) → ∃ σ'' : on_S, pf_J7_fill_d0a16_6 (69 + 2 * P + 1) 60 nf 0 k 60 σ' = some (0, σ'') ∧ (∀ c, c ≠ 69 + 2 * P + 1 → σ'' c = on_st (on_st σ (69 + 2 * P) 0 q) (69 + 2 * P) 1 r c) ∧ (∀ i, 0 ≤ i → i < 60 → σ'' (69 + 2 * P + 1) i = 0) := by
          intro m
          induction m with
          | zero =>
            intro nf k σ' k0 hk hnf h1 h2
            cases nf with
            | zero => omega
            | succ nf =>
              have : k = 60 := by omega
              subst this
              exact ⟨σ', by rw [pf_J7_fill_d0a16_6, bLtF (by omega) (by omega) (by omega)], h1, h2⟩
          | succ m ih =>
            intro nf k σ' k0 hk hnf h1 h2
            cases nf with
            | zero => omega
            | succ nf =>
              rw [pf_J7_fill_d0a16_6, bLtT (by omega) (by omega) (by omega), bWr k0 (by omega)]
              refine ih nf (k + 1) _ (by omega) (by omega) (by omega) (fun c hc => by rw [bst_nc hc]; exact h1 c hc) (fun i i0 i1 => ?_)
              rw [bst_if]
              by_cases e : i = k
              · rw [if_pos e]
              · rw [if_neg e]; exact h2 i i0 (by omega)
        obtain ⟨σ1, a1, a2, a3⟩ := L 60 on_N 0 (on_st (on_st σ (69 + 2 * P) 0 q) (69 + 2 * P) 1 r) (by omega) (by omega) (by unfold on_N; omega) (fun _ _ => rfl) (fun i i0 i1 => by omega)
        have b : pf_X8_begin (69 + 2 * P) q r σ = some (0, σ1) := by
          unfold pf_X8_begin
          rw [bPt, bPt, bCl (show pf_J7_fill_d0a16 (69 + 2 * P + 1) 60 0 _ = some (0, σ1) from a1)]
        -- the reference
        have M : ∀ (m nf : Nat) (k : Int) (σ' : on_S), 0 ≤ k → k + (m : Int) = 60 → m < nf → (∀ c, c ≠ 98 → σ' c = on_st (on_st σ1 96 p r) 97 p q c) → (∀ i, σ' 98 i = if 60 * p ≤ i ∧ i < 60 * p + k then 0 else σ1 98 i) → ∃ σ'' : on_S, pf_X12_row_52 nf p k σ' = some (0, σ'') ∧ (∀ c, c ≠ 98 → σ'' c = on_st (on_st σ1 96 p r) 97 p q c) ∧ (∀ i, σ'' 98 i = if 60 * p ≤ i ∧ i < 60 * p + 60 then 0 else σ1 98 i) := by
          intro m
          induction m with
          | zero =>
            intro nf k σ' k0 hk hnf h1 h2
            cases nf with
            | zero => omega
            | succ nf =>
              have : k = 60 := by omega
              subst this
              exact ⟨σ', by rw [pf_X12_row_52, bLtF (by omega) (by omega) (by omega)], h1, h2⟩
          | succ m ih =>
            intro nf k σ' k0 hk hnf h1 h2
            cases nf with
            | zero => omega
            | succ nf =>
              rw [pf_X12_row_52, bLtT (by omega) (by omega) (by omega), bWr (by omega) (by omega)]
              refine ih nf (k + 1) _ (by omega) (by omega) (by omega) (fun c hc => by rw [bst_nc hc]; exact h1 c hc) (fun i => ?_)
              rw [bst_if]
              by_cases e : i = 60 * p + k
              · rw [if_pos e, if_pos (by omega)]
              · rw [if_neg e, h2]
                by_cases g : 60 * p ≤ i ∧ i < 60 * p + k
                · rw [if_pos g, if_pos (by omega)]
                · rw [if_neg g, if_neg (by omega)]
        obtain ⟨σ2, b1, b2, b3⟩ := M 60 on_N 0 (on_st (on_st σ1 96 p r) 97 p q) (by omega) (by omega) (by unfold on_N; omega) (fun _ _ => rfl) (fun i => by rw [bst_nc (by omega), bst_nc (by omega), if_neg (by omega)])
        refine ⟨0, σ1, σ2, ?_, ?_, by omega, hI.slots (fun c hc1 hc2 => ?_) (fun s s4 => ?_)⟩
        · unfold pf_X11_row
          rw [bCl (c_isSlot hp), bE01, if_pos hs, bLtF hq (by omega) (by omega), bLeT hq (by omega) hq0.2, bLeT hr (by omega) hr0.2, bLtF hr (by omega) (by omega), bIx hs.1 (by omega), hP, bCl b]
        · unfold pf_X12_row
          rw [bCl (m_isSlot hp), bE01, if_pos hs, bCk hq, bCl (m_in' hq (by omega) (by omega)), bE01, if_pos hq0, bLeT hr (by omega) hr0.2, bLtF hr (by omega) (by omega), bWr (by omega) (by omega), bWr (by omega) (by omega)]
          exact b1
        · rw [b2 c (by omega), bst_nc (by omega), bst_nc (by omega), a2 c (by omega), bst_nc (by omega), bst_nc (by omega)]
        · obtain ⟨h1, h2⟩ := hI.s s s4
          rw [b2 (69 + 2 * s) (by omega), bst_nc (by omega), bst_nc (by omega), b2 96 (by omega), bst_nc (by omega), b2 97 (by omega), bst_if, bst_if, a2 (69 + 2 * s) (by omega)]
          by_cases e : s = P
          · subst e
            refine ⟨Or.inr ⟨?_, ?_, ?_, ?_⟩, fun i i0 i1 => ?_⟩
            · rw [bst_ni (by omega), bst_eq]; omega
            · rw [if_pos hp', bst_ni (by omega), bst_eq]
            · rw [if_pos hp', bst_eq]
            · rw [if_pos hp']; omega
            · rw [b2 _ (by omega), bst_nc (by omega), bst_nc (by omega), a3 i i0 i1, b3, if_pos (by omega)]; exact ⟨rfl, by omega⟩
          · rw [bst_nc (by omega), bst_nc (by omega), if_neg (by omega), if_neg (by omega), bst_nc (by omega), a2 96 (by omega), a2 97 (by omega), bst_nc (by omega), bst_nc (by omega), bst_nc (by omega), bst_nc (by omega)]
            refine ⟨h1, fun i i0 i1 => ?_⟩
            rw [b2 _ (by omega), bst_nc (by omega), bst_nc (by omega), a2 _ (by omega), bst_nc (by omega), bst_nc (by omega), b3, if_neg (by omega), a2 98 (by omega), bst_nc (by omega), bst_nc (by omega)]
            exact h2 i i0 i1
      · by_cases hr1 : 60 < r
        · refine bOp.no (r := -2) hI (by omega) ?_ ?_
          · unfold pf_X11_row
            rw [bCl (c_isSlot hp), bE01, if_pos hs, bLtF hq (by omega) (by omega), bLeT hq (by omega) hq0.2, bLeF hr (by omega) hr1]
          · unfold pf_X12_row
            rw [bCl (m_isSlot hp), bE01, if_pos hs, bCk hq, bCl (m_in' hq (by omega) (by omega)), bE01, if_pos hq0, bLeF hr (by omega) hr1]
        · refine bOp.no (r := -3) hI (by omega) ?_ ?_
          · unfold pf_X11_row
            rw [bCl (c_isSlot hp), bE01, if_pos hs, bLtF hq (by omega) (by omega), bLeT hq (by omega) hq0.2, bLeT hr (by omega) (by omega), bLtT hr (by omega) (by omega)]
          · unfold pf_X12_row
            rw [bCl (m_isSlot hp), bE01, if_pos hs, bCk hq, bCl (m_in' hq (by omega) (by omega)), bE01, if_pos hq0, bLeT hr (by omega) (by omega), bLtT hr (by omega) (by omega)]
    · refine bOp.no (r := -2) hI (by omega) ?_ ?_
      · unfold pf_X11_row
        rw [bCl (c_isSlot hp), bE01, if_pos hs]
        by_cases g : q < 0
        · rw [bLtT hq (by omega) g]
        · rw [bLtF hq (by omega) (by omega), bLeF hq (by omega) (by omega)]
      · unfold pf_X12_row
        rw [bCl (m_isSlot hp), bE01, if_pos hs, bCk hq, bCl (m_in' hq (by omega) (by omega)), bE01, if_neg hq0]
  · refine bOp.no (r := -2) hI (by omega) ?_ ?_
    · unfold pf_X11_row
      rw [bCl (c_isSlot hp), bE01, if_neg hs]
    · unfold pf_X12_row
      rw [bCl (m_isSlot hp), bE01, if_neg hs]
theorem m_cut {w v : Int} (hw : 0 ≤ w ∧ w ≤ 3) (hv : on_RL v) : pf_X12_cut v w σ = pf_X8_cut v w σ ∧ ∃ x, pf_X8_cut v w σ = some (x, σ) ∧ on_RL x := by
  obtain ⟨s0, s1, s2, s3⟩ := bSh8
  have c : w = 0 ∨ w = 1 ∨ w = 2 ∨ w = 3 := by omega
  unfold pf_X12_cut pf_X8_cut
  rcases c with c | c | c | c <;> subst c
  · have hb : on_R (on_ib v) := ⟨by have := Int32.le_toInt (on_i v).toInt8.toInt32; exact this, Int32.toInt_lt _⟩
    have e : on_sw 0 0 [on_Ck (on_ib v) (some (on_ib v, σ)), on_Ck (on_is v) (some (on_is v, σ)), some (on_nm v, σ)] (some (v, σ)) = some (on_ib v, σ) := by
      rw [on_sw, bEqT (by omega) rfl, bCk hb]
    rw [s0, show (64 : Int) - 8 = 56 from rfl, bCut0, e]
    exact ⟨rfl, _, rfl, by omega⟩
  · have hb : on_R (on_is v) := ⟨by have := Int32.le_toInt (on_i v).toInt16.toInt32; exact this, Int32.toInt_lt _⟩
    have e : on_sw 1 0 [on_Ck (on_ib v) (some (on_ib v, σ)), on_Ck (on_is v) (some (on_is v, σ)), some (on_nm v, σ)] (some (v, σ)) = some (on_is v, σ) := by
      rw [on_sw, bEqF (by omega) (by omega) (by omega), on_sw, bEqT (by omega) (by omega), bCk hb]
    rw [s1, show (64 : Int) - 16 = 48 from rfl, bCut1, e]
    exact ⟨rfl, _, rfl, by omega⟩
  · have hb : on_R (on_nm v) := on_nm_R v
    have e : on_sw 2 0 [on_Ck (on_ib v) (some (on_ib v, σ)), on_Ck (on_is v) (some (on_is v, σ)), some (on_nm v, σ)] (some (v, σ)) = some (on_nm v, σ) := by
      rw [on_sw, bEqF (by omega) (by omega) (by omega), on_sw, bEqF (by omega) (by omega) (by omega), on_sw, bEqT (by omega) (by omega)]
    rw [s2, show (64 : Int) - 32 = 32 from rfl, bCut2, e]
    exact ⟨rfl, _, rfl, by omega⟩
  · have e : on_sw 3 0 [on_Ck (on_ib v) (some (on_ib v, σ)), on_Ck (on_is v) (some (on_is v, σ)), some (on_nm v, σ)] (some (v, σ)) = some (v, σ) := by
      rw [on_sw, bEqF (by omega) (by omega) (by omega), on_sw, bEqF (by omega) (by omega) (by omega), on_sw, bEqF (by omega) (by omega) (by omega), on_sw]
    rw [s3, show (64 : Int) - 64 = 0 from rfl, bCut64, on_lt' hv, e]
    exact ⟨rfl, _, rfl, hv⟩
theorem o_write {v : Int} (hI : bI n σ) (hp : on_R p) (hq : on_R q) (hv : on_RL v) : bOp n σ (pf_X11_write p q v) (pf_X12_write p q v) := by
  by_cases hs : 0 ≤ p ∧ p ≤ 3
  · have hp' : (p.toNat : Int) = p := by omega
    generalize hP : p.toNat = P at hp'
    have P4 : P < 4 := by omega
    obtain ⟨h1, h2⟩ := hI.s P P4
    rw [hp'] at h1 h2
    rcases h1 with ⟨w1, w2⟩ | ⟨w0, w1, w2, w3⟩
    · refine bOp.no (r := -6) hI (by omega) ?_ ?_
      · unfold pf_X11_write
        rw [bCl (c_isSlot hp), bE01, if_pos hs, bIx hs.1 (by omega), hP, bGt, w1, bEqT (by omega) rfl]
      · unfold pf_X12_write
        rw [bCl (m_isSlot hp), bE01, if_pos hs, bRd (by omega) (by omega), w2, bEqT (by omega) rfl]
    · by_cases hq0 : 0 ≤ q ∧ q ≤ σ 96 p - 1
      · obtain ⟨c1, x, c2, c3⟩ := m_cut (σ := σ) w0 hv
        have c1' : ∀ σ' : on_S, pf_X12_cut v (σ (69 + 2 * P) 0) σ' = some (x, σ') := by
          intro σ'
          have : pf_X12_cut v (σ (69 + 2 * P) 0) σ = some (x, σ) := by rw [c1, c2]
          unfold pf_X12_cut at this ⊢
          injection this with this
          injection this with t1 t2
          rw [t1]
        refine ⟨0, on_st σ (69 + 2 * P + 1) q x, on_st (on_st σ (69 + 2 * P + 1) q x) 98 (60 * p + q) x, ?_, ?_, by omega, hI.slots (fun c hc1 hc2 => ?_) (fun s s4 => ?_)⟩
        · unfold pf_X11_write
          rw [bCl (c_isSlot hp), bE01, if_pos hs, bIx hs.1 (by omega), hP, bGt, bEqF (by omega) (by omega) (by omega), bLtF hq (by omega) (by omega), bGt, bLtT hq (by omega) (by omega), bGt, bCl c2, bWr (by omega) (by omega)]
        · unfold pf_X12_write
          rw [bCl (m_isSlot hp), bE01, if_pos hs, bRd (by omega) (by omega), bst_nc (by omega), bEqF (by omega) (by omega) (by omega), bCk hq, bRd (by omega) (by omega), bst_nc (by omega), bCk (by omega), bCl (m_in' hq (by omega) (by omega)), bE01, if_pos hq0, bRd (by omega) (by omega), bst_nc (by omega), w1, bCl (c1' _), bWr (by omega) (by omega)]
        · rw [bst_nc (by omega), bst_nc (by omega)]
        · obtain ⟨g1, g2⟩ := hI.s s s4
          rw [bst_nc (by omega), bst_nc (by omega), bst_nc (by omega), bst_nc (by omega), bst_nc (by omega), bst_nc (by omega)]
          refine ⟨g1, fun i i0 i1 => ?_⟩
          rw [bst_nc (show 69 + 2 * s + 1 ≠ 98 by omega), bst_if]
          by_cases e : s = P
          · subst e
            by_cases f : i = q
            · rw [if_pos (by omega), f, bst_eq]; exact ⟨rfl, c3⟩
            · rw [if_neg (by omega), bst_ni f, bst_nc (show 98 ≠ 69 + 2 * s + 1 by omega)]; exact g2 i i0 i1
          · rw [if_neg (by omega), bst_nc (by omega), bst_nc (by omega)]; exact g2 i i0 i1
      · refine bOp.no (r := -7) hI (by omega) ?_ ?_
        · unfold pf_X11_write
          rw [bCl (c_isSlot hp), bE01, if_pos hs, bIx hs.1 (by omega), hP, bGt, bEqF (by omega) (by omega) (by omega)]
          by_cases g : q < 0
          · rw [bLtT hq (by omega) g]
          · rw [bLtF hq (by omega) (by omega), bGt, bLtF hq (by omega) (by omega)]
        · unfold pf_X12_write
          rw [bCl (m_isSlot hp), bE01, if_pos hs, bRd (by omega) (by omega), bEqF (by omega) (by omega) (by omega), bCk hq, bRd (by omega) (by omega), bCk (by omega), bCl (m_in' hq (by omega) (by omega)), bE01, if_neg hq0]
  · refine bOp.no (r := -2) hI (by omega) ?_ ?_
    · unfold pf_X11_write
      rw [bCl (c_isSlot hp), bE01, if_neg hs]
    · unfold pf_X12_write
      rw [bCl (m_isSlot hp), bE01, if_neg hs]
theorem c_hasS {b : Nat} (hp : on_R p) (hq : on_R q) (hw : 0 ≤ σ b 1 ∧ σ b 1 ≤ 60) : pf_X8_has b p q σ = some (if 0 ≤ p ∧ 0 ≤ q ∧ p + q ≤ σ b 1 then 1 else 0, σ) := by
  unfold pf_X8_has pf_X8_has_30
  by_cases h : p < 0
  · rw [bLtT hp (by omega) h, if_neg (by omega)]
  · rw [bLtF hp (by omega) (by omega)]
    by_cases g : q < 0
    · rw [bLtT hq (by omega) g, if_neg (by omega)]
    · rw [bLtF hq (by omega) (by omega), bGt]
      by_cases f : p ≤ σ b 1
      · rw [bLeT hp (by omega) f, bGt]
        by_cases e : q ≤ σ b 1 - p
        · rw [bLeT hq (by omega) e, if_pos (by omega)]
        · rw [bLeF hq (by omega) (by omega), if_neg (by omega)]
      · rw [bLeF hp (by omega) (by omega), if_neg (by omega)]
theorem o_paste {t u : Int} (hI : bI n σ) (hp : on_R p) (hq : on_R q) (hr : on_R r) (ht : on_R t) (hu : on_R u) : bOp n σ (pf_X11_paste p q r t u) (pf_X12_paste p q r t u) := by
  by_cases hs : 0 ≤ p ∧ p ≤ 3
  · by_cases hz : 0 ≤ r ∧ r ≤ 3
    · have hp' : (p.toNat : Int) = p := by omega
      generalize hP : p.toNat = P at hp'
      have P4 : P < 4 := by omega
      have hr' : (r.toNat : Int) = r := by omega
      generalize hQ : r.toNat = Q at hr'
      have Q4 : Q < 4 := by omega
      obtain ⟨h1, h2⟩ := hI.s P P4
      obtain ⟨f1, f2⟩ := hI.s Q Q4
      rw [hp'] at h1 h2
      rw [hr'] at f1 f2
      rcases h1 with ⟨w1, w2⟩ | ⟨w0, w1, w2, w3⟩
      · refine bOp.no (r := -6) hI (by omega) ?_ ?_
        · unfold pf_X11_paste
          rw [bCl (c_isSlot hp), bE01, if_pos hs, bCl (c_isSlot hr), bE01, if_pos hz, bIx hs.1 (by omega), hP, bIx hz.1 (by omega), hQ, bGt, w1, bEqT (by omega) rfl]
        · unfold pf_X12_paste
          rw [bCl (m_isSlot hp), bE01, if_pos hs, bCl (m_isSlot hr), bE01, if_pos hz, bRd (by omega) (by omega), w2, bEqT (by omega) rfl]
      · rcases f1 with ⟨x1, x2⟩ | ⟨x0, x1, x2, x3⟩
        · refine bOp.no (r := -6) hI (by omega) ?_ ?_
          · unfold pf_X11_paste
            rw [bCl (c_isSlot hp), bE01, if_pos hs, bCl (c_isSlot hr), bE01, if_pos hz, bIx hs.1 (by omega), hP, bIx hz.1 (by omega), hQ, bGt, bEqF (by omega) (by omega) (by omega), bGt, x1, bEqT (by omega) rfl]
          · unfold pf_X12_paste
            rw [bCl (m_isSlot hp), bE01, if_pos hs, bCl (m_isSlot hr), bE01, if_pos hz, bRd (by omega) (by omega), bEqF (by omega) (by omega) (by omega), bRd (by omega) (by omega), x2, bEqT (by omega) rfl]
        · -- both are begun
          by_cases we : σ (69 + 2 * P) 0 = σ (69 + 2 * Q) 0
          · by_cases hA : 0 ≤ q ∧ 0 ≤ u ∧ q + u ≤ σ 96 p
            · by_cases hB : 0 ≤ t ∧ 0 ≤ u ∧ t + u ≤ σ 96 r
              · have M : ∀ (m nf : Nat) (k : Int) (σ' : on_S), 0 ≤ k → k + (m : Int) = u → m < nf → (∀ c, c ≠ 98 → c ≠ 99 → σ' c = on_cp σ (69 + 2 * P + 1) q (69 + 2 * Q + 1) t u c) → (∀ i, 0 ≤ i → i < u → σ' 99 i = σ 98 (60 * p + q + i)) → (∀ i, σ' 98 i = if 60 * r + t ≤ i ∧ i < 60 * r + t + k then σ 98 (60 * p + q + (i - (60 * r + t))) else σ 98 i) → ∃ σ'' : on_S, pf_X12_paste_150 nf r t u k σ' = some (0, σ'') ∧ (∀ c, c ≠ 98 → c ≠ 99 → σ'' c = on_cp σ (69 + 2 * P + 1) q (69 + 2 * Q + 1) t u c) ∧ (∀ i, σ'' 98 i = if 60 * r + t ≤ i ∧ i < 60 * r + t + u then σ 98 (60 * p + q + (i - (60 * r + t))) else σ 98 i) := by
                  intro m
                  induction m with
                  | zero =>
                    intro nf k σ' k0 hk hnf h1 h2 h3
                    cases nf with
                    | zero => omega
                    | succ nf =>
                      have : k = u := by omega
                      subst this
                      exact ⟨σ', by rw [pf_X12_paste_150, bLtF (by omega) (by omega) (by omega)], h1, h3⟩
                  | succ m ih =>
                    intro nf k σ' k0 hk hnf h1 h2 h3
                    cases nf with
                    | zero => omega
                    | succ nf =>
                      rw [pf_X12_paste_150, bLtT (by omega) (by omega) (by omega), bRd (by omega) (by omega), bWr (by omega) (by omega)]
                      refine ih nf (k + 1) _ (by omega) (by omega) (by omega) (fun c hc hd => by rw [bst_nc hc]; exact h1 c hc hd) (fun i i0 i1 => by rw [bst_nc (by omega)]; exact h2 i i0 i1) (fun i => ?_)
                      rw [bst_if]
                      by_cases e : i = 60 * r + t + k
                      · rw [if_pos e, if_pos (by omega), h2 k k0 (by omega), e]; congr 1; omega
                      · rw [if_neg e, h3]
                        by_cases g : 60 * r + t ≤ i ∧ i < 60 * r + t + k
                        · rw [if_pos g, if_pos (by omega)]
                        · rw [if_neg g, if_neg (by omega)]
                have L : ∀ (m nf : Nat) (k : Int) (σ' : on_S), 0 ≤ k → k + (m : Int) = u → m < nf → (∀ c, c ≠ 99 → σ' c = on_cp σ (69 + 2 * P + 1) q (69 + 2 * Q + 1) t u c) → (∀ i, 0 ≤ i → i < k → σ' 99 i = σ 98 (60 * p + q + i)) → ∃ σ'' : on_S, pf_X12_paste_113 nf p q r t u k σ' = some (0, σ'') ∧ (∀ c, c ≠ 98 → c ≠ 99 → σ'' c = on_cp σ (69 + 2 * P + 1) q (69 + 2 * Q + 1) t u c) ∧ (∀ i, σ'' 98 i = if 60 * r + t ≤ i ∧ i < 60 * r + t + u then σ 98 (60 * p + q + (i - (60 * r + t))) else σ 98 i) := by
                  intro m
                  induction m with
                  | zero =>
                    intro nf k σ' k0 hk hnf h1 h2
                    cases nf with
                    | zero => omega
                    | succ nf =>
                      rw [pf_X12_paste_113, bLtF (by omega) (by omega) (by omega)]
                      exact M u.toNat on_N 0 σ' (by omega) (by omega) (by unfold on_N; omega) (fun c _ hd => h1 c hd) (fun i i0 i1 => h2 i i0 (by omega)) (fun i => by rw [h1 98 (by omega), bcp_nc (by omega), if_neg (by omega)])
                  | succ m ih =>
                    intro nf k σ' k0 hk hnf h1 h2
                    cases nf with
                    | zero => omega
                    | succ nf =>
                      rw [pf_X12_paste_113, bLtT (by omega) (by omega) (by omega), bRd (by omega) (by omega), bWr (by omega) (by omega)]
                      refine ih nf (k + 1) _ (by omega) (by omega) (by omega) (fun c hd => by rw [bst_nc hd]; exact h1 c hd) (fun i i0 i1 => ?_)
                      rw [bst_if]
                      by_cases e : i = k
                      · rw [if_pos e, h1 98 (by omega), bcp_nc (by omega), e]
                      · rw [if_neg e]; exact h2 i i0 (by omega)
                obtain ⟨σ2, b1, b2, b3⟩ := L u.toNat on_N 0 (on_cp σ (69 + 2 * P + 1) q (69 + 2 * Q + 1) t u) (by omega) (by omega) (by unfold on_N; omega) (fun _ _ => rfl) (fun i i0 i1 => by omega)
                refine ⟨0, on_cp σ (69 + 2 * P + 1) q (69 + 2 * Q + 1) t u, σ2, ?_, ?_, by omega, hI.slots (fun c hc1 hc2 => ?_) (fun s s4 => ?_)⟩
                · unfold pf_X11_paste
                  rw [bCl (c_isSlot hp), bE01, if_pos hs, bCl (c_isSlot hr), bE01, if_pos hz, bIx hs.1 (by omega), hP, bIx hz.1 (by omega), hQ, bGt, bEqF (by omega) (by omega) (by omega), bGt, bEqF (by omega) (by omega) (by omega), bGt, bGt, bEqT (by omega) we, bCl (c_hasS hq hu (by omega)), bE01, if_pos (by omega), bCl (c_hasS ht hu (by omega)), bE01, if_pos (by omega), bCp (by omega) (by omega) (by omega) (by omega) (by omega)]
                · unfold pf_X12_paste
                  rw [bCl (m_isSlot hp), bE01, if_pos hs, bCl (m_isSlot hr), bE01, if_pos hz, bRd (by omega) (by omega), bcp_nc (by omega), bEqF (by omega) (by omega) (by omega), bRd (by omega) (by omega), bcp_nc (by omega), bEqF (by omega) (by omega) (by omega), bRd (by omega) (by omega), bRd (by omega) (by omega), bcp_nc (by omega), bEqT (by omega) (by omega), bLtF hq (by omega) (by omega), bLtF ht (by omega) (by omega), bLtF hu (by omega) (by omega), bCk hq, bCk hu, bRd (by omega) (by omega), bcp_nc (by omega), bCk (by omega), bLeLT (by omega) (by omega) hA.2.2, bCk ht, bCk hu, bRd (by omega) (by omega), bcp_nc (by omega), bCk (by omega), bLeLT (by omega) (by omega) hB.2.2]
                  exact b1
                · rw [b2 c (by omega) (by omega), bcp_nc (by omega)]
                · obtain ⟨g1, g2⟩ := hI.s s s4
                  rw [b2 (69 + 2 * s) (by omega) (by omega), b2 96 (by omega) (by omega), b2 97 (by omega) (by omega), bcp_nc (by omega), bcp_nc (by omega), bcp_nc (by omega)]
                  refine ⟨g1, fun i i0 i1 => ?_⟩
                  rw [b2 _ (by omega) (by omega), b3]
                  by_cases e : s = Q
                  · subst e
                    rw [bcp_if]
                    by_cases f : t ≤ i ∧ i < t + u
                    · rw [if_pos f, if_pos (by omega), show 60 * p + q + (60 * (s : Int) + i - (60 * r + t)) = 60 * p + (q + (i - t)) by omega]
                      exact h2 (q + (i - t)) (by omega) (by omega)
                    · rw [if_neg f, if_neg (by omega)]; exact g2 i i0 i1
                  · rw [bcp_nc (by omega), if_neg (by omega)]; exact g2 i i0 i1
              · refine bOp.no (r := -7) hI (by omega) ?_ ?_
                · unfold pf_X11_paste
                  rw [bCl (c_isSlot hp), bE01, if_pos hs, bCl (c_isSlot hr), bE01, if_pos hz, bIx hs.1 (by omega), hP, bIx hz.1 (by omega), hQ, bGt, bEqF (by omega) (by omega) (by omega), bGt, bEqF (by omega) (by omega) (by omega), bGt, bGt, bEqT (by omega) we, bCl (c_hasS hq hu (by omega)), bE01, if_pos (by omega), bCl (c_hasS ht hu (by omega)), bE01, if_neg (by omega)]
                · unfold pf_X12_paste
                  rw [bCl (m_isSlot hp), bE01, if_pos hs, bCl (m_isSlot hr), bE01, if_pos hz, bRd (by omega) (by omega), bEqF (by omega) (by omega) (by omega), bRd (by omega) (by omega), bEqF (by omega) (by omega) (by omega), bRd (by omega) (by omega), bRd (by omega) (by omega), bEqT (by omega) (by omega), bLtF hq (by omega) (by omega)]
                  by_cases g : t < 0
                  · rw [bLtT ht (by omega) g]
                  · rw [bLtF ht (by omega) (by omega), bLtF hu (by omega) (by omega), bCk hq, bCk hu, bRd (by omega) (by omega), bCk (by omega), bLeLT (by omega) (by omega) hA.2.2, bCk ht, bCk hu, bRd (by omega) (by omega), bCk (by omega), bLeLF (by omega) (by omega) (by omega)]
            · refine bOp.no (r := -7) hI (by omega) ?_ ?_
              · unfold pf_X11_paste
                rw [bCl (c_isSlot hp), bE01, if_pos hs, bCl (c_isSlot hr), bE01, if_pos hz, bIx hs.1 (by omega), hP, bIx hz.1 (by omega), hQ, bGt, bEqF (by omega) (by omega) (by omega), bGt, bEqF (by omega) (by omega) (by omega), bGt, bGt, bEqT (by omega) we, bCl (c_hasS hq hu (by omega)), bE01, if_neg (by omega)]
              · unfold pf_X12_paste
                rw [bCl (m_isSlot hp), bE01, if_pos hs, bCl (m_isSlot hr), bE01, if_pos hz, bRd (by omega) (by omega), bEqF (by omega) (by omega) (by omega), bRd (by omega) (by omega), bEqF (by omega) (by omega) (by omega), bRd (by omega) (by omega), bRd (by omega) (by omega), bEqT (by omega) (by omega)]
                by_cases g : q < 0
                · rw [bLtT hq (by omega) g]
                · rw [bLtF hq (by omega) (by omega)]
                  by_cases g2 : t < 0
                  · rw [bLtT ht (by omega) g2]
                  · rw [bLtF ht (by omega) (by omega)]
                    by_cases g3 : u < 0
                    · rw [bLtT hu (by omega) g3]
                    · rw [bLtF hu (by omega) (by omega), bCk hq, bCk hu, bRd (by omega) (by omega), bCk (by omega), bLeLF (by omega) (by omega) (by omega)]
          · refine bOp.no (r := -8) hI (by omega) ?_ ?_
            · unfold pf_X11_paste
              rw [bCl (c_isSlot hp), bE01, if_pos hs, bCl (c_isSlot hr), bE01, if_pos hz, bIx hs.1 (by omega), hP, bIx hz.1 (by omega), hQ, bGt, bEqF (by omega) (by omega) (by omega), bGt, bEqF (by omega) (by omega) (by omega), bGt, bGt, bEqF (by omega) (by omega) we]
            · unfold pf_X12_paste
              rw [bCl (m_isSlot hp), bE01, if_pos hs, bCl (m_isSlot hr), bE01, if_pos hz, bRd (by omega) (by omega), bEqF (by omega) (by omega) (by omega), bRd (by omega) (by omega), bEqF (by omega) (by omega) (by omega), bRd (by omega) (by omega), bRd (by omega) (by omega), bEqF (by omega) (by omega) (by omega)]
    · refine bOp.no (r := -2) hI (by omega) ?_ ?_
      · unfold pf_X11_paste
        rw [bCl (c_isSlot hp), bE01, if_pos hs, bCl (c_isSlot hr), bE01, if_neg hz]
      · unfold pf_X12_paste
        rw [bCl (m_isSlot hp), bE01, if_pos hs, bCl (m_isSlot hr), bE01, if_neg hz]
  · refine bOp.no (r := -2) hI (by omega) ?_ ?_
    · unfold pf_X11_paste
      rw [bCl (c_isSlot hp), bE01, if_neg hs]
    · unfold pf_X12_paste
      rw [bCl (m_isSlot hp), bE01, if_neg hs]
end O46
