/-! B: stand, change, harm, key, helps -/
/-- the model's row may be made otherwise, all else stays -/
def bSm (σ σ' : on_S) : Prop := (∀ c : Nat, c ∉ bScr → c ≠ 78 → σ' c = σ c) ∧ σ' 77 5 = σ 77 5 ∧ σ' 77 12 = σ 77 12 ∧ σ' 77 13 = σ 77 13
theorem bSm.rf (σ : on_S) : bSm σ σ := ⟨fun _ _ _ => rfl, rfl, rfl, rfl⟩
theorem bS.sm {σ σ' : on_S} (h : bS σ σ') : bSm σ σ' := ⟨fun c hc _ => h.1 c hc, h.2⟩
theorem bSm.tr {σ σ' σ'' : on_S} (h : bSm σ σ') (g : bSm σ' σ'') : bSm σ σ'' := ⟨fun c h1 h2 => (g.1 c h1 h2).trans (h.1 c h1 h2), g.2.1.trans h.2.1, g.2.2.1.trans h.2.2.1, g.2.2.2.trans h.2.2.2⟩
theorem bSm.st {σ : on_S} {i v : Int} : bSm σ (on_st σ 78 i v) := ⟨fun c' _ h3 => bst_nc h3, by rw [bst_nc (by decide)], by rw [bst_nc (by decide)], by rw [bst_nc (by decide)]⟩
theorem bSm.s {σ σ' : on_S} (h : bSm σ σ') (h78 : σ' 78 = σ 78) : bS σ σ' := ⟨fun c hc => by
  by_cases e : c = 78
  · rw [e]; exact h78
  · exact h.1 c hc e, h.2⟩
theorem bSm.sw {σ σ' : on_S} (h : bSm σ σ') : bSw σ σ' := ⟨fun c hc _ h3 => h.1 c hc h3, h.2⟩
theorem bSm.ne {σ σ' : on_S} {c : Nat} (hs : bSm σ σ') (h : ¬ ((c = 26 ∨ (55 ≤ c ∧ c ≤ 68) ∨ c = 77 ∨ (82 ≤ c ∧ c ≤ 95) ∨ c = 99) ∧ c ≠ 56 ∧ c ≠ 63 ∧ c ≠ 67)) (h3 : c ≠ 78) : σ' c = σ c := hs.1 c (fun q => h (bScr_no q)) h3
def bMp (m n c : Int) (σ : on_S) : on_S := on_st (on_st σ 78 ((26 + (4 * m)) + 2) n) 78 ((26 + (4 * m)) + 3) c
theorem bMp_78 (m n c : Int) (σ : on_S) : bMp m n c σ 78 = bPut (σ 78) m n c := by unfold bMp bPut; rw [bst_up, bst_up]
theorem bMp_m (m n c : Int) (σ : on_S) : bSm σ (bMp m n c σ) := bSm.st.tr bSm.st
theorem m_putAt {σ : on_S} {m n c : Int} (m0 : 0 ≤ m) (m1 : m < 9) (hn : on_R n) (hc : n = -1 → c = -1) : pf_X12_putAt m n c σ = some (0, bMp m n c σ) := by
  unfold pf_X12_putAt pf_X12_putAt_36 bMp
  rw [bWr (by omega) (by omega)]
  by_cases e : n = -1
  · rw [bEqT (by omega) e, bWr (by omega) (by omega), hc e]
  · rw [bEqF (by omega) (by omega) e, bWr (by omega) (by omega)]
def bPost (w : bW) (m : Int) : Int := if bMan w m 2 = -1 then -1 else 10 * bMan w m 2 + bMan w m 3
theorem m_postOf {σ : on_S} (hk : bOk (σ 78)) {m : Int} (m0 : 0 ≤ m) (m1 : m < σ 78 3) : pf_X12_postOf m σ = some (bPost (σ 78) m, σ) := by
  obtain ⟨q0, q1, q2, q3, q4, q5, q6, q7⟩ := hk.c
  have hm := (hk.m m m0 m1).2.2
  unfold pf_X12_postOf bPost
  rw [bCl (m_ofMan m0 (by omega) (by omega) (by omega))]
  by_cases e : bMan (σ 78) m 2 = -1
  · rw [bEqT (by omega) e, if_pos e]
  · rw [bEqF (by omega) (by omega) e, if_neg e, bCl (m_ofMan m0 (by omega) (by omega) (by omega)), bCl (m_ofMan m0 (by omega) (by omega) (by omega))]
theorem c_placeOf {b : Nat} {w : bW} {σ : on_S} (hk : bOk w) (hR : bRp b w σ) {m : Int} (m0 : 0 ≤ m) (m1 : m < w 3) : pf_X9_placeOf b m σ = some (bPost w m, σ) := by
  obtain ⟨q0, q1, q2, q3, q4, q5, q6, q7⟩ := hk.c
  have hm := (hk.m m m0 m1).2.2
  obtain ⟨e1, e2, e3, e4⟩ := hR.m m m0 m1
  unfold pf_X9_placeOf bPost
  rw [bRd m0 (by omega), e3]
  by_cases e : bMan w m 2 = -1
  · rw [bEqT (by omega) e, if_pos e]
  · rw [bEqF (by omega) (by omega) e, if_neg e, bRd m0 (by omega), bRd m0 (by omega), e3, e4]
theorem bPost_b {w : bW} (hk : bOk w) {m : Int} (m0 : 0 ≤ m) (m1 : m < w 3) : -1 ≤ bPost w m ∧ bPost w m ≤ 13 := by
  obtain ⟨q0, q1, q2, q3, q4, q5, q6, q7⟩ := hk.c
  have hm := (hk.m m m0 m1).2.2
  unfold bPost; split <;> omega
theorem bTk_w {m : Int} {σ : on_S} : bSw σ (bTk 2 m σ) := by
  unfold bTk
  split
  · exact (bSw.st (by omega)).tr (bSw.st (by omega))
  · exact ((bSw.st (by omega)).tr (bSw.st (by omega))).tr (bSw.st (by omega))
theorem bPa_w {m n c : Int} {σ : on_S} : bSw σ (bPa 2 m n c σ) := ((bSw.st (by omega)).tr (bSw.st (by omega))).tr (bSw.st (by omega))
theorem bTk_78 {m : Int} {σ : on_S} : bTk 2 m σ 78 = σ 78 := by
  unfold bTk
  rw [bst_nc (by decide), bst_nc (by decide)]
  split
  · rfl
  · rw [bst_nc (by decide)]
theorem bPa_78 {m n c : Int} {σ : on_S} : bPa 2 m n c σ 78 = σ 78 := by
  unfold bPa
  rw [bst_nc (by decide), bst_nc (by decide), bst_nc (by decide)]
section O39
variable {n : Nat} {σ : on_S} {p q t : Int}
/-- the class stands otherwise (w'), then the model too -/
theorem bI.put (hI : bI n σ) {σ1 σ2 : on_S} (h1 : bSw σ σ1) (h2 : bSm σ1 σ2) {w' : bW} (hk : bOk w') (hr : bRp 2 w' σ1) (h78 : σ2 78 = w') : bI n σ2 := by
  refine hI.sw (h1.tr h2.sw) (by rw [h78]; exact hk) ?_
  rw [h78]
  exact hr.to fun k hk => h2.ne (by omega) (by omega)
theorem o_stand (hI : bI n σ) (hp : on_R p) (hq : on_R q) (ht : on_R t) : bOp n σ (pf_X11_stand p q t) (pf_X12_stand p q t) := by
  obtain ⟨q0, q1, q2, q3, q4, q5, q6, q7⟩ := hI.k.c
  by_cases h : 0 ≤ p ∧ p < σ 78 3
  · have hm := (hI.k.m p h.1 h.2).2.2
    have hb := bPost_b hI.k h.1 h.2
    have hk1 := bPut_ok hI.k h.1 h.2 (n := -1) (c := -1) (Or.inl ⟨rfl, rfl⟩)
    have hr1 := bTk_rp hI.k hI.r h.1 h.2
    by_cases e : q = -1
    · refine ⟨bPost (σ 78) p, bTk 2 p σ, bMp p (-1) (-1) (bTk 2 p σ), ?_, ?_, by omega, ?_⟩
      · unfold pf_X11_stand
        rw [bCl (c_hasMan hI.k hI.r hp), bE01, if_pos h, bCl (c_placeOf hI.k hI.r h.1 h.2), bEqT hq e, bCl (c_takeAway hI.k hI.r h.1 h.2)]
      · have hk2 : bOk (bTk 2 p σ 78) := by rw [bTk_78]; exact hI.k
        unfold pf_X12_stand pf_X12_stand_55
        rw [bCl (m_isMan hk2 hp), bE01, bTk_78, if_pos h, bEqT hq e, bCl (m_postOf hk2 h.1 (by rw [bTk_78]; exact h.2)), bTk_78]
        subst e
        unfold pf_X12_putAt pf_X12_putAt_36
        rw [bWr (by omega) (by omega), bEqT (by omega) rfl, bWr (by omega) (by omega)]; rfl
      · exact hI.put bTk_w (bMp_m p (-1) (-1) _) hk1 hr1 (by rw [bMp_78, bTk_78])
    · by_cases h2 : (0 ≤ q ∧ q < σ 78 4) ∧ (0 ≤ t ∧ t < 4)
      · obtain ⟨f1, f2⟩ := h2
        have hat := bManAt_b hI.k.c q t
        by_cases h3 : bManAt (σ 78) q t = -1 ∨ bManAt (σ 78) q t = p
        · have hfr : bFree (σ 78) p q t := by
            refine Or.inr ⟨f1, f2, fun m' m0 m1 mne z => ?_⟩
            have := bManAt_of hI.k.c hI.k.d e m0 m1 z.1 z.2
            omega
          have hfr1 : bFree (bPut (σ 78) p (-1) (-1)) p q t := by
            have e4 : bPut (σ 78) p (-1) (-1) 4 = σ 78 4 := bPut_rg (l := 0) (h := 8) h.1 (by omega) (by omega) 4 (by omega) (by omega)
            have e3 : bPut (σ 78) p (-1) (-1) 3 = σ 78 3 := bPut_rg (l := 0) (h := 8) h.1 (by omega) (by omega) 3 (by omega) (by omega)
            refine Or.inr ⟨by rw [e4]; exact f1, f2, fun m' m0 m1 mne z => ?_⟩
            rw [e3] at m1
            rw [bPut_man (by omega) (by omega), bPut_man (by omega) (by omega), if_neg (by omega), if_neg (by omega), if_neg (by omega), if_neg (by omega)] at z
            have := bManAt_of hI.k.c hI.k.d e m0 m1 z.1 z.2
            omega
          have e3 : bPut (σ 78) p (-1) (-1) 3 = σ 78 3 := bPut_rg (l := 0) (h := 8) h.1 (by omega) (by omega) 3 (by omega) (by omega)
          have hm1 : bMan (bPut (σ 78) p (-1) (-1)) p 2 = -1 := by rw [bPut_man (by omega) (by omega), if_pos ⟨rfl, rfl⟩]
          have hk2 := bPut_ok hk1 h.1 (by rw [e3]; exact h.2) hfr1
          have hr2 := bPa_rp hk1 hr1 h.1 (by rw [e3]; exact h.2) hm1 hfr1 e
          rw [bPut_put] at hk2 hr2
          have hcl : pf_X11_stand_88 p q t (bPost (σ 78) p) σ = some (bPost (σ 78) p, bPa 2 p q t (bTk 2 p σ)) := by
            unfold pf_X11_stand_88
            rw [bCl (c_takeAway hI.k hI.r h.1 h.2), bCl (c_putAt hr1 hk1 h.1 (by rw [e3]; exact h.2) f1.1 (by omega) f2.1 f2.2)]
          have h78 : bPa 2 p q t (bTk 2 p σ) 78 = σ 78 := by rw [bPa_78, bTk_78]
          have hkm : bOk (bPa 2 p q t (bTk 2 p σ) 78) := by rw [h78]; exact hI.k
          have hml : pf_X12_stand_55 p q t (bPa 2 p q t (bTk 2 p σ)) = some (bPost (σ 78) p, bMp p q t (bPa 2 p q t (bTk 2 p σ))) := by
            unfold pf_X12_stand_55
            rw [bCl (m_postOf hkm h.1 (by rw [h78]; exact h.2)), bCl (m_putAt h.1 (by omega) hq (fun z => absurd z e)), h78]
          refine ⟨bPost (σ 78) p, bPa 2 p q t (bTk 2 p σ), bMp p q t (bPa 2 p q t (bTk 2 p σ)), ?_, ?_, by omega, ?_⟩
          · unfold pf_X11_stand
            rw [bCl (c_hasMan hI.k hI.r hp), bE01, if_pos h, bCl (c_placeOf hI.k hI.r h.1 h.2), bEqF hq (by omega) e, bCl (c_hasCorner hI.k hI.r hq ht), bE01, if_pos ⟨f1, f2⟩, bRd (by omega) (by omega), hI.r.h q t f1.1 (by omega) f2.1 f2.2]
            by_cases z : bManAt (σ 78) q t = -1
            · rw [bEqT (by omega) z, hcl]
            · rw [bEqF (by omega) (by omega) z, bEqT (by omega) (by omega), hcl]
          · unfold pf_X12_stand
            rw [bCl (m_isMan hkm hp), bE01, h78, if_pos h, bEqF hq (by omega) e, bCk hq, bCl (m_isNet hkm (by omega)), bE01, h78, if_pos f1, bCl (m_isCorner ht), bE01, if_pos f2, bCl (m_manAt hkm hq ht), h78]
            by_cases z : bManAt (σ 78) q t = -1
            · rw [bEqT (by omega) z, hml]
            · rw [bEqF (by omega) (by omega) z, bCl (m_manAt hkm hq ht), h78, bEqT (by omega) (by omega), hml]
          · exact hI.put (bTk_w.tr bPa_w) (bMp_m p q t _) hk2 hr2 (by rw [bMp_78, h78])
        · refine bOp.no (r := -2) hI (by omega) ?_ ?_
          · unfold pf_X11_stand
            rw [bCl (c_hasMan hI.k hI.r hp), bE01, if_pos h, bCl (c_placeOf hI.k hI.r h.1 h.2), bEqF hq (by omega) e, bCl (c_hasCorner hI.k hI.r hq ht), bE01, if_pos ⟨f1, f2⟩, bRd (by omega) (by omega), hI.r.h q t f1.1 (by omega) f2.1 f2.2, bEqF (by omega) (by omega) (by omega), bEqF (by omega) (by omega) (by omega)]
          · unfold pf_X12_stand
            rw [bCl (m_isMan hI.k hp), bE01, if_pos h, bEqF hq (by omega) e, bCk hq, bCl (m_isNet hI.k (by omega)), bE01, if_pos f1, bCl (m_isCorner ht), bE01, if_pos f2, bCl (m_manAt hI.k hq ht), bEqF (by omega) (by omega) (by omega), bCl (m_manAt hI.k hq ht), bEqF (by omega) (by omega) (by omega)]
      · refine bOp.no (r := -2) hI (by omega) ?_ ?_
        · unfold pf_X11_stand
          rw [bCl (c_hasMan hI.k hI.r hp), bE01, if_pos h, bCl (c_placeOf hI.k hI.r h.1 h.2), bEqF hq (by omega) e, bCl (c_hasCorner hI.k hI.r hq ht), bE01, if_neg h2]
        · unfold pf_X12_stand
          rw [bCl (m_isMan hI.k hp), bE01, if_pos h, bEqF hq (by omega) e, bCk hq, bCl (m_isNet hI.k (by omega)), bE01]
          split
          · rename_i f1
            rw [bCl (m_isCorner ht), bE01, if_neg (fun z => h2 ⟨f1, z⟩)]
          · rfl
  · refine bOp.no (r := -2) hI (by omega) ?_ ?_
    · unfold pf_X11_stand
      rw [bCl (c_hasMan hI.k hI.r hp), bE01, if_neg h]
    · unfold pf_X12_stand
      rw [bCl (m_isMan hI.k hp), bE01, if_neg h]
theorem o_change (hI : bI n σ) (hp : on_R p) (hq : on_R q) : bOp n σ (pf_X11_change p q) (pf_X12_change p q) := by
  obtain ⟨q0, q1, q2, q3, q4, q5, q6, q7⟩ := hI.k.c
  by_cases h : (0 ≤ p ∧ p < σ 78 3) ∧ (0 ≤ q ∧ q < σ 78 3) ∧ p ≠ q
  · obtain ⟨hp1, hq1, hne⟩ := h
    have hmp := (hI.k.m p hp1.1 hp1.2).2.2
    have hmq := (hI.k.m q hq1.1 hq1.2).2.2
    obtain ⟨e1, e2, e3, e4⟩ := hI.r.m p hp1.1 hp1.2
    obtain ⟨g1, g2, g3, g4⟩ := hI.r.m q hq1.1 hq1.2
    have e3w : ∀ (w : bW) (m a c : Int), 0 ≤ m → m < 9 → bPut w m a c 3 = w 3 := fun w m a c m0 m1 => bPut_rg (l := 0) (h := 8) m0 m1 (by omega) 3 (by omega) (by omega)
    have e4w : ∀ (w : bW) (m a c : Int), 0 ≤ m → m < 9 → bPut w m a c 4 = w 4 := fun w m a c m0 m1 => bPut_rg (l := 0) (h := 8) m0 m1 (by omega) 4 (by omega) (by omega)
    -- both away
    have hk1 := bPut_ok hI.k hp1.1 hp1.2 (n := -1) (c := -1) (Or.inl ⟨rfl, rfl⟩)
    have hr1 := bTk_rp hI.k hI.r hp1.1 hp1.2
    have hq1' : q < bPut (σ 78) p (-1) (-1) 3 := by rw [e3w _ _ _ _ hp1.1 (by omega)]; exact hq1.2
    have hk2 := bPut_ok hk1 hq1.1 hq1' (n := -1) (c := -1) (Or.inl ⟨rfl, rfl⟩)
    have hr2 := bTk_rp hk1 hr1 hq1.1 hq1'
    -- the first at the other's place
    have st1 : ∃ σ3 : on_S, (on_Eq (bMan (σ 78) q 2) (-1) (pf_X9_swapPlaces_68 2 q (bMan (σ 78) p 2) (bMan (σ 78) p 3) (bTk 2 q (bTk 2 p σ))) (on_Cl (pf_X9_putAt 2 p (bMan (σ 78) q 2) (bMan (σ 78) q 3) (bTk 2 q (bTk 2 p σ))) fun _ σ10 => pf_X9_swapPlaces_68 2 q (bMan (σ 78) p 2) (bMan (σ 78) p 3) σ10)) = pf_X9_swapPlaces_68 2 q (bMan (σ 78) p 2) (bMan (σ 78) p 3) σ3 ∧ bSw σ σ3 ∧ σ3 78 = σ 78 ∧ bOk (bPut (bPut (σ 78) q (-1) (-1)) p (bMan (σ 78) q 2) (bMan (σ 78) q 3)) ∧ bRp 2 (bPut (bPut (σ 78) q (-1) (-1)) p (bMan (σ 78) q 2) (bMan (σ 78) q 3)) σ3 := by
      by_cases z : bMan (σ 78) q 2 = -1
      · refine ⟨bTk 2 q (bTk 2 p σ), ?_, bTk_w.tr bTk_w, by rw [bTk_78, bTk_78], ?_, ?_⟩
        · rw [bEqT (by omega) z]
        · rw [show bMan (σ 78) q 3 = -1 by omega, z, bPut_comm (fun y => hne y.symm)]; exact hk2
        · rw [show bMan (σ 78) q 3 = -1 by omega, z, bPut_comm (fun y => hne y.symm)]; exact hr2
      · have hf : bFree (bPut (bPut (σ 78) p (-1) (-1)) q (-1) (-1)) p (bMan (σ 78) q 2) (bMan (σ 78) q 3) := by
          refine Or.inr ⟨by rw [e4w _ _ _ _ hq1.1 (by omega), e4w _ _ _ _ hp1.1 (by omega)]; omega, by omega, fun m' m0 m1 mne y => ?_⟩
          rw [e3w _ _ _ _ hq1.1 (by omega), e3w _ _ _ _ hp1.1 (by omega)] at m1
          rw [bPut_man (by omega) (by omega), bPut_man (by omega) (by omega)] at y
          by_cases mq : m' = q
          · rw [if_pos ⟨mq, rfl⟩] at y; omega
          · rw [if_neg (by omega), if_neg (by omega), if_neg (by omega), if_neg (by omega), bPut_man (by omega) (by omega), bPut_man (by omega) (by omega), if_neg (by omega), if_neg (by omega), if_neg (by omega), if_neg (by omega)] at y
            exact mq (hI.k.d m' q m0 m1 hq1.1 hq1.2 (by omega) y.1 y.2)
        have hp2' : p < bPut (bPut (σ 78) p (-1) (-1)) q (-1) (-1) 3 := by rw [e3w _ _ _ _ hq1.1 (by omega), e3w _ _ _ _ hp1.1 (by omega)]; exact hp1.2
        have hm2 : bMan (bPut (bPut (σ 78) p (-1) (-1)) q (-1) (-1)) p 2 = -1 := by
          rw [bPut_man (by omega) (by omega), if_neg (by omega), if_neg (by omega), bPut_man (by omega) (by omega), if_pos ⟨rfl, rfl⟩]
        have hk3 := bPut_ok hk2 hp1.1 hp2' hf
        have hr3 := bPa_rp hk2 hr2 hp1.1 hp2' hm2 hf z
        rw [bPut_comm hne, bPut_put] at hk3 hr3
        refine ⟨bPa 2 p (bMan (σ 78) q 2) (bMan (σ 78) q 3) (bTk 2 q (bTk 2 p σ)), ?_, (bTk_w.tr bTk_w).tr bPa_w, by rw [bPa_78, bTk_78, bTk_78], hk3, hr3⟩
        rw [bEqF (by omega) (by omega) z, bCl (c_putAt hr2 hk2 hp1.1 hp2' (by omega) (by omega) (by omega) (by omega))]
    obtain ⟨σ3, s1, s2, s3, hk3, hr3⟩ := st1
    have w3 : ∀ a c a' c', bPut (bPut (σ 78) q a c) p a' c' 3 = σ 78 3 := fun a c a' c' => by rw [e3w _ _ _ _ hp1.1 (by omega), e3w _ _ _ _ hq1.1 (by omega)]
    have st2 : ∃ σ4 : on_S, pf_X9_swapPlaces_68 2 q (bMan (σ 78) p 2) (bMan (σ 78) p 3) σ3 = some (0, σ4) ∧ bSw σ σ4 ∧ σ4 78 = σ 78 ∧ bOk (bPut (bPut (σ 78) p (bMan (σ 78) q 2) (bMan (σ 78) q 3)) q (bMan (σ 78) p 2) (bMan (σ 78) p 3)) ∧ bRp 2 (bPut (bPut (σ 78) p (bMan (σ 78) q 2) (bMan (σ 78) q 3)) q (bMan (σ 78) p 2) (bMan (σ 78) p 3)) σ4 := by
      unfold pf_X9_swapPlaces_68
      by_cases z : bMan (σ 78) p 2 = -1
      · refine ⟨σ3, by rw [bEqT (by omega) z], s2, s3, ?_, ?_⟩
        · rw [show bMan (σ 78) p 3 = -1 by omega, z, bPut_comm hne]; exact hk3
        · rw [show bMan (σ 78) p 3 = -1 by omega, z, bPut_comm hne]; exact hr3
      · have hf : bFree (bPut (bPut (σ 78) q (-1) (-1)) p (bMan (σ 78) q 2) (bMan (σ 78) q 3)) q (bMan (σ 78) p 2) (bMan (σ 78) p 3) := by
          refine Or.inr ⟨by rw [e4w _ _ _ _ hp1.1 (by omega), e4w _ _ _ _ hq1.1 (by omega)]; omega, by omega, fun m' m0 m1 mne y => ?_⟩
          rw [w3] at m1
          rw [bPut_man (w := bPut (σ 78) q (-1) (-1)) (q := 2) (by omega) (by omega), bPut_man (w := bPut (σ 78) q (-1) (-1)) (q := 3) (by omega) (by omega)] at y
          by_cases mp : m' = p
          · rw [if_pos ⟨mp, rfl⟩, if_neg (by omega), if_pos ⟨mp, rfl⟩] at y
            exact hne (hI.k.d p q hp1.1 hp1.2 hq1.1 hq1.2 z y.1.symm y.2.symm)
          · rw [if_neg (by omega), if_neg (by omega), if_neg (by omega), if_neg (by omega), bPut_man (by omega) (by omega), bPut_man (by omega) (by omega), if_neg (by omega), if_neg (by omega), if_neg (by omega), if_neg (by omega)] at y
            exact mp (hI.k.d m' p m0 m1 hp1.1 hp1.2 (by omega) y.1 y.2)
        have hq2' : q < bPut (bPut (σ 78) q (-1) (-1)) p (bMan (σ 78) q 2) (bMan (σ 78) q 3) 3 := by rw [w3]; exact hq1.2
        have hm2 : bMan (bPut (bPut (σ 78) q (-1) (-1)) p (bMan (σ 78) q 2) (bMan (σ 78) q 3)) q 2 = -1 := by
          rw [bPut_man (by omega) (by omega), if_neg (by omega), if_neg (by omega), bPut_man (by omega) (by omega), if_pos ⟨rfl, rfl⟩]
        have hk4 := bPut_ok hk3 hq1.1 hq2' hf
        have hr4 := bPa_rp hk3 hr3 hq1.1 hq2' hm2 hf z
        rw [bPut_comm (fun y => hne y.symm), bPut_put] at hk4 hr4
        refine ⟨bPa 2 q (bMan (σ 78) p 2) (bMan (σ 78) p 3) σ3, ?_, s2.tr bPa_w, by rw [bPa_78, s3], ?_, ?_⟩
        · rw [bEqF (by omega) (by omega) z, bCl (c_putAt hr3 hk3 hq1.1 hq2' (by omega) (by omega) (by omega) (by omega))]
        · exact hk4
        · exact hr4
    obtain ⟨σ4, t1, t2, t3, hk4, hr4⟩ := st2
    have hkm : bOk (σ4 78) := by rw [t3]; exact hI.k
    refine ⟨0, σ4, bMp q (bMan (σ 78) p 2) (bMan (σ 78) p 3) (bMp p (bMan (σ 78) q 2) (bMan (σ 78) q 3) σ4), ?_, ?_, by omega, ?_⟩
    · unfold pf_X11_change pf_X9_swapPlaces
      rw [bCl (c_hasTwoMen hI.k hI.r hp hq), bE01, if_pos ⟨hp1, hq1, hne⟩, bRd hp1.1 (by omega), bRd hp1.1 (by omega), bRd hq1.1 (by omega), bRd hq1.1 (by omega), e3, e4, g3, g4, bCl (c_takeAway hI.k hI.r hp1.1 hp1.2), bCl (c_takeAway hk1 hr1 hq1.1 hq1'), s1, t1]; rfl
    · unfold pf_X12_change
      rw [bCl (m_areMen hkm hp hq), bE01, t3, if_pos ⟨hp1, hq1, hne⟩, bCl (m_ofMan hp1.1 (by omega) (by omega) (by omega)), bCl (m_ofMan hp1.1 (by omega) (by omega) (by omega)), bCl (m_ofMan hq1.1 (by omega) (by omega) (by omega)), bCl (m_ofMan hq1.1 (by omega) (by omega) (by omega)), t3, bCl (m_putAt hp1.1 (by omega) (by omega) (by omega)), bCl (m_putAt hq1.1 (by omega) (by omega) (by omega))]
    · exact hI.put t2 ((bMp_m _ _ _ _).tr (bMp_m _ _ _ _)) hk4 hr4 (by rw [bMp_78, bMp_78, t3])
  · refine bOp.no (r := -2) hI (by omega) ?_ ?_
    · unfold pf_X11_change
      rw [bCl (c_hasTwoMen hI.k hI.r hp hq), bE01, if_neg h]
    · unfold pf_X12_change
      rw [bCl (m_areMen hI.k hp hq), bE01, if_neg h]
def bHarm (w : bW) (m : Int) : Int := bAll w - bAll (bPut w m (-1) (-1))
theorem bHarm_b {w : bW} (hk : bOk w) {m : Int} (m0 : 0 ≤ m) (m1 : m < w 3) : -792 ≤ bHarm w m ∧ bHarm w m ≤ 792 := by
  have a := bAll_b hk
  have b := bAll_b (bPut_ok hk m0 m1 (n := -1) (c := -1) (Or.inl ⟨rfl, rfl⟩))
  unfold bHarm; omega
theorem c_harmOf (hk : bOk (σ 78)) (hR : bRp 2 (σ 78) σ) {m : Int} (m0 : 0 ≤ m) (m1 : m < σ 78 3) : pf_X11_harmOf m σ = some (bHarm (σ 78) m, σ) := by
  obtain ⟨q0, q1, q2, q3, q4, q5, q6, q7⟩ := hk.c
  obtain ⟨e1, e2, e3, e4⟩ := hR.m m m0 m1
  have hm := (hk.m m m0 m1).2.2
  unfold pf_X11_harmOf bHarm
  rw [bRd m0 (by omega), bRd m0 (by omega), e3, e4]
  by_cases z : bMan (σ 78) m 2 = -1
  · have : bPut (σ 78) m (-1) (-1) = σ 78 := by
      have h := bPut_self (w := σ 78) (m := m)
      rw [show bMan (σ 78) m 3 = -1 by omega, z] at h
      exact h
    rw [bEqT (by omega) z, this, Int.sub_self]
  · have hk1 := bPut_ok hk m0 m1 (n := -1) (c := -1) (Or.inl ⟨rfl, rfl⟩)
    have hr1 := bTk_rp hk hR m0 m1
    have e3w : bPut (σ 78) m (-1) (-1) 3 = σ 78 3 := bPut_rg (l := 0) (h := 8) m0 (by omega) (by omega) 3 (by omega) (by omega)
    rw [bEqF (by omega) (by omega) z, bCl (c_allCarry hk hR), bCl (c_takeAway hk hR m0 m1), bCl (c_allCarry hk1 hr1), bCl (c_putAt hr1 hk1 m0 (by rw [e3w]; exact m1) (by omega) (by omega) (by omega) (by omega)), bPa_Tk hk hR m0 m1 z]
theorem m_harmOf (hk : bOk (σ 78)) {m : Int} (m0 : 0 ≤ m) (m1 : m < σ 78 3) : bK (pf_X12_harmOf m σ) σ (bHarm (σ 78) m) := by
  obtain ⟨q0, q1, q2, q3, q4, q5, q6, q7⟩ := hk.c
  have hm := (hk.m m m0 m1).2.2
  obtain ⟨σ1, a1, s1⟩ := m_allCarry hk
  have hk1 := bPut_ok hk m0 m1 (n := -1) (c := -1) (Or.inl ⟨rfl, rfl⟩)
  have h2 : bMp m (-1) (-1) σ1 78 = bPut (σ 78) m (-1) (-1) := by rw [bMp_78, s1.w]
  obtain ⟨σ3, a3, s3⟩ := m_allCarry (σ := bMp m (-1) (-1) σ1) (by rw [h2]; exact hk1)
  have hw1 := s1.w
  refine ⟨bMp m (bMan (σ 78) m 2) (bMan (σ 78) m 3) σ3, ?_, ?_⟩
  · unfold pf_X12_harmOf bHarm
    rw [bCl a1, bCl (m_ofMan m0 (by omega) (by omega) (by omega)), bCl (m_ofMan m0 (by omega) (by omega) (by omega)), hw1, bCl (m_putAt m0 (by omega) (by omega) (fun _ => rfl)), bCl a3, h2, bCl (m_putAt m0 (by omega) (by omega) (by omega))]
  · refine (((s1.sm.tr (bMp_m _ _ _ _)).tr s3.sm).tr (bMp_m _ _ _ _)).s ?_
    rw [bMp_78, s3.w, h2, bPut_put, bPut_self]
theorem o_harm (hI : bI n σ) (hp : on_R p) : bOp n σ (pf_X11_harm p) (pf_X12_harm p) := by
  refine bOp.ro (r := if 0 ≤ p ∧ p < σ 78 3 then bHarm (σ 78) p else -1000) hI ?_ ?_ ?_
  · split
    · rename_i h
      have := bHarm_b hI.k h.1 h.2
      omega
    · omega
  · unfold pf_X11_harm
    rw [bCl (c_hasMan hI.k hI.r hp), bE01]
    split
    · rename_i h
      rw [bCl (c_harmOf hI.k hI.r h.1 h.2)]; exact bK.of rfl
    · exact bK.of rfl
  · intro σ1 h1 e _
    rw [← e]
    unfold pf_X12_harm
    rw [bCl (m_isMan h1.k hp), bE01]
    split
    · rename_i h
      obtain ⟨σ2, a, s⟩ := m_harmOf h1.k h.1 h.2
      rw [bCl a]; exact ⟨_, rfl, s⟩
    · exact bK.of rfl
def bKeyR (w : bW) : Nat → Int → Int → Int
  | 0, _, a => a
  | r + 1, k, a => bKeyR w r (k + 1) (if a = -1 ∨ bHarm w a < bHarm w k then k else a)
theorem bKeyR_b {w : bW} : ∀ (r : Nat) (k a : Int), 0 ≤ k → -1 ≤ a → a < k + (r : Int) → -1 ≤ bKeyR w r k a ∧ (bKeyR w r k a < k + (r : Int) ∨ bKeyR w r k a = a) := by
  intro r
  induction r with
  | zero => intro k a _ h _; exact ⟨h, Or.inr rfl⟩
  | succ r ih =>
    intro k a k0 h h2
    rw [bKeyR]
    split
    · have := ih (k + 1) k (by omega) (by omega) (by omega)
      omega
    · have := ih (k + 1) a (by omega) h (by omega)
      omega
theorem o_key (hI : bI n σ) : bOp n σ pf_X11_key pf_X12_key := by
  obtain ⟨q0, q1, q2, q3, q4, q5, q6, q7⟩ := hI.k.c
  refine bOp.ro (r := if 0 < σ 78 7 then bKeyR (σ 78) (σ 78 3).toNat 0 (-1) else -2) hI ?_ ?_ ?_
  · have := bKeyR_b (w := σ 78) (σ 78 3).toNat 0 (-1) (by omega) (by omega) (by omega)
    split <;> omega
  · unfold pf_X11_key
    rw [bCl (c_isThere hI.k hI.r), bE01]
    split
    · have L : ∀ (r nf : Nat) (k a v : Int), 0 ≤ k → k + (r : Int) = σ 78 3 → r < nf → (-1 ≤ a ∧ a < k) → (a ≠ -1 → v = bHarm (σ 78) a) → pf_X11_key_19 nf a v k σ = some (bKeyR (σ 78) r k a, σ) := by
        intro r
        induction r with
        | zero =>
          intro nf k a v k0 hk1 hn ha hv
          cases nf with
          | zero => omega
          | succ nf => rw [pf_X11_key_19, bGt, hI.r.c.2.2.2.2.2.1, bLtF (by omega) (by omega) (by omega)]; rfl
        | succ r ih =>
          intro nf k a v k0 hk1 hn ha hv
          cases nf with
          | zero => omega
          | succ nf =>
            have hb := bHarm_b hI.k k0 (show k < σ 78 3 by omega)
            rw [pf_X11_key_19, bGt, hI.r.c.2.2.2.2.2.1, bLtT (by omega) (by omega) (by omega), bCl (c_harmOf hI.k hI.r k0 (by omega)), bKeyR]
            unfold pf_X11_key_51
            by_cases z : a = -1
            · rw [bEqT (by omega) z, if_pos (Or.inl z)]
              exact ih nf (k + 1) k _ (by omega) (by omega) (by omega) (by omega) (fun _ => rfl)
            · have hv2 := hv z
              have hb2 := bHarm_b hI.k (m := a) (by omega) (by omega)
              rw [bEqF (by omega) (by omega) z]
              by_cases y : bHarm (σ 78) k ≤ v
              · rw [bLeT (by omega) (by omega) y, if_neg (by omega)]
                exact ih nf (k + 1) a v (by omega) (by omega) (by omega) (by omega) hv
              · rw [bLeF (by omega) (by omega) (by omega), if_pos (by omega)]
                exact ih nf (k + 1) k _ (by omega) (by omega) (by omega) (by omega) (fun _ => rfl)
      exact bK.of (L (σ 78 3).toNat on_N 0 (-1) 0 (by omega) (by omega) (by unfold on_N; omega) (by omega) (fun z => absurd rfl z))
    · exact bK.of rfl
  · intro σ1 h1 e _
    rw [← e] at q3 ⊢
    unfold pf_X12_key
    rw [bCl (m_isStreet h1.k), bE01]
    split
    · have L : ∀ (r nf : Nat) (k a : Int) (σ' : on_S), bS σ1 σ' → 0 ≤ k → k + (r : Int) = σ1 78 3 → r < nf → (-1 ≤ a ∧ a < k) → bK (pf_X12_key_14 nf a k σ') σ1 (bKeyR (σ1 78) r k a) := by
        intro r
        induction r with
        | zero =>
          intro nf k a σ' hs k0 hk1 hn ha
          cases nf with
          | zero => omega
          | succ nf => rw [pf_X12_key_14, bRd (by omega) (by omega), hs.w, bLtF (by omega) (by omega) (by omega)]; exact ⟨_, rfl, hs⟩
        | succ r ih =>
          intro nf k a σ' hs k0 hk1 hn ha
          cases nf with
          | zero => omega
          | succ nf =>
            have hw := hs.w
            have hk' : bOk (σ' 78) := by rw [hw]; exact h1.k
            have hb := bHarm_b h1.k k0 (show k < σ1 78 3 by omega)
            rw [pf_X12_key_14, bRd (by omega) (by omega), hw, bLtT (by omega) (by omega) (by omega), bKeyR]
            unfold pf_X12_key_42
            by_cases z : a = -1
            · rw [bEqT (by omega) z, if_pos (Or.inl z)]
              exact ih nf (k + 1) k σ' hs (by omega) (by omega) (by omega) (by omega)
            · have hb2 := bHarm_b h1.k (m := a) (by omega) (by omega)
              obtain ⟨σ2, a2, s2⟩ := m_harmOf hk' k0 (by rw [hw]; omega)
              have hw2 : σ2 78 = σ1 78 := by rw [s2.w, hw]
              obtain ⟨σ3, a3, s3⟩ := m_harmOf (σ := σ2) (by rw [hw2]; exact h1.k) (m := a) (by omega) (by rw [hw2]; omega)
              rw [bEqF (by omega) (by omega) z, bCl a2, bCl a3, hw, hw2]
              by_cases y : bHarm (σ1 78) k ≤ bHarm (σ1 78) a
              · rw [bLeT (by omega) (by omega) y, if_neg (by omega)]
                exact ih nf (k + 1) a σ3 ((hs.tr s2).tr s3) (by omega) (by omega) (by omega) (by omega)
              · rw [bLeF (by omega) (by omega) (by omega), if_pos (by omega)]
                exact ih nf (k + 1) k σ3 ((hs.tr s2).tr s3) (by omega) (by omega) (by omega) (by omega)
      exact L (σ1 78 3).toNat on_N 0 (-1) σ1 (bS.rf σ1) (by omega) (by omega) (by unfold on_N; omega) (by omega)
    · exact bK.of rfl
/-- a man at a free corner: the best so far, and what is carried by it -/
def bHlI (w : bW) (m : Int) : Nat → Int → Int × Int → Int × Int
  | 0, _, s => s
  | r + 1, k, s => bHlI w m r (k + 1) (if bManAt w (k / 4) (k % 4) = -1 ∧ s.2 < bAll (bPut w m (k / 4) (k % 4)) then (((100 * m) + (10 * (k / 4))) + k % 4, bAll (bPut w m (k / 4) (k % 4))) else s)
def bHlO (w : bW) : Nat → Int → Int × Int → Int × Int
  | 0, _, s => s
  | r + 1, k, s => bHlO w r (k + 1) (if bMan w k 2 = -1 then bHlI w k (4 * w 4).toNat 0 s else s)
def bHlB (s : Int × Int) : Prop := (-1 ≤ s.1 ∧ s.1 ≤ 1000) ∧ (0 ≤ s.2 ∧ s.2 ≤ 792)
theorem bFree_of {w : bW} (hk : bOk w) {m a c : Int} (a0 : 0 ≤ a) (a1 : a < w 4) (c0 : 0 ≤ c) (c1 : c < 4) (h : bManAt w a c = -1) : bFree w m a c := by
  refine Or.inr ⟨⟨a0, a1⟩, ⟨c0, c1⟩, fun m' m0 m1 _ z => ?_⟩
  have := bManAt_of hk.c hk.d (by omega) m0 m1 z.1 z.2
  omega
theorem bHlI_b {w : bW} (hk : bOk w) {m : Int} (m0 : 0 ≤ m) (m1 : m < w 3) : ∀ (r : Nat) (k : Int) (s : Int × Int), 0 ≤ k → k + (r : Int) = 4 * w 4 → bHlB s → bHlB (bHlI w m r k s) := by
  obtain ⟨q0, q1, q2, q3, q4, q5, q6, q7⟩ := hk.c
  intro r
  induction r with
  | zero => intro k s _ _ h; exact h
  | succ r ih =>
    intro k s k0 hk1 h
    rw [bHlI]
    refine ih (k + 1) _ (by omega) (by omega) ?_
    split
    · rename_i z
      have hf := bFree_of hk (m := m) (show 0 ≤ k / 4 by omega) (by omega) (show 0 ≤ k % 4 by omega) (by omega) z.1
      have hb := bAll_b (bPut_ok hk m0 m1 hf)
      exact ⟨⟨by show -1 ≤ ((100 * m) + (10 * (k / 4))) + k % 4; omega, by show ((100 * m) + (10 * (k / 4))) + k % 4 ≤ 1000; omega⟩, hb⟩
    · exact h
theorem bHlO_b {w : bW} (hk : bOk w) : ∀ (r : Nat) (k : Int) (s : Int × Int), 0 ≤ k → k + (r : Int) = w 3 → bHlB s → bHlB (bHlO w r k s) := by
  obtain ⟨q0, q1, q2, q3, q4, q5, q6, q7⟩ := hk.c
  intro r
  induction r with
  | zero => intro k s _ _ h; exact h
  | succ r ih =>
    intro k s k0 hk1 h
    rw [bHlO]
    refine ih (k + 1) _ (by omega) (by omega) ?_
    split
    · exact bHlI_b hk k0 (by omega) _ _ _ (by omega) (by omega) h
    · exact h
theorem c_carriedWith (hk : bOk (σ 78)) (hR : bRp 2 (σ 78) σ) {m k : Int} (m0 : 0 ≤ m) (m1 : m < σ 78 3) (h2 : bMan (σ 78) m 2 = -1) (k0 : 0 ≤ k) (k1 : k < 4 * σ 78 4) : pf_X11_carriedWith m k σ = some (if bManAt (σ 78) (k / 4) (k % 4) = -1 then bAll (bPut (σ 78) m (k / 4) (k % 4)) else 0, σ) := by
  obtain ⟨q0, q1, q2, q3, q4, q5, q6, q7⟩ := hk.c
  have hh := hR.h (k / 4) (k % 4) (by omega) (by omega) (by omega) (by omega)
  rw [show k / 4 * 4 + k % 4 = k by omega] at hh
  have hb := bManAt_b hk.c (k / 4) (k % 4)
  unfold pf_X11_carriedWith
  rw [bRd k0 (by omega), hh]
  by_cases z : bManAt (σ 78) (k / 4) (k % 4) = -1
  · have hf := bFree_of hk (m := m) (show 0 ≤ k / 4 by omega) (by omega) (show 0 ≤ k % 4 by omega) (by omega) z
    have hk1 := bPut_ok hk m0 m1 hf
    have hr1 := bPa_rp hk hR m0 m1 h2 hf (by omega)
    have e3w : bPut (σ 78) m (k / 4) (k % 4) 3 = σ 78 3 := bPut_rg (l := 0) (h := 8) m0 (by omega) (by omega) 3 (by omega) (by omega)
    rw [bEqT (by omega) z, if_pos z, bDv k0 (by omega) (by omega) (by omega), bRm k0 (by omega) (by omega) (by omega), bCl (c_putAt hR hk m0 m1 (by omega) (by omega) (by omega) (by omega)), bCl (c_allCarry hk1 hr1), bCl (c_takeAway hk1 hr1 m0 (by rw [e3w]; exact m1)), bTk_Pa hk hR m0 m1 h2 (by omega) (by omega) (by omega) (by omega) z]
  · rw [bEqF (by omega) (by omega) z, if_neg z]
theorem o_helps (hI : bI n σ) : bOp n σ pf_X11_helps pf_X12_helps := by
  obtain ⟨q0, q1, q2, q3, q4, q5, q6, q7⟩ := hI.k.c
  have hA := bAll_b hI.k
  have hB0 : bHlB (-1, bAll (σ 78)) := ⟨⟨by show (-1 : Int) ≤ -1; omega, by show (-1 : Int) ≤ 1000; omega⟩, hA⟩
  refine bOp.ro (r := if 0 < σ 78 7 then (bHlO (σ 78) (σ 78 3).toNat 0 (-1, bAll (σ 78))).1 else -2) hI ?_ ?_ ?_
  · have := (bHlO_b hI.k (σ 78 3).toNat 0 (-1, bAll (σ 78)) (by omega) (by omega) hB0).1
    split <;> omega
  · unfold pf_X11_helps
    rw [bCl (c_isThere hI.k hI.r), bE01]
    split
    · have LI : ∀ (k25 : Int → Int → Int → on_S → Option on_O) (m : Int), 0 ≤ m → m < σ 78 3 → bMan (σ 78) m 2 = -1 → ∀ (r nf : Nat) (k : Int) (s : Int × Int), 0 ≤ k → k + (r : Int) = 4 * σ 78 4 → r < nf → bHlB s → pf_X11_helps_61 k25 nf s.1 s.2 m k σ = k25 (bHlI (σ 78) m r k s).1 (bHlI (σ 78) m r k s).2 (m + 1) σ := by
        intro k25 m m0 m1 h2 r
        induction r with
        | zero =>
          intro nf k s k0 hk1 hn hb
          cases nf with
          | zero => omega
          | succ nf => rw [pf_X11_helps_61, bGt, hI.r.c.2.2.2.2.2.2.1, bLtF (by omega) (by omega) (by omega)]; rfl
        | succ r ih =>
          intro nf k s k0 hk1 hn hb
          cases nf with
          | zero => omega
          | succ nf =>
            obtain ⟨hb1, hb2⟩ := id hb
            have hnx := bHlI_b hI.k m0 m1 1 (4 * σ 78 4 - 1) s
            rw [pf_X11_helps_61, bGt, hI.r.c.2.2.2.2.2.2.1, bLtT (by omega) (by omega) (by omega), bCl (c_carriedWith hI.k hI.r m0 m1 h2 k0 (by omega)), bHlI]
            by_cases z : bManAt (σ 78) (k / 4) (k % 4) = -1
            · have hf := bFree_of hI.k (m := m) (show 0 ≤ k / 4 by omega) (by omega) (show 0 ≤ k % 4 by omega) (by omega) z
              have hbb := bAll_b (bPut_ok hI.k m0 m1 hf)
              rw [if_pos z]
              by_cases y : bAll (bPut (σ 78) m (k / 4) (k % 4)) ≤ s.2
              · rw [bLeT (by omega) (by omega) y, if_neg (by omega)]
                exact ih nf (k + 1) s (by omega) (by omega) (by omega) hb
              · rw [bLeF (by omega) (by omega) (by omega), if_pos ⟨z, by omega⟩, bDv k0 (by omega) (by omega) (by omega), bRm k0 (by omega) (by omega) (by omega)]
                exact ih nf (k + 1) (((100 * m) + (10 * (k / 4))) + k % 4, bAll (bPut (σ 78) m (k / 4) (k % 4))) (by omega) (by omega) (by omega) ⟨⟨by show -1 ≤ ((100 * m) + (10 * (k / 4))) + k % 4; omega, by show ((100 * m) + (10 * (k / 4))) + k % 4 ≤ 1000; omega⟩, hbb⟩
            · rw [if_neg z, bLeT (by omega) (by omega) hb2.1, if_neg (fun y => z y.1)]
              exact ih nf (k + 1) s (by omega) (by omega) (by omega) hb
      have LO : ∀ (r nf : Nat) (k : Int) (s : Int × Int), 0 ≤ k → k + (r : Int) = σ 78 3 → r < nf → bHlB s → pf_X11_helps_25 nf s.1 s.2 k σ = some ((bHlO (σ 78) r k s).1, σ) := by
        intro r
        induction r with
        | zero =>
          intro nf k s k0 hk1 hn hb
          cases nf with
          | zero => omega
          | succ nf => rw [pf_X11_helps_25, bGt, hI.r.c.2.2.2.2.2.1, bLtF (by omega) (by omega) (by omega)]; rfl
        | succ r ih =>
          intro nf k s k0 hk1 hn hb
          cases nf with
          | zero => omega
          | succ nf =>
            have hm := (hI.k.m k k0 (by omega)).2.2
            rw [pf_X11_helps_25, bGt, hI.r.c.2.2.2.2.2.1, bLtT (by omega) (by omega) (by omega), bRd k0 (by omega), (hI.r.m k k0 (by omega)).2.2.1, bHlO]
            by_cases z : bMan (σ 78) k 2 = -1
            · rw [bEqT (by omega) z, if_pos z, LI _ k k0 (by omega) z (4 * σ 78 4).toNat on_N 0 s (by omega) (by omega) (by unfold on_N; omega) hb]
              exact ih nf (k + 1) _ (by omega) (by omega) (by omega) (bHlI_b hI.k k0 (by omega) _ _ _ (by omega) (by omega) hb)
            · rw [bEqF (by omega) (by omega) z, if_neg z]
              exact ih nf (k + 1) s (by omega) (by omega) (by omega) hb
      rw [bCl (c_allCarry hI.k hI.r)]
      exact bK.of (LO (σ 78 3).toNat on_N 0 (-1, bAll (σ 78)) (by omega) (by omega) (by unfold on_N; omega) hB0)
    · exact bK.of rfl
  · intro σ1 h1 e _
    rw [← e] at q3 q4 hB0 ⊢
    unfold pf_X12_helps
    rw [bCl (m_isStreet h1.k), bE01]
    split
    · have LI : ∀ (k19 : Int → Int → Int → on_S → Option on_O) (m : Int), 0 ≤ m → m < σ1 78 3 → bMan (σ1 78) m 2 = -1 → ∀ (r nf : Nat) (k : Int) (s : Int × Int) (σ' : on_S), bS σ1 σ' → 0 ≤ k → k + (r : Int) = 4 * σ1 78 4 → r < nf → bHlB s → ∃ σ'', bS σ1 σ'' ∧ pf_X12_helps_45 k19 nf s.2 s.1 m k σ' = k19 (bHlI (σ1 78) m r k s).2 (bHlI (σ1 78) m r k s).1 (m + 1) σ'' := by
        intro k19 m m0 m1 h2 r
        have h3 : bMan (σ1 78) m 3 = -1 := by
          have := (h1.k.m m m0 m1).2.2
          omega
        induction r with
        | zero =>
          intro nf k s σ' hs k0 hk1 hn hb
          cases nf with
          | zero => omega
          | succ nf => exact ⟨σ', hs, by rw [pf_X12_helps_45, bRd (by omega) (by omega), hs.w, bLtF (by omega) (by omega) (by omega)]; rfl⟩
        | succ r ih =>
          intro nf k s σ' hs k0 hk1 hn hb
          cases nf with
          | zero => omega
          | succ nf =>
            obtain ⟨hb1, hb2⟩ := id hb
            have hw := hs.w
            have hk' : bOk (σ' 78) := by rw [hw]; exact h1.k
            have hat := bManAt_b h1.k.c (k / 4) (k % 4)
            rw [pf_X12_helps_45, bRd (by omega) (by omega), hw, bLtT (by omega) (by omega) (by omega), bDv k0 (by omega) (by omega) (by omega), bRm k0 (by omega) (by omega) (by omega), bCl (m_manAt hk' (by omega) (by omega)), hw, bHlI]
            by_cases z : bManAt (σ1 78) (k / 4) (k % 4) = -1
            · have hf := bFree_of h1.k (m := m) (show 0 ≤ k / 4 by omega) (by omega) (show 0 ≤ k % 4 by omega) (by omega) z
              have hkp := bPut_ok h1.k m0 m1 hf
              have hbb := bAll_b hkp
              have e78 : bMp m (k / 4) (k % 4) σ' 78 = bPut (σ1 78) m (k / 4) (k % 4) := by rw [bMp_78, hw]
              obtain ⟨σ3, a3, s3⟩ := m_allCarry (σ := bMp m (k / 4) (k % 4) σ') (by rw [e78]; exact hkp)
              have s4 : bS σ1 (bMp m (-1) (-1) σ3) := by
                refine (((hs.sm.tr (bMp_m _ _ _ _)).tr s3.sm).tr (bMp_m _ _ _ _)).s ?_
                have h := bPut_self (w := σ1 78) (m := m)
                rw [h2, h3] at h
                rw [bMp_78, s3.w, e78, bPut_put, h]
              rw [bEqT (by omega) z, bDv k0 (by omega) (by omega) (by omega), bRm k0 (by omega) (by omega) (by omega), bCl (m_putAt m0 (by omega) (by omega) (by omega)), bCl a3, e78, bCl (m_putAt m0 (by omega) (by omega) (fun _ => rfl))]
              by_cases y : bAll (bPut (σ1 78) m (k / 4) (k % 4)) ≤ s.2
              · rw [bLeT (by omega) (by omega) y, if_neg (by omega)]
                exact ih nf (k + 1) s _ s4 (by omega) (by omega) (by omega) hb
              · rw [bLeF (by omega) (by omega) (by omega), if_pos ⟨z, by omega⟩, bDv k0 (by omega) (by omega) (by omega), bRm k0 (by omega) (by omega) (by omega)]
                exact ih nf (k + 1) (((100 * m) + (10 * (k / 4))) + k % 4, bAll (bPut (σ1 78) m (k / 4) (k % 4))) _ s4 (by omega) (by omega) (by omega) ⟨⟨by show -1 ≤ ((100 * m) + (10 * (k / 4))) + k % 4; omega, by show ((100 * m) + (10 * (k / 4))) + k % 4 ≤ 1000; omega⟩, hbb⟩
            · rw [bEqF (by omega) (by omega) z, if_neg (fun y => z y.1)]
              exact ih nf (k + 1) s σ' hs (by omega) (by omega) (by omega) hb
      have LO : ∀ (r nf : Nat) (k : Int) (s : Int × Int) (σ' : on_S), bS σ1 σ' → 0 ≤ k → k + (r : Int) = σ1 78 3 → r < nf → bHlB s → bK (pf_X12_helps_19 nf s.2 s.1 k σ') σ1 (bHlO (σ1 78) r k s).1 := by
        intro r
        induction r with
        | zero =>
          intro nf k s σ' hs k0 hk1 hn hb
          cases nf with
          | zero => omega
          | succ nf => rw [pf_X12_helps_19, bRd (by omega) (by omega), hs.w, bLtF (by omega) (by omega) (by omega)]; exact ⟨_, rfl, hs⟩
        | succ r ih =>
          intro nf k s σ' hs k0 hk1 hn hb
          cases nf with
          | zero => omega
          | succ nf =>
            have hm := (h1.k.m k k0 (by omega)).2.2
            have hw := hs.w
            rw [pf_X12_helps_19, bRd (by omega) (by omega), hw, bLtT (by omega) (by omega) (by omega), bCl (m_ofMan k0 (by omega) (by omega) (by omega)), hw, bHlO]
            by_cases z : bMan (σ1 78) k 2 = -1
            · obtain ⟨σ'', g1, g2⟩ := LI (pf_X12_helps_19 nf) k k0 (by omega) z (4 * σ1 78 4).toNat on_N 0 s σ' hs (by omega) (by omega) (by unfold on_N; omega) hb
              rw [bEqT (by omega) z, if_pos z, g2]
              exact ih nf (k + 1) _ σ'' g1 (by omega) (by omega) (by omega) (bHlI_b h1.k k0 (by omega) _ _ _ (by omega) (by omega) hb)
            · rw [bEqF (by omega) (by omega) z, if_neg z]
              exact ih nf (k + 1) s σ' hs (by omega) (by omega) (by omega) hb
      obtain ⟨σ2, a2, s2⟩ := m_allCarry h1.k
      rw [bCl a2]
      exact LO (σ1 78 3).toNat on_N 0 (-1, bAll (σ1 78)) σ2 s2 (by omega) (by omega) (by unfold on_N; omega) hB0
    · exact bK.of rfl
end O39
