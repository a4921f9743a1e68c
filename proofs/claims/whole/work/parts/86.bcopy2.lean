/-! B: a street copied and cleared, in the class; a row that is the same in all its places -/
section O86
variable {w w' : bW} {b p n : Nat} {σ σ' : on_S}
theorem c_copyFrom (hk : bOk w) (hd : b + 24 < p ∨ p + 24 < b) (hb : b ≠ 27) (hR : bRp p w σ) : ∃ σ' : on_S, pf_X9_copyFrom b p σ = some (0, σ') ∧ (∀ c, (c < b ∨ b + 23 < c) → σ' c = σ c) ∧ bRp b w σ' := by
  obtain ⟨q0, q1, q2, q3, q4, q5, q6, q7⟩ := hk.c
  obtain ⟨r0, r1, r2, r3, r4, r5, r6, r7⟩ := hR.c
  unfold pf_X9_copyFrom
  rw [bGt, r0, bPt, bGt, bst_nc (by omega), r1, bPt, bGt, bst_nc (by omega), bst_nc (by omega), r2, bPt, bGt, bst_nc (by omega), bst_nc (by omega), bst_nc (by omega), r3, bPt, bGt, bst_nc (by omega), bst_nc (by omega), bst_nc (by omega), bst_nc (by omega), r4, bPt]
  have s1 : ∀ c, c ≠ b → on_st (on_st (on_st (on_st (on_st σ b 0 (w 0)) b 1 (w 1)) b 2 (w 7)) b 3 (w 2)) b 7 (w 5) c = σ c := fun c h => by rw [bst_nc h, bst_nc h, bst_nc h, bst_nc h, bst_nc h]
  have e10 : on_st (on_st (on_st (on_st (on_st σ b 0 (w 0)) b 1 (w 1)) b 2 (w 7)) b 3 (w 2)) b 7 (w 5) b 0 = w 0 := by rw [bst_ni (by omega), bst_ni (by omega), bst_ni (by omega), bst_ni (by omega), bst_eq]
  have e11 : on_st (on_st (on_st (on_st (on_st σ b 0 (w 0)) b 1 (w 1)) b 2 (w 7)) b 3 (w 2)) b 7 (w 5) b 1 = w 1 := by rw [bst_ni (by omega), bst_ni (by omega), bst_ni (by omega), bst_eq]
  have e12 : on_st (on_st (on_st (on_st (on_st σ b 0 (w 0)) b 1 (w 1)) b 2 (w 7)) b 3 (w 2)) b 7 (w 5) b 2 = w 7 := by rw [bst_ni (by omega), bst_ni (by omega), bst_eq]
  have e13 : on_st (on_st (on_st (on_st (on_st σ b 0 (w 0)) b 1 (w 1)) b 2 (w 7)) b 3 (w 2)) b 7 (w 5) b 3 = w 2 := by rw [bst_ni (by omega), bst_eq]
  have e17 : on_st (on_st (on_st (on_st (on_st σ b 0 (w 0)) b 1 (w 1)) b 2 (w 7)) b 3 (w 2)) b 7 (w 5) b 7 = w 5 := bst_eq
  generalize on_st (on_st (on_st (on_st (on_st σ b 0 (w 0)) b 1 (w 1)) b 2 (w 7)) b 3 (w 2)) b 7 (w 5) = S1 at *
  rw [bGt, e13, bCp (by omega) (by omega) (by omega) (by omega) (by omega)]
  have s2 : ∀ c, c ≠ b + 1 → on_cp S1 (p + 1) 0 (b + 1) 0 (w 2) c = S1 c := fun c h => bcp_nc h
  have e2 : ∀ i : Int, 0 ≤ i → i < w 2 → on_cp S1 (p + 1) 0 (b + 1) 0 (w 2) (b + 1) i = σ (p + 1) i := fun i i0 i1 => by rw [bcp_if, if_pos (by omega), s1 _ (by omega)]; congr 1; omega
  generalize on_cp S1 (p + 1) 0 (b + 1) 0 (w 2) = S2 at *
  rw [bGt, s2 _ (by omega), e13, bCp (by omega) (by omega) (by omega) (by omega) (by omega)]
  have s3 : ∀ c, c ≠ b + 2 → on_cp S2 (p + 2) 0 (b + 2) 0 (w 2) c = S2 c := fun c h => bcp_nc h
  have e3 : ∀ i : Int, 0 ≤ i → i < w 2 → on_cp S2 (p + 2) 0 (b + 2) 0 (w 2) (b + 2) i = σ (p + 2) i := fun i i0 i1 => by rw [bcp_if, if_pos (by omega), s2 _ (by omega), s1 _ (by omega)]; congr 1; omega
  generalize on_cp S2 (p + 2) 0 (b + 2) 0 (w 2) = S3 at *
  rw [bGt, s3 _ (by omega), s2 _ (by omega), e13, bCp (by omega) (by omega) (by omega) (by omega) (by omega)]
  have s4 : ∀ c, c ≠ b + 3 → on_cp S3 (p + 3) 0 (b + 3) 0 (w 2) c = S3 c := fun c h => bcp_nc h
  have e4 : ∀ i : Int, 0 ≤ i → i < w 2 → on_cp S3 (p + 3) 0 (b + 3) 0 (w 2) (b + 3) i = σ (p + 3) i := fun i i0 i1 => by rw [bcp_if, if_pos (by omega), s3 _ (by omega), s2 _ (by omega), s1 _ (by omega)]; congr 1; omega
  generalize on_cp S3 (p + 3) 0 (b + 3) 0 (w 2) = S4 at *
  rw [bGt, s4 _ (by omega), s3 _ (by omega), s2 _ (by omega), e17, bCp (by omega) (by omega) (by omega) (by omega) (by omega)]
  have s5 : ∀ c, c ≠ b + 4 → on_cp S4 (p + 4) 0 (b + 4) 0 (w 5) c = S4 c := fun c h => bcp_nc h
  have e5 : ∀ i : Int, 0 ≤ i → i < w 5 → on_cp S4 (p + 4) 0 (b + 4) 0 (w 5) (b + 4) i = σ (p + 4) i := fun i i0 i1 => by rw [bcp_if, if_pos (by omega), s4 _ (by omega), s3 _ (by omega), s2 _ (by omega), s1 _ (by omega)]; congr 1; omega
  generalize on_cp S4 (p + 4) 0 (b + 4) 0 (w 5) = S5 at *
  rw [bGt, s5 _ (by omega), s4 _ (by omega), s3 _ (by omega), s2 _ (by omega), e17, bCp (by omega) (by omega) (by omega) (by omega) (by omega)]
  have s6 : ∀ c, c ≠ b + 5 → on_cp S5 (p + 5) 0 (b + 5) 0 (w 5) c = S5 c := fun c h => bcp_nc h
  have e6 : ∀ i : Int, 0 ≤ i → i < w 5 → on_cp S5 (p + 5) 0 (b + 5) 0 (w 5) (b + 5) i = σ (p + 5) i := fun i i0 i1 => by rw [bcp_if, if_pos (by omega), s5 _ (by omega), s4 _ (by omega), s3 _ (by omega), s2 _ (by omega), s1 _ (by omega)]; congr 1; omega
  generalize on_cp S5 (p + 5) 0 (b + 5) 0 (w 5) = S6 at *
  rw [bCp (by omega) (by omega) (by omega) (by omega) (by omega)]
  have s7 : ∀ c, c ≠ b + 6 → on_cp S6 (p + 6) 0 (b + 6) 0 ((16 : Nat) : Int) c = S6 c := fun c h => bcp_nc h
  have e7 : ∀ i : Int, 0 ≤ i → i < 16 → on_cp S6 (p + 6) 0 (b + 6) 0 ((16 : Nat) : Int) (b + 6) i = σ (p + 6) i := fun i i0 i1 => by rw [bcp_if, if_pos (by omega), s6 _ (by omega), s5 _ (by omega), s4 _ (by omega), s3 _ (by omega), s2 _ (by omega), s1 _ (by omega)]; congr 1; omega
  generalize on_cp S6 (p + 6) 0 (b + 6) 0 ((16 : Nat) : Int) = S7 at *
  rw [bCp (by omega) (by omega) (by omega) (by omega) (by omega)]
  have s8 : ∀ c, c ≠ b + 7 → on_cp S7 (p + 7) 0 (b + 7) 0 ((16 : Nat) : Int) c = S7 c := fun c h => bcp_nc h
  have e8 : ∀ i : Int, 0 ≤ i → i < 16 → on_cp S7 (p + 7) 0 (b + 7) 0 ((16 : Nat) : Int) (b + 7) i = σ (p + 7) i := fun i i0 i1 => by rw [bcp_if, if_pos (by omega), s7 _ (by omega), s6 _ (by omega), s5 _ (by omega), s4 _ (by omega), s3 _ (by omega), s2 _ (by omega), s1 _ (by omega)]; congr 1; omega
  generalize on_cp S7 (p + 7) 0 (b + 7) 0 ((16 : Nat) : Int) = S8 at *
  have f8 : ∀ c, (c < b ∨ b + 7 < c) → S8 c = σ c := fun c hc => by rw [s8 c (by omega), s7 c (by omega), s6 c (by omega), s5 c (by omega), s4 c (by omega), s3 c (by omega), s2 c (by omega), s1 c (by omega)]
  have g8 : ∀ c, S8 (p + c) = σ (p + c) ∨ 24 < c := fun c => by
    by_cases h : c ≤ 24
    · exact Or.inl (f8 _ (by omega))
    · exact Or.inr (by omega)
  obtain ⟨S9, a1, a2, a3, a4, a5⟩ := c_copy3 (σ := S8) hd (by rw [f8 _ (by omega), r5]; exact q3)
  obtain ⟨S10, b1, b2, b3, b4, b5⟩ := c_copy4 (σ := S9) hd (by rw [a2 _ (by omega), f8 _ (by omega), r6]; exact q4)
  obtain ⟨S11, c1, c2, c3, c4, c5⟩ := c_copy2 (σ := S10) hd (by rw [b2 _ (by omega), a2 _ (by omega), f8 _ (by omega), r7]; exact q6)
  have t10 : ∀ c, (c < b ∨ b + 19 < c) → S10 c = σ c := fun c hc => by rw [b2 c (by omega), a2 c (by omega), f8 c (by omega)]
  have t9 : ∀ c, (c < b ∨ b + 13 < c) → S9 c = σ c := fun c hc => by rw [a2 c (by omega), f8 c (by omega)]
  have u8 : ∀ c, b ≤ c → c ≤ b + 7 → S11 c = S8 c := fun c h0 h1 => by rw [c2 c (by omega), b2 c (by omega), a2 c (by omega)]
  have u9 : ∀ c, b + 8 ≤ c → c ≤ b + 13 → S11 c = S9 c := fun c h0 h1 => by rw [c2 c (by omega), b2 c (by omega)]
  have u10 : ∀ c, b + 14 ≤ c → c ≤ b + 19 → S11 c = S10 c := fun c h0 h1 => by rw [c2 c (by omega)]
  rw [f8 (p + 8) (by omega)] at a3 a4
  rw [t9 (p + 14) (by omega)] at b3 b4
  rw [t10 (p + 20) (by omega)] at c3 c4 c5
  rw [r5] at a3 a4
  rw [r6] at b3 b4
  rw [r7] at c3 c4 c5
  have hb : S11 b = S1 b := by rw [u8 b (by omega) (by omega), s8 _ (by omega), s7 _ (by omega), s6 _ (by omega), s5 _ (by omega), s4 _ (by omega), s3 _ (by omega), s2 _ (by omega)]
  refine ⟨S11, by rw [bCl a1, bCl b1, bCl c1], fun c hc => by rw [c2 c (by omega), t10 c (by omega)], ⟨?_, ?_, ?_, ?_, ?_, ?_, ?_, ?_, ?_⟩⟩
  · unfold bRpC
    rw [hb, u9 _ (by omega) (by omega), u10 _ (by omega) (by omega), c3, a3, b3]
    exact ⟨e10, e11, e12, e13, e17, rfl, rfl, rfl⟩
  · intro k k0 k1
    have h := hR.wi k k0 k1
    rw [u8 _ (by omega) (by omega), u8 _ (by omega) (by omega), u8 _ (by omega) (by omega)]
    refine ⟨?_, ?_, ?_⟩
    · rw [s8 _ (by omega), s7 _ (by omega), s6 _ (by omega), s5 _ (by omega), s4 _ (by omega), s3 _ (by omega), e2 k k0 k1]; exact h.1
    · rw [s8 _ (by omega), s7 _ (by omega), s6 _ (by omega), s5 _ (by omega), s4 _ (by omega), e3 k k0 k1]; exact h.2.1
    · rw [s8 _ (by omega), s7 _ (by omega), s6 _ (by omega), s5 _ (by omega), e4 k k0 k1]; exact h.2.2
  · intro j j0 j1
    have h := hR.j j j0 j1
    rw [u8 _ (by omega) (by omega), u8 _ (by omega) (by omega)]
    refine ⟨?_, ?_⟩
    · rw [s8 _ (by omega), s7 _ (by omega), s6 _ (by omega), e5 j j0 j1]; exact h.1
    · rw [s8 _ (by omega), s7 _ (by omega), e6 j j0 j1]; exact h.2
  · intro x y x0 x1 y0 y1
    have h := hR.f x y x0 x1 y0 y1
    rw [u8 _ (by omega) (by omega), u8 _ (by omega) (by omega)]
    refine ⟨?_, ?_⟩
    · rw [s8 _ (by omega), e7 _ (by omega) (by omega)]; exact h.1
    · rw [e8 _ (by omega) (by omega)]; exact h.2
  · intro m m0 m1
    have h := hR.m m m0 m1
    obtain ⟨g1, g2, g3, g4⟩ := a4 m m0 m1
    rw [f8 _ (by omega)] at g1 g2 g3 g4
    rw [u9 _ (by omega) (by omega), u9 _ (by omega) (by omega), u9 _ (by omega) (by omega), u9 _ (by omega) (by omega), g1, g2, g3, g4]
    exact h
  · intro x y x0 x1 y0 y1
    rw [u9 _ (by omega) (by omega), a5 _ (by omega) (by omega), f8 _ (by omega)]
    exact hR.q x y x0 x1 y0 y1
  · intro m m0 m1
    obtain ⟨h1, h2, h3, h4⟩ := hR.n m m0 m1
    obtain ⟨g1, g2, g3⟩ := b4 m m0 m1
    rw [t9 _ (by omega)] at g1 g2 g3
    rw [u10 _ (by omega) (by omega), u10 _ (by omega) (by omega), u10 _ (by omega) (by omega), u10 _ (by omega) (by omega), g1, g2, g3]
    refine ⟨h1, h2, h3, fun c c0 c1 => ?_⟩
    rw [(b5 _ (by omega) (by omega)).1, t9 _ (by omega)]; exact h4 c c0 c1
  · intro m c m0 m1 c0 c1
    rw [u10 _ (by omega) (by omega), (b5 _ (by omega) (by omega)).2, t9 _ (by omega)]
    exact hR.h m c m0 ⟨m1.1, Or.inl (by omega)⟩ c0 c1
  · intro i i0 i1
    obtain ⟨h1, h2, h3⟩ := hR.p i i0 i1
    rw [(c4 i i0 i1).1, (c4 i i0 i1).2, t10 _ (by omega), t10 _ (by omega)]
    refine ⟨h1, h2, fun c c0 c1 => ?_⟩
    rw [c5 _ (by omega) (by omega), t10 _ (by omega)]; exact h3 c c0 c1
/-- rows alike in all 687 places say the same -/
theorem bOk.all (h : bOk w) (e : bRg w w' 0 687) : bOk w' := by
  have s : ∀ l u : Int, 0 ≤ l → u ≤ 687 → bRg w w' l u := fun l u hl hu => e.sub hl hu
  have a := s 0 8 (by omega) (by omega)
  exact ⟨h.c.rg a, h.wi.rg h.c a (s _ _ (by omega) (by omega)), h.m.rg h.c a (s _ _ (by omega) (by omega)), h.d.rg h.c a (s _ _ (by omega) (by omega)), h.n.rg h.c a (s _ _ (by omega) (by omega)), h.e.rg h.c a (s _ _ (by omega) (by omega)), h.q.rg (s _ _ (by omega) (by omega)), h.f.rg (s _ _ (by omega) (by omega)), h.j.rg h.c a (s _ _ (by omega) (by omega)), h.r.rg a (s _ _ (by omega) (by omega)), h.p.rg h.c a (bRg.netAt h.c a (s _ _ (by omega) (by omega))) (s _ _ (by omega) (by omega)) (s _ _ (by omega) (by omega))⟩
theorem bRp.all (hk : bOk w) (h : bRp b w σ) (e : bRg w w' 0 687) : bRp b w' σ := by
  have s : ∀ l u : Int, 0 ≤ l → u ≤ 687 → bRg w w' l u := fun l u hl hu => e.sub hl hu
  have a := s 0 8 (by omega) (by omega)
  have nA := bRg.netAt hk.c a (s 62 76 (by omega) (by omega))
  exact ⟨h.c.rg a rfl rfl rfl rfl, h.wi.rg hk.c a (s _ _ (by omega) (by omega)) nA rfl rfl rfl, h.j.rg hk.c a (s _ _ (by omega) (by omega)) rfl rfl, h.f.rg (s _ _ (by omega) (by omega)) (s _ _ (by omega) (by omega)) rfl rfl, h.m.rg hk.c a (s _ _ (by omega) (by omega)) rfl rfl rfl rfl, h.q.rg (s _ _ (by omega) (by omega)) rfl, h.n.rg hk.c a (s _ _ (by omega) (by omega)) rfl rfl rfl rfl, h.h.rg hk.c a (s _ _ (by omega) (by omega)) rfl, h.p.rg hk.c a (s _ _ (by omega) (by omega)) rfl rfl rfl⟩
theorem c_fillV {c N : Nat} {v : Int} (hN : N < 90000) (σ : on_S) : ∃ σ' : on_S, pf_J7_fill_53178 c N v σ = some (0, σ') ∧ (∀ x, x ≠ c → σ' x = σ x) ∧ ∀ i : Int, 0 ≤ i → i < (N : Int) → σ' c i = v := by
  have F : ∀ (r nf : Nat) (k : Int) (σ' : on_S), 0 ≤ k → k + (r : Int) = (N : Int) → r < nf → (∀ x, x ≠ c → σ' x = σ x) → (∀ i : Int, 0 ≤ i → i < k → σ' c i = v) → ∃ σ'' : on_S, pf_J7_fill_53178_5 c N nf v k (N : Int) σ' = some (0, σ'') ∧ (∀ x, x ≠ c → σ'' x = σ x) ∧ (∀ i : Int, 0 ≤ i → i < (N : Int) → σ'' c i = v) := by
    intro r
    induction r with
    | zero =>
      intro nf k σ' k0 hk' hnf h1 h2
      cases nf with
      | zero => omega
      | succ nf =>
        have : k = (N : Int) := by omega
        subst this
        exact ⟨σ', by rw [pf_J7_fill_53178_5, bLtF (by omega) (by omega) (by omega)], h1, h2⟩
    | succ r ih =>
      intro nf k σ' k0 hk' hnf h1 h2
      cases nf with
      | zero => omega
      | succ nf =>
        rw [pf_J7_fill_53178_5, bLtT (by omega) (by omega) (by omega), bWr k0 (by omega)]
        refine ih nf (k + 1) _ (by omega) (by omega) (by omega) (fun x hx => by rw [bst_nc hx]; exact h1 x hx) (fun i i0 i1 => ?_)
        rw [bst_if]
        by_cases e : i = k
        · rw [if_pos e]
        · rw [if_neg e]; exact h2 i i0 (by omega)
  unfold pf_J7_fill_53178
  exact F N on_N 0 σ (by omega) (by omega) (by unfold on_N; omega) (fun _ _ => rfl) (fun i i0 i1 => by omega)
/-- a street of which nothing is told -/
theorem bOk_zero (hz : ∀ i, 0 ≤ i → i < 687 → w i = 0) : bOk w := by
  have z : ∀ i, 0 ≤ i → i < 687 → w i = 0 := hz
  have z0 := z 0 (by omega) (by omega)
  have z1 := z 1 (by omega) (by omega)
  have z2 := z 2 (by omega) (by omega)
  have z3 := z 3 (by omega) (by omega)
  have z4 := z 4 (by omega) (by omega)
  have z5 := z 5 (by omega) (by omega)
  have z6 := z 6 (by omega) (by omega)
  have z7 := z 7 (by omega) (by omega)
  refine ⟨?_, fun k k0 k1 => by omega, fun k k0 k1 => by omega, fun k _ k0 k1 => by omega, fun k k0 k1 => by omega, fun k _ k0 k1 => by omega, ?_, ?_, fun k k0 k1 => by omega, ?_, fun k k0 k1 => by omega⟩
  · unfold bOkC; rw [z0, z1, z2, z3, z4, z5, z6, z7]; omega
  · intro a c a0 a1 c0 c1
    rw [show bQ w a c = 0 from z _ (by omega) (by omega), show bQ w c a = 0 from z _ (by omega) (by omega)]; omega
  · intro a c a0 a1 c0 c1
    exact Or.inl (z _ (by omega) (by omega))
  · intro a c a0 a1 c0 c1
    rw [show bRoad w a c = 0 from z _ (by omega) (by omega), show bRoad w c a = 0 from z _ (by omega) (by omega)]; omega
theorem c_clear (hz : ∀ i, 0 ≤ i → i < 687 → w i = 0) : ∃ σ' : on_S, pf_X9_clear b σ = some (0, σ') ∧ (∀ c, (c < b ∨ b + 24 < c) → σ' c = σ c) ∧ bRp b w σ' := by
  have z : ∀ i, 0 ≤ i → i < 687 → w i = 0 := hz
  have z0 := z 0 (by omega) (by omega)
  have z1 := z 1 (by omega) (by omega)
  have z2 := z 2 (by omega) (by omega)
  have z3 := z 3 (by omega) (by omega)
  have z4 := z 4 (by omega) (by omega)
  have z5 := z 5 (by omega) (by omega)
  have z6 := z 6 (by omega) (by omega)
  have z7 := z 7 (by omega) (by omega)
  unfold pf_X9_clear
  rw [bPt, bPt, bPt, bPt, bPt]
  have s1 : ∀ c, c ≠ b → on_st (on_st (on_st (on_st (on_st σ b 0 0) b 1 0) b 2 0) b 3 0) b 7 0 c = σ c := fun c h => by rw [bst_nc h, bst_nc h, bst_nc h, bst_nc h, bst_nc h]
  have e1 : ∀ i : Int, i = 0 ∨ i = 1 ∨ i = 2 ∨ i = 3 ∨ i = 7 → on_st (on_st (on_st (on_st (on_st σ b 0 0) b 1 0) b 2 0) b 3 0) b 7 0 b i = 0 := fun i hi => by
    rw [bst_if, bst_if, bst_if, bst_if, bst_if]
    rcases hi with h | h | h | h | h <;> subst h <;> rfl
  generalize on_st (on_st (on_st (on_st (on_st σ b 0 0) b 1 0) b 2 0) b 3 0) b 7 0 = S1 at *
  obtain ⟨S2, a1, a2, a3⟩ := c_fillV (c := b + 6) (N := 16) (v := 0) (by omega) S1
  obtain ⟨S3, b1, b2, b3⟩ := c_fillV (c := b + 7) (N := 16) (v := 0) (by omega) S2
  obtain ⟨S4, c1, c2, c3⟩ := c_fillV (c := b + 13) (N := 81) (v := 0) (by omega) (on_st S3 (b + 8) 0 0)
  obtain ⟨S5, d1, d2, d3⟩ := c_fillV (c := b + 19) (N := 8) (v := -1) (by omega) (on_st S4 (b + 14) 0 0)
  have k3 : pf_X3_clear b S3 = some (0, S4) := by unfold pf_X3_clear; rw [bPt, bCl c1]
  have k4 : pf_X4_clear b S4 = some (0, S5) := by unfold pf_X4_clear; rw [bPt, bCl d1]
  have mA : ∀ n c, bManAt w n c = -1 := fun n c => bManAt_none (bOk_zero hz).c (fun m m0 m1 => by omega)
  refine ⟨on_st S5 (b + 20) 0 0, by rw [bCl a1, bCl b1, bCl k3, bCl k4, bPt], fun c hc => by rw [bst_nc (by omega), d2 c (by omega), bst_nc (by omega), c2 c (by omega), bst_nc (by omega), b2 c (by omega), a2 c (by omega), s1 c (by omega)], ⟨?_, fun k k0 k1 => by omega, fun k k0 k1 => by omega, ?_, fun k k0 k1 => by omega, ?_, fun k k0 k1 => by omega, ?_, fun k k0 k1 => by omega⟩⟩
  · unfold bRpC
    rw [z0, z1, z2, z3, z4, z5, z6, z7, bst_eq, bst_nc (show b + 14 ≠ b + 20 by omega), d2 _ (show b + 14 ≠ b + 19 by omega), bst_eq, bst_nc (show b + 8 ≠ b + 20 by omega), d2 _ (show b + 8 ≠ b + 19 by omega), bst_nc (show b + 8 ≠ b + 14 by omega), c2 _ (show b + 8 ≠ b + 13 by omega), bst_eq, bst_nc (show b ≠ b + 20 by omega), d2 _ (show b ≠ b + 19 by omega), bst_nc (show b ≠ b + 14 by omega), c2 _ (show b ≠ b + 13 by omega), bst_nc (show b ≠ b + 8 by omega), b2 _ (show b ≠ b + 7 by omega), a2 _ (show b ≠ b + 6 by omega)]
    exact ⟨e1 0 (by omega), e1 1 (by omega), e1 2 (by omega), e1 3 (by omega), e1 7 (by omega), rfl, rfl, rfl⟩
  · intro x y x0 x1 y0 y1
    rw [show bFd w x y = 0 from z _ (by omega) (by omega), show bRoad w x y = 0 from z _ (by omega) (by omega), bst_nc (by omega), d2 _ (by omega), bst_nc (by omega), c2 _ (by omega), bst_nc (by omega), b2 _ (by omega), a3 _ (by omega) (by omega), bst_nc (by omega), d2 _ (by omega), bst_nc (by omega), c2 _ (by omega), bst_nc (by omega), b3 _ (by omega) (by omega)]
    exact ⟨rfl, rfl⟩
  · intro x y x0 x1 y0 y1
    rw [show bQ w x y = 0 from z _ (by omega) (by omega), bst_nc (by omega), d2 _ (by omega), bst_nc (by omega), c3 _ (by omega) (by omega)]
  · intro m c m0 m1 c0 c1
    rw [mA, bst_nc (by omega), d3 _ (by omega) (by omega)]
end O86
