/-! B: safe, placed, ways -/
theorem bFull_t : ∀ m : Nat, m < 10 → on_shl 1 (m : Int) - 1 = ((2 ^ m - 1 : Nat) : Int) := by decide +kernel
def bXorT (m : Nat) : Bool := (List.range (2 ^ m)).all fun S => decide (on_and ((2 ^ m - 1 : Nat) : Int) (on_xor (S : Int) (-1)) = (((2 ^ m - 1) ^^^ S : Nat) : Int))
theorem bXor_all : ∀ m : Nat, m < 10 → bXorT m = true := by decide +kernel
section O70
variable {n : Nat} {σ : on_S} {p q : Int} {w : bW} {A B : List bQd}
theorem c_fillN {c N : Nat} (hN : N < 90000) (σ : on_S) : ∃ σ' : on_S, pf_J7_fill_53178 c N 0 σ = some (0, σ') ∧ (∀ x, x ≠ c → σ' x = σ x) ∧ ∀ i : Int, 0 ≤ i → i < (N : Int) → σ' c i = 0 := by
  have F : ∀ (r nf : Nat) (k : Int) (σ' : on_S), 0 ≤ k → k + (r : Int) = (N : Int) → r < nf → (∀ x, x ≠ c → σ' x = σ x) → (∀ i : Int, 0 ≤ i → i < k → σ' c i = 0) → ∃ σ'' : on_S, pf_J7_fill_53178_5 c N nf 0 k (N : Int) σ' = some (0, σ'') ∧ (∀ x, x ≠ c → σ'' x = σ x) ∧ (∀ i : Int, 0 ≤ i → i < (N : Int) → σ'' c i = 0) := by
    intro r
    induction r with
    | zero =>
      intro nf k σ' k0 hk' hnf h1 h2
      cases nf with
      | zero => omega
      | succ nf =>
        have : k = (N : Int) := by omega
        subst this
        exact ⟨σ', by rw [pf_J7_fill_53178_5, bLtF (by omega) (by omega) (by omega)], h1, h2⟩
    | succ r ih =>
      intro nf k σ' k0 hk' hnf h1 h2
      cases nf with
      | zero => omega
      | succ nf =>
        rw [pf_J7_fill_53178_5, bLtT (by omega) (by omega) (by omega), bWr k0 (by omega)]
        refine ih nf (k + 1) _ (by omega) (by omega) (by omega) (fun x hx => by rw [bst_nc hx]; exact h1 x hx) (fun i i0 i1 => ?_)
        rw [bst_if]
        by_cases e : i = k
        · rw [if_pos e]
        · rw [if_neg e]; exact h2 i i0 (by omega)
  unfold pf_J7_fill_53178
  exact F N on_N 0 σ (by omega) (by omega) (by unfold on_N; omega) (fun _ _ => rfl) (fun i i0 i1 => by omega)
theorem c_seek55 (hk : bOk w) {e0 e1 : Nat} (he0 : 0 < e0 ∧ e0 ≤ 8) (he1 : 0 < e1 ∧ e1 ≤ 8) (hA : ∀ r ∈ A, bGd w r) (hB : ∀ r ∈ B, bGd w r) (lA : A.length ≤ 3024) (lB : B.length ≤ 3024) {m : Nat} (hm : m ≤ 9) (mA : ∀ r ∈ A, bMz r < 2 ^ m) (mB : ∀ r ∈ B, bMz r < 2 ^ m) : ∀ (r nf S : Nat) (σ : on_S), S + r = 2 ^ m → r < nf → bGat w e0 A σ 0 → bGat w e1 B σ 512 → bWe w (e0 * e1) A B (fun a b => decide (a < S) && a &&& b == 0) σ → ∃ σ' : on_S, pf_X1_seek_55 nf ((2 ^ m - 1 : Nat) : Int) (S : Int) σ = some (0, σ') ∧ (∀ c, c ≠ 59 → σ' c = σ c) ∧ bWe w (e0 * e1) A B (fun a b => a &&& b == 0) σ' := by
  have m5 : 2 ^ m ≤ 512 := Nat.pow_le_pow_right (n := 2) (by omega) hm
  have m1 : 0 < 2 ^ m := Nat.pow_pos (by omega)
  intro r
  induction r with
  | zero =>
    intro nf S σ hS hnf _ _ hW
    cases nf with
    | zero => omega
    | succ nf =>
      refine ⟨σ, by rw [pf_X1_seek_55, bLeF (by omega) (by omega) (by omega)], fun _ _ => rfl, bWe_congr hW fun x hx => ?_⟩
      have := mA _ (bPrT_mem.mp hx).1
      rw [decide_eq_true (by omega), Bool.true_and]
  | succ r ih =>
    intro nf S σ hS hnf G0 G1 hW
    cases nf with
    | zero => omega
    | succ nf =>
      obtain ⟨g0, -⟩ := G0 S (by omega)
      rw [show (0 : Int) + (S : Int) = S by omega] at g0
      have b0 : A.countP (fun r => bMz r == S) ≤ 3024 := Nat.le_trans (List.countP_le_length ..) lA
      have b0' : e0 * A.countP (fun r => bMz r == S) ≤ 8 * 3024 := Nat.mul_le_mul he0.2 b0
      rw [pf_X1_seek_55, bLeT (by omega) (by omega) (by omega), bRd (by omega) (by omega), g0, show (S : Int) + 1 = ((S + 1 : Nat) : Int) by omega]
      by_cases z : A.countP (fun r => bMz r == S) = 0
      · rw [z, Nat.mul_zero, bLeT (by omega) (by omega) (by omega)]
        refine ih nf (S + 1) σ (by omega) (by omega) G0 G1 (bWe_congr hW fun x hx => ?_)
        have ne : bMz x.1 ≠ S := fun t => List.countP_eq_zero.mp z x.1 (bPrT_mem.mp hx).1 (beq_iff_eq.mpr t)
        have : decide (bMz x.1 < S) = decide (bMz x.1 < S + 1) := by
          by_cases h : bMz x.1 < S
          · rw [decide_eq_true h, decide_eq_true (by omega)]
          · rw [decide_eq_false h, decide_eq_false (by omega)]
        rw [this]
      · have pz : 0 < e0 * A.countP (fun r => bMz r == S) := Nat.mul_pos he0.1 (by omega)
        have xr := bXor_all m (by omega)
        unfold bXorT at xr
        have x1 := of_decide_eq_true (List.all_eq_true.mp xr S (List.mem_range.mpr (by omega)))
        have rl : (2 ^ m - 1) ^^^ S < 2 ^ m := Nat.xor_lt_two_pow (by omega) (by omega)
        generalize hR : (2 ^ m - 1) ^^^ S = R at x1 rl
        obtain ⟨σ1, u1, u2, u3⟩ := c_pairUp5 (pr := fun a b => decide (a < S) && a &&& b == 0) hk he0 he1 hA hB lA lB (S := S) (R := R) (by omega) (by omega) z (fun b => by simp) on_N R 0 σ (by unfold on_N; omega) (Nat.and_self ..) (by omega) G0 G1 (bWe_congr hW fun x _ => by
          have : (bMz x.2 &&& R == bMz x.2 && decide (R < bMz x.2)) = false := by
            cases g : (bMz x.2 &&& R == bMz x.2)
            · rfl
            · have g' := beq_iff_eq.mp g
              have : bMz x.2 &&& R ≤ R := Nat.and_le_right
              rw [decide_eq_false (by omega)]; rfl
          rw [this, Bool.and_false, Bool.or_false])
        obtain ⟨σ2, v1, v2, v3⟩ := ih nf (S + 1) σ1 (by omega) (by omega) (bGat_of (u2 60 (by omega)) (u2 61 (by omega)) (u2 62 (by omega)) G0) (bGat_of (u2 60 (by omega)) (u2 61 (by omega)) (u2 62 (by omega)) G1) (bWe_congr u3 fun x hx => by
          have bx := mB _ (bPrT_mem.mp hx).2
          by_cases ea : bMz x.1 = S
          · have k := bXorN (F := 2 ^ m - 1) (S := S) (y := bMz x.2) (Nat.and_two_pow_sub_one_of_lt_two_pow bx)
            rw [hR] at k
            rw [ea, decide_eq_false (by omega), decide_eq_true (by omega), Bool.false_and, Bool.false_or, beq_self_eq_true, Bool.true_and, Bool.true_and, Nat.and_comm S]
            by_cases h : bMz x.2 &&& S = 0
            · rw [beq_iff_eq.mpr h, beq_iff_eq.mpr (k.mpr h)]
            · rw [beq_eq_false_iff_ne.mpr h, beq_eq_false_iff_ne.mpr (fun t => h (k.mp t))]
          · have : decide (bMz x.1 < S) = decide (bMz x.1 < S + 1) := by
              by_cases h : bMz x.1 < S
              · rw [decide_eq_true h, decide_eq_true (by omega)]
              · rw [decide_eq_false h, decide_eq_false (by omega)]
            rw [this, beq_eq_false_iff_ne.mpr ea]; simp)
        refine ⟨σ2, ?_, fun c hc => by rw [v2 c hc, u2 c hc], v3⟩
        rw [bLeF (by omega) (by omega) (by omega), x1]
        unfold pf_X1_pairUp
        rw [show (0 : Int) = ((0 : Nat) : Int) from rfl, bCl u1, v1]; rfl
theorem bTG_gd (hk : bOk w) {k : Int} (k0 : 0 ≤ k) {t : bQd} (h : t ∈ bTG w k) : bGd w t := bGr_gd (bTG_in hk k0 h)
theorem bTG_len {k : Int} : (bTG w k).length ≤ 3024 := by
  unfold bTG
  split
  · refine Nat.le_trans (List.length_filter_le ..) ?_
    unfold bTabl
    refine Nat.le_trans (List.length_filter_le ..) ?_
    rw [List.length_map, bRows_len]; omega
  · exact show 1 ≤ 3024 by omega
theorem bGd_lt (hk : bOk w) {r : bQd} (h : bGd w r) : bMz r < 2 ^ (w 3).toNat := by
  rcases h with h | h
  · exact bMz_lt h
  · subst h; exact Nat.pow_pos (by omega)
theorem bEe_b (k : Int) : 0 < bEe w k ∧ bEe w k ≤ 8 := by unfold bEe; split <;> omega
theorem c_seek (hk : bOk w) (hR : bRp 2 w σ) (hO : bRo σ) : ∃ σ' : on_S, pf_X1_seek σ = some (0, σ') ∧ (∀ c, c ≠ 55 → c ≠ 57 → c ≠ 59 → c ≠ 60 → c ≠ 61 → c ≠ 62 → σ' c = σ c) ∧ bWe w (bEe w 0 * bEe w 1) (bTG w 0) (bTG w 1) (fun a b => a &&& b == 0) σ' := by
  have hm := hk.c.2.2.2.1
  obtain ⟨σ1, a1, a2, a3⟩ := c_fillN (c := 60) (N := 1024) (by omega) σ
  obtain ⟨σ2, b1, b2, b3, b4⟩ := c_gather (σ := σ1) hk (hR.to fun j hj => a2 _ (by omega)) (fun i hi => by rw [a2 56 (by omega)]; exact hO i hi) (n := 0) (by omega) (by omega) (fun S s1 => a3 _ (by omega) (by omega))
  have R2 : bRp 2 w σ2 := hR.to fun j hj => by rw [b2 _ (by omega) (by omega) (by omega) (by omega) (by omega), a2 _ (by omega)]
  have O2 : bRo σ2 := fun i hi => by rw [b2 56 (by omega) (by omega) (by omega) (by omega) (by omega), a2 56 (by omega)]; exact hO i hi
  obtain ⟨σ3, c1, c2, c3, c4⟩ := c_gather (σ := σ2) hk R2 O2 (n := 1) (by omega) (by omega) (fun S s1 => by rw [b3 _ (by omega) 60 (by omega) (by omega)]; exact a3 _ (by omega) (by omega))
  have G0 : bGat w (bEe w 0) (bTG w 0) σ3 0 := fun S s1 => by
    have g := b4 S s1
    rw [show (0 : Int) * 512 + (S : Int) = 0 + (S : Int) by omega] at g
    rw [c3 _ (by omega) 60 (by omega) (by omega), c3 _ (by omega) 61 (by omega) (by omega), c3 _ (by omega) 62 (by omega) (by omega)]
    exact g
  rw [show (1 : Int) * 512 = 512 by omega] at c4
  have e8 : ∀ c, c ≠ 59 → on_st (on_st (on_st (on_st σ3 59 5 (-1)) 59 6 0) 59 7 (-1)) 59 8 (-1) c = σ3 c := fun c h => by rw [bst_nc h, bst_nc h, bst_nc h, bst_nc h]
  have W0 : bWe w (bEe w 0 * bEe w 1) (bTG w 0) (bTG w 1) (fun a b => decide (a < 0) && a &&& b == 0) (on_st (on_st (on_st (on_st σ3 59 5 (-1)) 59 6 0) 59 7 (-1)) 59 8 (-1)) := by
    refine ⟨?_, Or.inl ⟨by rw [bst_ni (by omega), bst_ni (by omega), bst_ni (by omega), bst_eq], by rw [bst_ni (by omega), bst_eq], bst_eq, fun x _ => by simp⟩⟩
    rw [bst_ni (by omega), bst_ni (by omega), bst_eq, List.countP_eq_zero.mpr (fun x _ => by simp), Nat.mul_zero]; rfl
  have e10 : σ3 (2 + 8) 0 = w 3 := by rw [c2 _ (by omega) (by omega) (by omega) (by omega) (by omega)]; exact R2.c.2.2.2.2.2.1
  have sh := bFull_t (w 3).toNat (by omega)
  rw [show ((w 3).toNat : Int) = w 3 by omega] at sh
  have p1 : 2 ^ (w 3).toNat ≤ 512 := Nat.pow_le_pow_right (n := 2) (by omega) (show (w 3).toNat ≤ 9 by omega)
  obtain ⟨σ4, d1, d2, d3⟩ := c_seek55 hk (bEe_b 0) (bEe_b 1) (fun r h => bTG_gd hk (by omega) h) (fun r h => bTG_gd hk (by omega) h) bTG_len bTG_len (m := (w 3).toNat) (by omega) (fun r h => bGd_lt hk (bTG_gd hk (by omega) h)) (fun r h => bGd_lt hk (bTG_gd hk (by omega) h)) (2 ^ (w 3).toNat) on_N 0 _ (by omega) (by unfold on_N; omega) (bGat_of (e8 60 (by omega)) (e8 61 (by omega)) (e8 62 (by omega)) G0) (bGat_of (e8 60 (by omega)) (e8 61 (by omega)) (e8 62 (by omega)) c4) W0
  refine ⟨σ4, ?_, fun c h5 h7 h9 h0 h1 h2 => by rw [d2 c h9, e8 c h9, c2 c h5 h7 h0 h1 h2, b2 c h5 h7 h0 h1 h2, a2 c h0], d3⟩
  unfold pf_X1_seek
  rw [bCl a1, bCl b1, bCl c1, bPt, bPt, bPt, bPt, bGt, e8 _ (by omega), e10, sh]
  exact d1
theorem bCo_inj (hk : bOk w) {r s : bQd} (hr : bGd w r) (hs : bGd w s) (h : bCo r = bCo s) : r = s := by
  have m9 := hk.c.2.2.2.1
  obtain ⟨a, b, c, d⟩ := r
  obtain ⟨a', b', c', d'⟩ := s
  unfold bCo at h
  simp only at h
  rcases hr with hr | hr <;> rcases hs with hs | hs
  · obtain ⟨⟨h1, -⟩, ⟨h2, -⟩, ⟨h3, -⟩, ⟨h4, -⟩, -⟩ := hr
    obtain ⟨⟨k1, -⟩, ⟨k2, -⟩, ⟨k3, -⟩, ⟨k4, -⟩, -⟩ := hs
    simp only at h1 h2 h3 h4 k1 k2 k3 k4
    rw [if_neg (by omega), if_neg (by omega)] at h
    rw [show a = a' by omega, show b = b' by omega, show c = c' by omega, show d = d' by omega]
  · obtain ⟨⟨h1, -⟩, ⟨h2, -⟩, ⟨h3, -⟩, ⟨h4, -⟩, -⟩ := hr
    simp only at h1 h2 h3 h4
    injection hs with e1 _
    rw [if_neg (by omega), if_pos (by omega)] at h
    omega
  · obtain ⟨⟨h1, -⟩, ⟨h2, -⟩, ⟨h3, -⟩, ⟨h4, -⟩, -⟩ := hs
    simp only at h1 h2 h3 h4
    injection hr with e1 _
    rw [if_pos (by omega), if_neg (by omega)] at h
    omega
  · rw [hr, hs]
/-- both find the same -/
theorem bBothSafe (hk : bOk w) {σ1 σ3 : on_S} (hW : bWe w (bEe w 0 * bEe w 1) (bTG w 0) (bTG w 1) (fun a b => a &&& b == 0) σ1) (hF : bFs w (bPrs w) σ3) : (σ1 59 6 = σ3 77 25 ∧ on_R (σ3 77 25)) ∧ (σ1 59 5 = σ3 77 24 ∧ on_R (σ3 77 24)) ∧ ((σ3 77 24 = -1 ∧ σ1 59 7 = -1 ∧ σ1 59 8 = -1) ∨ (σ3 77 24 ≠ -1 ∧ ∃ r ∈ bTG w 0, ∃ s ∈ bTG w 1, σ1 59 7 = bCo r ∧ σ1 59 8 = bCo s ∧ (0 ≤ σ3 91 0 ∧ σ3 91 0 < 3100 ∧ ∀ c : Int, 0 ≤ c → c < 4 → σ3 88 (4 * σ3 91 0 + c) = bQp r c) ∧ (0 ≤ σ3 91 1 ∧ σ3 91 1 < 3100 ∧ ∀ c : Int, 0 ≤ c → c < 4 → σ3 88 (4 * (3100 + σ3 91 1) + c) = bQp s c))) := by
  have gd : ∀ p ∈ bPrs w, (p.1 ∈ bGr w 0 ∧ p.2 ∈ bGr w 1) := fun p hp => bPrT_mem.mp hp
  have toG : ∀ p ∈ bPrT (bTG w 0) (bTG w 1), p ∈ bPrs w := fun p hp => bPrT_mem.mpr ⟨bTG_in hk (by omega) (bPrT_mem.mp hp).1, bTG_in hk (by omega) (bPrT_mem.mp hp).2⟩
  have toT : ∀ p ∈ bPrs w, ∃ t ∈ bPrT (bTG w 0) (bTG w 1), bMz t.1 = bMz p.1 ∧ bMz t.2 = bMz p.2 ∧ bLe3 (bQu w t.1 + bQu w t.2) (bCo t.1) (bCo t.2) (bQu w p.1 + bQu w p.2) (bCo p.1) (bCo p.2) := by
    intro p hp
    obtain ⟨r, r1, r2, r3, r4⟩ := bTG_of hk (by omega) (gd p hp).1
    obtain ⟨s, s1, s2, s3, s4⟩ := bTG_of hk (by omega) (gd p hp).2
    exact ⟨(r, s), bPrT_mem.mpr ⟨r1, s1⟩, r2, s2, by unfold bLe3; simp only; omega⟩
  obtain ⟨w1, w2⟩ := hW
  obtain ⟨f1, f2⟩ := hF
  -- as many
  have cnt : (bPrs w).countP bDj = bEe w 0 * bEe w 1 * (bPrT (bTG w 0) (bTG w 1)).countP (fun p => bMz p.1 &&& bMz p.2 == 0) := by
    show (bPrT (bGr w 0) (bGr w 1)).countP (fun p => bMz p.1 &&& bMz p.2 == 0) = _
    rw [bPrT_mulR (e := bEe w 1) (B' := bTG w 1) (fun r _ => bTG_count hk (by omega) (fun s => bMz r &&& s == 0)), bPrT_mulL (e := bEe w 0) (A' := bTG w 0) (fun s _ => bTG_count hk (by omega) (fun r => r &&& bMz s == 0)), ← Nat.mul_assoc, Nat.mul_comm (bEe w 1)]
  have cb : (bPrs w).countP bDj ≤ 3024 * 3024 := by
    refine Nat.le_trans (List.countP_le_length ..) ?_
    refine Nat.le_trans (bLen_flat (B := 3024) (f := fun r => (bGr w 1).map fun s => (r, s)) (bGr w 0) (fun r _ => by rw [List.length_map]; exact bGr_len hk 1)) ?_
    exact Nat.mul_le_mul_right _ (bGr_len hk 0)
  refine ⟨⟨by rw [w1, f1, cnt], by rw [f1]; omega⟩, ?_⟩
  rcases w2 with ⟨a, b, c, d⟩ | ⟨p, p1, p2, p3, p4, p5, p6⟩
  · rcases f2 with ⟨u, -⟩ | ⟨x, x1, x2, -⟩
    · exact ⟨⟨by rw [a, u], by omega⟩, Or.inl ⟨u, b, c⟩⟩
    · obtain ⟨t, t1, t2, t3, -⟩ := toT x x1
      have := d t t1
      simp only at this
      unfold bDj at x2
      rw [t2, t3, x2] at this; cases this
  · rcases f2 with ⟨-, u⟩ | ⟨x, x1, x2, x3, x4, x5, x6⟩
    · have := u p (toG p p1)
      unfold bDj at this
      simp only at p2
      rw [p2] at this; cases this
    · have e1 := x6 p (toG p p1) p2
      obtain ⟨t, t1, t2, t3, t4⟩ := toT x x1
      have e2 := p6 t t1 (by simp only; rw [t2, t3]; exact x2)
      have m := bPrT_mem.mp p1
      have mx := gd x x1
      have q0 := bQu_b hk (bTG_gd hk (by omega) m.1)
      have q1 := bQu_b hk (bTG_gd hk (by omega) m.2)
      rw [x3] at e1
      unfold bLe3 at e1 e2 t4
      have c0 : bCo x.1 = bCo p.1 := by omega
      have c1 : bCo x.2 = bCo p.2 := by omega
      have i0 := bCo_inj hk (bGr_gd mx.1) (bTG_gd hk (by omega) m.1) c0
      have i1 := bCo_inj hk (bGr_gd mx.2) (bTG_gd hk (by omega) m.2) c1
      rw [i0] at x4
      rw [i1] at x5
      rw [i0, i1] at x3
      exact ⟨⟨by rw [p3, x3], by omega⟩, Or.inr ⟨by omega, p.1, m.1, p.2, m.2, p4, p5, x4, x5⟩⟩
theorem c_placed43 (hk : bOk w) {k : Int} {t : bQd} (h : t ∈ bTG w k) (q0 : 0 ≤ q) (q4 : q < 4) : pf_X11_placed_43 q (bCo t) σ = some (bQp t q, σ) := by
  unfold pf_X11_placed_43
  unfold bTG at h
  split at h
  · have h1 := (List.mem_filter.mp h).1
    unfold bTabl at h1
    obtain ⟨v, v1, v2⟩ := List.mem_map.mp (List.mem_filter.mp h1).1
    obtain ⟨i, i1, i2⟩ := List.getElem_of_mem v1
    rw [bRows_len] at i1
    have e : on_rowsT.getD i 0 = v := by rw [List.getD, List.getElem?_eq_getElem (by rw [bRows_len]; exact i1), i2]; rfl
    rw [← v2, ← e, bRows_co i i1]
    have b := bRows_b i i1
    rw [bEqF (by omega) (by omega) (by omega), bCl (c_manOf i1 q0 q4)]
  · rw [List.mem_singleton.mp h, show bCo bE4 = -1 from rfl, bEqT (by omega) rfl]
    have d : q = 0 ∨ q = 1 ∨ q = 2 ∨ q = 3 := by omega
    rcases d with d | d | d | d <;> subst d <;> rfl
theorem bE4_qp {t : bQd} {k : Int} (hk : bOk w) (k0 : 0 ≤ k) (h : t ∈ bTG w k) (q0 : 0 ≤ q) (q4 : q < 4) : on_R (bQp t q) := by
  have := bGd_po hk (bTG_gd hk k0 h) q q0 q4
  have := hk.c.2.2.2.1
  omega
/-- the class seeks, then the reference -/
theorem bSeekBoth (hI : bI n σ) : ∃ σ1 : on_S, pf_X1_seek σ = some (0, σ1) ∧ bI n σ1 ∧ σ1 78 = σ 78 ∧ ∃ σ3 : on_S, pf_X12_findSafe σ1 = some (0, σ3) ∧ bI n σ3 ∧ (σ1 59 6 = σ3 77 25 ∧ on_R (σ3 77 25)) ∧ (σ1 59 5 = σ3 77 24 ∧ on_R (σ3 77 24)) ∧ ((σ3 77 24 = -1 ∧ σ1 59 7 = -1 ∧ σ1 59 8 = -1) ∨ (σ3 77 24 ≠ -1 ∧ ∃ r ∈ bTG (σ 78) 0, ∃ s ∈ bTG (σ 78) 1, σ1 59 7 = bCo r ∧ σ1 59 8 = bCo s ∧ (0 ≤ σ3 91 0 ∧ σ3 91 0 < 3100 ∧ ∀ c : Int, 0 ≤ c → c < 4 → σ3 88 (4 * σ3 91 0 + c) = bQp r c) ∧ (0 ≤ σ3 91 1 ∧ σ3 91 1 < 3100 ∧ ∀ c : Int, 0 ≤ c → c < 4 → σ3 88 (4 * (3100 + σ3 91 1) + c) = bQp s c))) := by
  obtain ⟨σ1, a1, a2, a3⟩ := c_seek hI.k hI.r hI.o
  have i1 : bI n σ1 := hI.idle fun c hc => a2 c (by omega) (by omega) (by omega) (by omega) (by omega) (by omega)
  have w1 : σ1 78 = σ 78 := a2 78 (by omega) (by omega) (by omega) (by omega) (by omega) (by omega)
  obtain ⟨σ3, b1, b2, b3⟩ := m_findSafe (σ := σ1) hI.k w1
  exact ⟨σ1, a1, i1, w1, σ3, b1, b2.inv i1, bBothSafe hI.k a3 b3⟩
theorem o_safe (hI : bI n σ) : bOp n σ pf_X11_safe pf_X12_safe := by
  by_cases h : 0 < σ 78 7
  · obtain ⟨σ1, a1, a2, a3, σ3, b1, b2, -, ⟨b4, b5⟩, -⟩ := bSeekBoth hI
    refine ⟨σ3 77 24, σ1, σ3, ?_, ?_, b5, b2⟩
    · unfold pf_X11_safe
      rw [bCl (c_isThere hI.k hI.r), if_pos h, bEqF (by omega) (by omega) (by omega), bCl a1, bGt, b4]
    · unfold pf_X12_safe
      rw [bCl (m_isStreet a2.k), a3, if_pos h, bEqF (by omega) (by omega) (by omega), bCl b1, bGt]
  · refine bOp.no (r := -2) hI (by omega) ?_ ?_
    · unfold pf_X11_safe
      rw [bCl (c_isThere hI.k hI.r), if_neg h, bEqT (by omega) rfl]
    · unfold pf_X12_safe
      rw [bCl (m_isStreet hI.k), if_neg h, bEqT (by omega) rfl]
theorem o_ways (hI : bI n σ) : bOp n σ pf_X11_ways pf_X12_ways := by
  by_cases h : 0 < σ 78 7
  · obtain ⟨σ1, a1, a2, a3, σ3, b1, b2, ⟨b4, b5⟩, -⟩ := bSeekBoth hI
    refine ⟨σ3 77 25, σ1, σ3, ?_, ?_, b5, b2⟩
    · unfold pf_X11_ways
      rw [bCl (c_isThere hI.k hI.r), if_pos h, bEqF (by omega) (by omega) (by omega), bCl a1, bGt, b4]
    · unfold pf_X12_ways
      rw [bCl (m_isStreet a2.k), a3, if_pos h, bEqF (by omega) (by omega) (by omega), bCl b1, bGt]
  · refine bOp.no (r := -2) hI (by omega) ?_ ?_
    · unfold pf_X11_ways
      rw [bCl (c_isThere hI.k hI.r), if_neg h, bEqT (by omega) rfl]
    · unfold pf_X12_ways
      rw [bCl (m_isStreet hI.k), if_neg h, bEqT (by omega) rfl]
theorem o_placed (hI : bI n σ) (hp : on_R p) (hq : on_R q) : bOp n σ (pf_X11_placed p q) (pf_X12_placed p q) := by
  have q4 := hI.k.c.2.2.2.2.1
  by_cases h : (0 ≤ p ∧ p < σ 78 4) ∧ (0 ≤ q ∧ q < 4)
  · obtain ⟨σ1, a1, a2, a3, σ3, b1, b2, -, ⟨-, b5⟩, b6⟩ := bSeekBoth hI
    have M : pf_X12_placed p q σ1 = on_Gt σ3 77 24 fun v7 => on_Eq v7 (-1) (some ((-1), σ3)) (on_Rd σ3 91 2 p fun v8 => on_Rd σ3 88 24800 ((4 * ((3100 * p) + v8)) + q) fun v9 => some (v9, σ3)) := by
      unfold pf_X12_placed
      rw [bCk hp, bCl (m_isNet a2.k (by omega)), a3, if_pos h.1, bEqF (by omega) (by omega) (by omega), bCl (m_isCorner hq), if_pos h.2, bEqF (by omega) (by omega) (by omega), bCl b1]
    have C : pf_X11_placed p q σ = on_Eq p 0 (on_Gt σ1 59 7 fun v5 => pf_X11_placed_43 q v5 σ1) (on_Gt σ1 59 8 fun v8 => pf_X11_placed_43 q v8 σ1) := by
      unfold pf_X11_placed
      rw [bCl (c_hasCorner hI.k hI.r hp hq), if_pos h, bEqF (by omega) (by omega) (by omega), bCl a1]
    rcases b6 with ⟨u1, u2, u3⟩ | ⟨u0, r, r1, s, s1, u1, u2, ⟨u3, u4, u5⟩, ⟨u6, u7, u8⟩⟩
    · refine ⟨-1, σ1, σ3, ?_, ?_, by omega, b2⟩
      · rw [C, bGt, bGt, u2, u3]
        unfold pf_X11_placed_43
        rw [bEqT (by omega) rfl]
        unfold on_Eq; rw [if_pos ⟨by omega, by omega⟩]; split <;> rfl
      · rw [M, bGt, u1, bEqT (by omega) rfl]
    · by_cases z : p = 0
      · subst z
        refine ⟨bQp r q, σ1, σ3, ?_, ?_, bE4_qp hI.k (by omega) r1 h.2.1 h.2.2, b2⟩
        · rw [C, bEqT (by omega) rfl, bGt, u1]; exact c_placed43 hI.k r1 h.2.1 h.2.2
        · rw [M, bGt, bEqF b5 (by omega) u0, bRd (by omega) (by omega), bRd (by omega) (by omega), show 4 * (3100 * 0 + σ3 91 0) + q = 4 * σ3 91 0 + q by omega, u5 q h.2.1 h.2.2]
      · have p1 : p = 1 := by omega
        subst p1
        refine ⟨bQp s q, σ1, σ3, ?_, ?_, bE4_qp hI.k (by omega) s1 h.2.1 h.2.2, b2⟩
        · rw [C, bEqF (by omega) (by omega) (by omega), bGt, u2]; exact c_placed43 hI.k s1 h.2.1 h.2.2
        · rw [M, bGt, bEqF b5 (by omega) u0, bRd (by omega) (by omega), bRd (by omega) (by omega), show 4 * (3100 * 1 + σ3 91 1) + q = 4 * (3100 + σ3 91 1) + q by omega, u8 q h.2.1 h.2.2]
  · refine bOp.no (r := -2) hI (by omega) ?_ ?_
    · unfold pf_X11_placed
      rw [bCl (c_hasCorner hI.k hI.r hp hq), if_neg h, bEqT (by omega) rfl]
    · unfold pf_X12_placed
      rw [bCk hp, bCl (m_isNet hI.k (by omega))]
      by_cases h1 : 0 ≤ p ∧ p < σ 78 4
      · rw [if_pos h1, bEqF (by omega) (by omega) (by omega), bCl (m_isCorner hq), if_neg (fun t => h ⟨h1, t⟩), bEqT (by omega) rfl]
      · rw [if_neg h1, bEqT (by omega) rfl]
end O70
