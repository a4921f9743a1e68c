/-! B: the guard: the class gathers the rows of a net by their men -/
/-- for each set of men: how many rows, the fewest quarrels, the first row of those -/
def bGat (w : bW) (e : Nat) (P : List bQd) (σ : on_S) (a : Int) : Prop := ∀ S : Nat, S < 512 → σ 60 (a + (S : Int)) = ((e * P.countP (fun r => bMz r == S) : Nat) : Int) ∧ (P.countP (fun r => bMz r == S) ≠ 0 → ∃ r ∈ P, bMz r = S ∧ σ 61 (a + (S : Int)) = bQu w r ∧ σ 62 (a + (S : Int)) = bCo r ∧ ∀ r' ∈ P, bMz r' = S → bQu w r < bQu w r' ∨ (bQu w r = bQu w r' ∧ bCo r ≤ bCo r'))
theorem bRows_co : ∀ i : Nat, i < 378 → bCo (bDec (on_rowsT.getD i 0)) = bRow i := by decide +kernel
theorem bRows_up1 : ∀ i : Nat, i < 377 → bRow i < bRow (i + 1) := by decide +kernel
theorem bRows_up {i j : Nat} (h : i < j) (hj : j < 378) : bRow i < bRow j := by
  have : ∀ d : Nat, i + d + 1 < 378 → bRow i < bRow (i + d + 1) := by
    intro d
    induction d with
    | zero => intro h; exact bRows_up1 i (by omega)
    | succ d ih =>
      intro h
      have a := ih (by omega)
      have b := bRows_up1 (i + d + 1) (by omega)
      rw [show i + (d + 1) + 1 = i + d + 1 + 1 by omega]; omega
  have := this (j - i - 1) (by omega)
  rw [show i + (j - i - 1) + 1 = j by omega] at this
  exact this
section O68
variable {σ : on_S} {w : bW}
theorem c_addRow (hk : bOk w) {P : List bQd} {r : bQd} {a : Int} (ha : a = 0 ∨ a = 512) (hP : ∀ p ∈ P, bGd w p ∧ bCo p < bCo r) (hl : P.length ≤ 400) (hr : bGd w r) (hG : bGat w 8 P σ a) : ∃ σ' : on_S, pf_X1_addRow (a + (bMz r : Int)) (bCo r) (bQu w r) σ = some (0, σ') ∧ (∀ c, c ≠ 60 → c ≠ 61 → c ≠ 62 → σ' c = σ c) ∧ (∀ j, (j < a ∨ a + 512 ≤ j) → ∀ c, σ' c j = σ c j) ∧ bGat w 8 (P ++ [r]) σ' a := by
  have mr := (bGd_me hk hr).2
  have qr := bQu_b hk hr
  obtain ⟨hS1, hS2'⟩ := hG (bMz r) mr
  have hS2 := fun _ : Unit => hS2'
  clear hS2'
  have cl : P.countP (fun p => bMz p == bMz r) ≤ P.length := List.countP_le_length ..
  -- the others stay
  have oth : ∀ σ' : on_S, (∀ c j, j ≠ a + (bMz r : Int) → σ' c j = σ c j) → ∀ S : Nat, S < 512 → S ≠ bMz r → σ' 60 (a + (S : Int)) = ((8 * (P ++ [r]).countP (fun r => bMz r == S) : Nat) : Int) ∧ ((P ++ [r]).countP (fun r => bMz r == S) ≠ 0 → ∃ t ∈ P ++ [r], bMz t = S ∧ σ' 61 (a + (S : Int)) = bQu w t ∧ σ' 62 (a + (S : Int)) = bCo t ∧ ∀ r' ∈ P ++ [r], bMz r' = S → bQu w t < bQu w r' ∨ (bQu w t = bQu w r' ∧ bCo t ≤ bCo r')) := by
    intro σ' h S s1 hne
    obtain ⟨g1, g2⟩ := hG S s1
    have e : (P ++ [r]).countP (fun r => bMz r == S) = P.countP (fun r => bMz r == S) := by
      rw [List.countP_append, List.countP_singleton, if_neg (by rw [beq_iff_eq]; exact fun t => hne t.symm), Nat.add_zero]
    rw [e, h 60 _ (by omega), h 61 _ (by omega), h 62 _ (by omega)]
    refine ⟨g1, fun z => ?_⟩
    obtain ⟨t, t1, t2, t3, t4, t5⟩ := g2 z
    refine ⟨t, List.mem_append_left _ t1, t2, t3, t4, fun r' hr' hm => ?_⟩
    rcases List.mem_append.mp hr' with g | g
    · exact t5 r' g hm
    · rw [List.mem_singleton.mp g] at hm; exact absurd hm.symm hne
  have e1 : (P ++ [r]).countP (fun p => bMz p == bMz r) = P.countP (fun p => bMz p == bMz r) + 1 := by
    rw [List.countP_append, List.countP_singleton, if_pos (beq_iff_eq.mpr rfl)]
  -- the new one is the first of its set, or better than those before
  have new : ∀ _ : Unit, (P.countP (fun p => bMz p == bMz r) = 0 ∨ ∃ t ∈ P, bMz t = bMz r ∧ bQu w r < bQu w t ∧ ∀ r' ∈ P, bMz r' = bMz r → bQu w t < bQu w r' ∨ (bQu w t = bQu w r' ∧ bCo t ≤ bCo r')) → ∃ σ' : on_S, pf_X1_addRow_19 (a + (bMz r : Int)) (bCo r) (bQu w r) σ = some (0, σ') ∧ (∀ c, c ≠ 60 → c ≠ 61 → c ≠ 62 → σ' c = σ c) ∧ (∀ j, (j < a ∨ a + 512 ≤ j) → ∀ c, σ' c j = σ c j) ∧ bGat w 8 (P ++ [r]) σ' a := by
    intro _ hn
    have hmin : ∀ r' ∈ P, bMz r' = bMz r → bQu w r < bQu w r' := by
      intro r' g hm
      rcases hn with z | ⟨t, t1, t2, t3, t4⟩
      · exact absurd z (Nat.pos_iff_ne_zero.mp (List.countP_pos_iff.mpr ⟨r', g, beq_iff_eq.mpr hm⟩))
      · have := t4 r' g hm; omega
    clear hn
    refine ⟨on_st (on_st (on_st σ 61 (a + (bMz r : Int)) (bQu w r)) 62 (a + (bMz r : Int)) (bCo r)) 60 (a + (bMz r : Int)) (σ 60 (a + (bMz r : Int)) + 8), ?_, fun c h0 h1 h2 => by rw [bst_nc h0, bst_nc h2, bst_nc h1], fun j hj c => ?_, fun S s1 => ?_⟩
    · unfold pf_X1_addRow_19 pf_X1_addRow_33
      rw [bWr (by omega) (by omega), bWr (by omega) (by omega), bRd (by omega) (by omega), bst_nc (by omega), bst_nc (by omega), bWr (by omega) (by omega)]
    · unfold on_st
      rw [if_neg (by omega), if_neg (by omega), if_neg (by omega)]
    · by_cases e : S = bMz r
      · subst e
        rw [bst_eq, bst_nc (by omega), bst_nc (by omega), bst_eq, bst_nc (by omega), bst_eq, hS1, e1]
        refine ⟨by omega, fun _ => ⟨r, List.mem_append_right _ (List.mem_singleton.mpr rfl), rfl, rfl, rfl, fun r' hr' hm => ?_⟩⟩
        rcases List.mem_append.mp hr' with g | g
        · exact Or.inl (hmin r' g hm)
        · rw [List.mem_singleton.mp g]; omega
      · refine oth _ (fun c j hj => ?_) S s1 e
        unfold on_st
        rw [if_neg (by omega), if_neg (by omega), if_neg (by omega)]
  unfold pf_X1_addRow
  rw [bRd (by omega) (by omega), hS1]
  by_cases z : P.countP (fun p => bMz p == bMz r) = 0
  · rw [bEqT (by omega) (by omega)]
    exact new () (Or.inl z)
  · obtain ⟨t, t1, t2, t3, t4, t5⟩ := hS2 () z
    have qt := bQu_b hk (hP t t1).1
    rw [bEqF (by omega) (by omega) (by omega), bRd (by omega) (by omega), t3]
    by_cases g : bQu w r < bQu w t
    · rw [bLtT (by omega) (by omega) g]
      exact new () (Or.inr ⟨t, t1, t2, g, t5⟩)
    · rw [bLtF (by omega) (by omega) (by omega)]
      refine ⟨on_st σ 60 (a + (bMz r : Int)) (σ 60 (a + (bMz r : Int)) + 8), ?_, fun c h0 h1 h2 => bst_nc h0, fun j hj c => ?_, fun S s1 => ?_⟩
      · unfold pf_X1_addRow_33
        rw [bRd (by omega) (by omega), bWr (by omega) (by omega)]
      · unfold on_st
        rw [if_neg (by omega)]
      · by_cases e : S = bMz r
        · subst e
          rw [bst_eq, bst_nc (by omega), bst_nc (by omega), hS1, e1]
          refine ⟨by omega, fun _ => ⟨t, List.mem_append_left _ t1, t2, t3, t4, fun r' hr' hm => ?_⟩⟩
          rcases List.mem_append.mp hr' with g' | g'
          · exact t5 r' g' hm
          · rw [List.mem_singleton.mp g']
            have := (hP t t1).2
            omega
        · refine oth _ (fun c j hj => ?_) S s1 e
          unfold on_st
          rw [if_neg (by omega)]
theorem c_gatherLoop (hk : bOk w) {n t : Int} (n0 : 0 ≤ n) (n1 : n < w 4) (ht : on_R t) {a : Int} (ha : a = 0 ∨ a = 512) : ∀ (r nf k : Nat) (P : List bQd) (σ : on_S), k + r = 378 → r < nf → bRp 2 w σ → bRdy w n (bNet w n 0) σ → bRo σ → (∀ p ∈ P, bVr (fun _ => true) (w 3) p ∧ ∃ i : Nat, i < k ∧ p = bDec (on_rowsT.getD i 0)) → P.length ≤ k → bGat w 8 P σ a → ∃ σ' : on_S, pf_X1_gather_63 nf a t (k : Int) σ = some (0, σ') ∧ (∀ c, c ≠ 60 → c ≠ 61 → c ≠ 62 → σ' c = σ c) ∧ (∀ j, (j < a ∨ a + 512 ≤ j) → ∀ c, σ' c j = σ c j) ∧ bGat w 8 (P ++ (bTRw (w 3) k).filter (fun r => decide (t ≤ bCv w n (bNet w n 0) r))) σ' a := by
  have hm := hk.c.2.2.2.1
  intro r
  induction r with
  | zero =>
    intro nf k P σ hkr hnf _ _ _ _ _ hG
    cases nf with
    | zero => omega
    | succ nf =>
      have e : bTRw (w 3) k = [] := by
        unfold bTRw; rw [List.drop_eq_nil_of_le (by rw [bRows_len]; omega)]; rfl
      exact ⟨σ, by rw [pf_X1_gather_63, bLtF (by omega) (by omega) (by omega)], fun _ _ _ _ => rfl, fun _ _ _ => rfl, by rw [e, List.filter_nil, List.append_nil]; exact hG⟩
  | succ r ih =>
    intro nf k P σ hkr hnf hR hY hO hP hl hG
    cases nf with
    | zero => omega
    | succ nf =>
      have k378 : k < 378 := by omega
      have hP' : ∀ p ∈ P, bVr (fun _ => true) (w 3) p ∧ ∃ i : Nat, i < k + 1 ∧ p = bDec (on_rowsT.getD i 0) := fun p hp => by
        obtain ⟨h1, i, h2, h3⟩ := hP p hp
        exact ⟨h1, i, by omega, h3⟩
      rw [pf_X1_gather_63, bLtT (by omega) (by omega) (by omega), bRd (by omega) (by omega), hO k k378, bCl (c_isThereR hR hk k378), bTRw_go k378, show (k : Int) + 1 = ((k + 1 : Nat) : Int) by omega]
      by_cases hp : bPre (w 3) (bDec (on_rowsT.getD k 0)) = true
      · have vm : bDec (on_rowsT.getD k 0) ∈ bTabl (w 3) := bTRw_mem (k := k) (by rw [bTRw_go k378, if_pos hp]; exact List.mem_cons_self ..)
        have vr := ((bTabl_mem hm.1 hm.2).mp vm).1
        have cb := bCv_b hk (x := bNet w n 0) n0 n1 (bDec (on_rowsT.getD k 0))
        rw [if_pos hp, if_pos hp, bEqF (by omega) (by omega) (by omega), bCl (c_carriedBy hk hR n0 n1 hY k378 vr), List.filter_cons]
        by_cases g : bCv w n (bNet w n 0) (bDec (on_rowsT.getD k 0)) < t
        · rw [bLtT (by omega) ht g, if_neg (fun u => by have := of_decide_eq_true u; omega)]
          exact ih nf (k + 1) P σ (by omega) (by omega) hR hY hO hP' (by omega) hG
        · have em := (bMz_eq hm.2 vr).1
          have eq := bQu_qr hk vr
          have ec := bRows_co k k378
          obtain ⟨σ1, a1, a2, a3, a4⟩ := c_addRow (σ := σ) hk (r := bDec (on_rowsT.getD k 0)) ha (fun p hp => by
            obtain ⟨h1, i, h2, h3⟩ := hP p hp
            refine ⟨Or.inl h1, ?_⟩
            rw [h3, bRows_co i (by omega), ec]
            exact bRows_up h2 k378) (by omega) (Or.inl vr) hG
          rw [bLtF (by omega) ht (by omega), bCl (c_menIn k378), bCl (c_quarrelsIn hk hR k378 vr), em, ← eq, ← ec, bCl a1, if_pos (decide_eq_true (by omega))]
          obtain ⟨σ2, b1, b2, b3, b4⟩ := ih nf (k + 1) (P ++ [bDec (on_rowsT.getD k 0)]) σ1 (by omega) (by omega) (hR.to fun j hj => a2 _ (by omega) (by omega) (by omega)) ⟨by rw [a2 55 (by omega) (by omega) (by omega)]; exact hY.1, fun m m0 m1 => by rw [a2 57 (by omega) (by omega) (by omega)]; exact hY.2 m m0 m1⟩ (fun i hi => by rw [a2 56 (by omega) (by omega) (by omega)]; exact hO i hi) (fun p hp => by
            rcases List.mem_append.mp hp with g | g
            · exact hP' p g
            · rw [List.mem_singleton.mp g]; exact ⟨vr, k, by omega, rfl⟩) (by rw [List.length_append]; exact Nat.add_le_add_right hl 1) a4
          refine ⟨σ2, b1, fun c h0 h1 h2 => by rw [b2 c h0 h1 h2, a2 c h0 h1 h2], fun j hj c => by rw [b3 j hj c, a3 j hj c], ?_⟩
          rw [List.append_assoc] at b4
          exact b4
      · rw [if_neg hp, if_neg hp, bEqT (by omega) rfl]
        exact ih nf (k + 1) P σ (by omega) (by omega) hR hY hO hP' (by omega) hG
theorem c_gather (hk : bOk w) (hR : bRp 2 w σ) (hO : bRo σ) {n : Int} (n0 : 0 ≤ n) (n2 : n < 2) (hz : ∀ S : Nat, S < 512 → σ 60 (n * 512 + (S : Int)) = 0) : ∃ σ' : on_S, pf_X1_gather n σ = some (0, σ') ∧ (∀ c, c ≠ 55 → c ≠ 57 → c ≠ 60 → c ≠ 61 → c ≠ 62 → σ' c = σ c) ∧ (∀ j, (j < n * 512 ∨ n * 512 + 512 ≤ j) → ∀ c, c ≠ 55 → c ≠ 57 → σ' c j = σ c j) ∧ bGat w (bEe w n) (bTG w n) σ' (n * 512) := by
  have nb := bNeed_b hk n
  have hm := hk.c.2.2.2.1
  have E : ¬ (n < w 4 ∧ bNeed w n ≠ 0) → ∃ σ' : on_S, pf_X1_gather_29 n (n * 512) 0 σ = some (0, σ') ∧ (∀ c, c ≠ 55 → c ≠ 57 → c ≠ 60 → c ≠ 61 → c ≠ 62 → σ' c = σ c) ∧ (∀ j, (j < n * 512 ∨ n * 512 + 512 ≤ j) → ∀ c, c ≠ 55 → c ≠ 57 → σ' c j = σ c j) ∧ bGat w (bEe w n) (bTG w n) σ' (n * 512) := by
    intro h
    have e1 : bEe w n = 1 := by unfold bEe; rw [if_neg h]
    have e2 : bTG w n = [bE4] := by unfold bTG; rw [if_neg h]
    refine ⟨on_st (on_st (on_st σ 60 (n * 512) 1) 61 (n * 512) 0) 62 (n * 512) (-1), ?_, fun c _ _ h0 h1 h2 => by rw [bst_nc h2, bst_nc h1, bst_nc h0], fun j hj c _ _ => by unfold on_st; rw [if_neg (by omega), if_neg (by omega), if_neg (by omega)], ?_⟩
    · unfold pf_X1_gather_29 pf_X1_leaveEmpty
      rw [bEqT (by omega) rfl, bWr (by omega) (by omega), bWr (by omega) (by omega), bWr (by omega) (by omega), bClS]
    · rw [e1, e2]
      intro S s1
      have m0 : bMz bE4 = 0 := by decide
      rw [List.countP_singleton, m0]
      by_cases z : S = 0
      · subst z
        rw [if_pos (by rfl), show n * 512 + ((0 : Nat) : Int) = n * 512 by omega]
        refine ⟨by rw [bst_nc (by omega), bst_nc (by omega), bst_eq]; rfl, fun _ => ⟨bE4, List.mem_singleton.mpr rfl, m0, ?_, ?_, fun r' hr' _ => ?_⟩⟩
        · rw [bst_nc (by omega), bst_eq]; rfl
        · rw [bst_eq]; rfl
        · rw [List.mem_singleton.mp hr']; omega
      · rw [if_neg (by rw [beq_iff_eq]; omega)]
        refine ⟨?_, fun h => absurd rfl h⟩
        rw [bst_nc (by omega), bst_nc (by omega), bst_ni (by omega), hz S s1]; rfl
  unfold pf_X1_gather
  rw [bCl (c_hasNet hk hR (by omega))]
  by_cases h : n < w 4
  · rw [if_pos ⟨n0, h⟩, bEqF (by omega) (by omega) (by omega), bCl (c_needOf hk hR n0 h)]
    by_cases z : bNeed w n = 0
    · rw [z]; exact E (fun t => t.2 z)
    · have hx := (hk.n n n0 h).1
      obtain ⟨σ1, a1, a2, a3⟩ := c_prepare hk hR n0 h hx.1 hx.2
      have G0 : bGat w 8 [] σ1 (n * 512) := fun S s1 => ⟨by rw [a2 60 (by omega) (by omega), hz S s1]; rfl, fun t => absurd rfl t⟩
      obtain ⟨σ2, b1, b2, b3, b4⟩ := c_gatherLoop (σ := σ1) hk n0 h (show on_R (bNeed w n) by omega) (a := n * 512) (by omega) 378 on_N 0 [] (by omega) (by unfold on_N; omega) (hR.to fun j hj => a2 _ (by omega) (by omega)) a3 (fun i hi => by rw [a2 56 (by omega) (by omega)]; exact hO i hi) (fun _ h => by cases h) (Nat.zero_le _) G0
      refine ⟨σ2, ?_, fun c h5 h7 h0 h1 h2 => by rw [b2 c h0 h1 h2, a2 c h5 h7], fun j hj c h5 h7 => by rw [b3 j hj c, a2 c h5 h7], ?_⟩
      · unfold pf_X1_gather_29
        rw [bEqF (by omega) (by omega) z, bRd n0 (by omega), (hR.n n n0 h).1, bCl a1]
        exact b1
      · rw [List.nil_append] at b4
        unfold bEe bTG
        rw [if_pos ⟨h, z⟩, if_pos ⟨h, z⟩]
        exact b4
  · rw [if_neg (fun t => h t.2), bEqT (by omega) rfl]
    exact E (fun t => h t.1)
end O68
