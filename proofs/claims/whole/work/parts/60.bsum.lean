/-! B: without; the best of each set of houses -/
def bOr4 (a b c d : Int) : Int := on_or (on_or (on_or (on_or 0 (on_shl 1 a)) (on_shl 1 b)) (on_shl 1 c)) (on_shl 1 d)
/-- the houses of a row, as bits -/
def bHs (w : bW) (r : bQd) : Int := bOr4 (bMan w r.1 0) (bMan w r.2.1 0) (bMan w r.2.2.1 0) (bMan w r.2.2.2 0)
theorem bOr4_b : ∀ a : Nat, a < 4 → ∀ b : Nat, b < 4 → ∀ c : Nat, c < 4 → ∀ d : Nat, d < 4 → 0 ≤ bOr4 a b c d ∧ bOr4 a b c d < 16 := by decide +kernel
def bOr4c (S a b c d : Nat) : Bool := decide (on_and (bOr4 a b c d) (on_xor S (-1)) = 0) == (decide (on_and (on_shr S a) 1 = 1) && decide (on_and (on_shr S b) 1 = 1) && decide (on_and (on_shr S c) 1 = 1) && decide (on_and (on_shr S d) 1 = 1))
def bOr4a (S : Nat) : Bool := (List.range 4).all fun a => (List.range 4).all fun b => (List.range 4).all fun c => (List.range 4).all fun d => bOr4c S a b c d
theorem bOr4_all : ∀ S : Nat, S < 16 → bOr4a S = true := by decide +kernel
theorem bOr4_in (S : Nat) (hS : S < 16) (a : Nat) (ha : a < 4) (b : Nat) (hb : b < 4) (c : Nat) (hc : c < 4) (d : Nat) (hd : d < 4) : on_and (bOr4 a b c d) (on_xor S (-1)) = 0 ↔ (on_and (on_shr S a) 1 = 1 ∧ on_and (on_shr S b) 1 = 1 ∧ on_and (on_shr S c) 1 = 1 ∧ on_and (on_shr S d) 1 = 1) := by
  have h := bOr4_all S hS
  unfold bOr4a at h
  have h1 := List.all_eq_true.mp h a (List.mem_range.mpr ha)
  have h2 := List.all_eq_true.mp h1 b (List.mem_range.mpr hb)
  have h3 := List.all_eq_true.mp h2 c (List.mem_range.mpr hc)
  have h4 := List.all_eq_true.mp h3 d (List.mem_range.mpr hd)
  unfold bOr4c at h4
  rw [beq_iff_eq] at h4
  constructor
  · intro t
    rw [decide_eq_true t] at h4
    have := h4.symm
    simp only [Bool.and_eq_true, decide_eq_true_eq] at this
    exact ⟨this.1.1.1, this.1.1.2, this.1.2, this.2⟩
  · rintro ⟨t1, t2, t3, t4⟩
    rw [decide_eq_true t1, decide_eq_true t2, decide_eq_true t3, decide_eq_true t4] at h4
    exact of_decide_eq_true h4
set_option maxRecDepth 100000 in
theorem bTabl3 : bTabl 3 = [] ∧ bTabl 2 = [] ∧ bTabl 1 = [] ∧ bTabl 0 = [] := by decide +kernel
set_option maxRecDepth 100000 in
theorem bL03 : bL0 (fun _ => true) 3 0 = [] ∧ bL0 (fun _ => true) 2 0 = [] ∧ bL0 (fun _ => true) 1 0 = [] ∧ bL0 (fun _ => true) 0 0 = [] := by decide +kernel
section O60
variable {n : Nat} {σ : on_S} {p q : Int} {w : bW}
theorem bTabl_any {m : Int} (h0 : 0 ≤ m) (h9 : m ≤ 9) : (bL0 (fun _ => true) m 0).filter bCan = bTabl m := by
  by_cases h : 4 ≤ m
  · exact bTabl_all h h9
  · have c : m = 0 ∨ m = 1 ∨ m = 2 ∨ m = 3 := by omega
    rcases c with c | c | c | c <;> subst c
    · rw [bL03.2.2.2, bTabl3.2.2.2]; rfl
    · rw [bL03.2.2.1, bTabl3.2.2.1]; rfl
    · rw [bL03.2.1, bTabl3.2.1]; rfl
    · rw [bL03.1, bTabl3.1]; rfl
theorem bTabl_mem {m : Int} (h0 : 0 ≤ m) (h9 : m ≤ 9) {r : bQd} : r ∈ bTabl m ↔ bVr (fun _ => true) m r ∧ bCan r = true := by
  rw [← bTabl_any h0 h9, List.mem_filter, bL0_mem]
theorem bHs_nat (hk : bOk w) {r : bQd} (h : bVr (fun _ => true) (w 3) r) : ∃ a b c d : Nat, (a < 4 ∧ b < 4 ∧ c < 4 ∧ d < 4) ∧ bMan w r.1 0 = a ∧ bMan w r.2.1 0 = b ∧ bMan w r.2.2.1 0 = c ∧ bMan w r.2.2.2 0 = d := by
  have h0 := hk.c.1
  obtain ⟨⟨h1, -⟩, ⟨h2, -⟩, ⟨h3, -⟩, ⟨h4, -⟩, -⟩ := h
  have a := (hk.m _ h1.1 h1.2).1
  have b := (hk.m _ h2.1 h2.2).1
  have c := (hk.m _ h3.1 h3.2).1
  have d := (hk.m _ h4.1 h4.2).1
  exact ⟨(bMan w r.1 0).toNat, (bMan w r.2.1 0).toNat, (bMan w r.2.2.1 0).toNat, (bMan w r.2.2.2 0).toNat, ⟨by omega, by omega, by omega, by omega⟩, by omega, by omega, by omega, by omega⟩
theorem bHs_b (hk : bOk w) {r : bQd} (h : bVr (fun _ => true) (w 3) r) : 0 ≤ bHs w r ∧ bHs w r < 16 := by
  obtain ⟨a, b, c, d, ⟨a4, b4, c4, d4⟩, e1, e2, e3, e4⟩ := bHs_nat hk h
  unfold bHs
  rw [e1, e2, e3, e4]
  exact bOr4_b a a4 b b4 c c4 d d4
theorem bHs_in (hk : bOk w) {r : bQd} (h : bVr (fun _ => true) (w 3) r) {S : Int} (s0 : 0 ≤ S) (s1 : S < 16) : on_and (bHs w r) (on_xor S (-1)) = 0 ↔ bVr (bOkS w S) (w 3) r := by
  obtain ⟨a, b, c, d, ⟨a4, b4, c4, d4⟩, e1, e2, e3, e4⟩ := bHs_nat hk h
  obtain ⟨⟨h1, -⟩, ⟨h2, -⟩, ⟨h3, -⟩, ⟨h4, -⟩, n⟩ := h
  have k := bOr4_in S.toNat (by omega) a a4 b b4 c c4 d d4
  rw [show (S.toNat : Int) = S by omega] at k
  unfold bHs bVr bOkS
  rw [e1, e2, e3, e4, k]
  simp only [decide_eq_true_eq]
  constructor
  · rintro ⟨k1, k2, k3, k4⟩
    exact ⟨⟨h1, k1⟩, ⟨h2, k2⟩, ⟨h3, k3⟩, ⟨h4, k4⟩, n⟩
  · rintro ⟨⟨-, k1⟩, ⟨-, k2⟩, ⟨-, k3⟩, ⟨-, k4⟩, -⟩
    exact ⟨k1, k2, k3, k4⟩
theorem c_housesIn (hk : bOk w) (hR : bRp 2 w σ) {i : Nat} (hi : i < 378) (hv : bVr (fun _ => true) (w 3) (bDec (on_rowsT.getD i 0))) : pf_X7_housesIn (bRow i) σ = some (bHs w (bDec (on_rowsT.getD i 0)), σ) := by
  have hm := hk.c.2.2.2.1
  have m0 := c_manOf (σ := σ) hi (c := 0) (by omega) (by omega)
  have m1 := c_manOf (σ := σ) hi (c := 1) (by omega) (by omega)
  have m2 := c_manOf (σ := σ) hi (c := 2) (by omega) (by omega)
  have m3 := c_manOf (σ := σ) hi (c := 3) (by omega) (by omega)
  generalize hr : bDec (on_rowsT.getD i 0) = r at *
  obtain ⟨a, b, c, d⟩ := r
  obtain ⟨⟨h1, -⟩, ⟨h2, -⟩, ⟨h3, -⟩, ⟨h4, -⟩, -⟩ := hv
  simp only at h1 h2 h3 h4
  rw [show bQp (a, b, c, d) 0 = a from rfl] at m0
  rw [show bQp (a, b, c, d) 1 = b from rfl] at m1
  rw [show bQp (a, b, c, d) 2 = c from rfl] at m2
  rw [show bQp (a, b, c, d) 3 = d from rfl] at m3
  unfold pf_X7_housesIn
  rw [show on_N = 99995 + 1 + 1 + 1 + 1 + 1 from rfl, pf_X7_housesIn_4, bLtT (by omega) (by omega) (by omega), bCl m0, bRd h1.1 (by omega), (hR.m a h1.1 h1.2).1, show (0 : Int) + 1 = 1 from rfl, pf_X7_housesIn_4, bLtT (by omega) (by omega) (by omega), bCl m1, bRd h2.1 (by omega), (hR.m b h2.1 h2.2).1, show (1 : Int) + 1 = 2 from rfl, pf_X7_housesIn_4, bLtT (by omega) (by omega) (by omega), bCl m2, bRd h3.1 (by omega), (hR.m c h3.1 h3.2).1, show (2 : Int) + 1 = 3 from rfl, pf_X7_housesIn_4, bLtT (by omega) (by omega) (by omega), bCl m3, bRd h4.1 (by omega), (hR.m d h4.1 h4.2).1, show (3 : Int) + 1 = 4 from rfl, pf_X7_housesIn_4, bLtF (by omega) (by omega) (by omega)]
  rfl
/-- the class has the best of each set of houses -/
def bSum (w : bW) (n x : Int) (σ : on_S) : Prop := ∀ S : Int, 0 ≤ S → S < 16 → σ 58 S = bBest (bCv w n x) ((bTabl (w 3)).filter fun r => decide (bHs w r = S)) 0
theorem c_sumByHouses (hk : bOk w) (hR : bRp 2 w σ) {n x : Int} (n0 : 0 ≤ n) (n1 : n < w 4) (hY : bRdy w n x σ) (hO : bRo σ) : ∃ σ' : on_S, pf_X7_sumByHouses σ = some (0, σ') ∧ (∀ c, c ≠ 58 → σ' c = σ c) ∧ bSum w n x σ' := by
  have hm := hk.c.2.2.2.1
  have F : ∀ (r nf : Nat) (k : Int) (σ' : on_S), 0 ≤ k → k + (r : Int) = 16 → r < nf → (∀ c, c ≠ 58 → σ' c = σ c) → (∀ i : Int, 0 ≤ i → i < k → σ' 58 i = 0) → ∃ σ'' : on_S, pf_J7_fill_53178_5 58 16 nf 0 k 16 σ' = some (0, σ'') ∧ (∀ c, c ≠ 58 → σ'' c = σ c) ∧ (∀ i : Int, 0 ≤ i → i < 16 → σ'' 58 i = 0) := by
    intro r
    induction r with
    | zero =>
      intro nf k σ' k0 hk' hnf h1 h2
      cases nf with
      | zero => omega
      | succ nf =>
        have : k = 16 := by omega
        subst this
        exact ⟨σ', by rw [pf_J7_fill_53178_5, bLtF (by omega) (by omega) (by omega)], h1, h2⟩
    | succ r ih =>
      intro nf k σ' k0 hk' hnf h1 h2
      cases nf with
      | zero => omega
      | succ nf =>
        rw [pf_J7_fill_53178_5, bLtT (by omega) (by omega) (by omega), bWr k0 (by omega)]
        refine ih nf (k + 1) _ (by omega) (by omega) (by omega) (fun c hc => by rw [bst_nc hc]; exact h1 c hc) (fun i i0 i1 => ?_)
        rw [bst_if]
        by_cases e : i = k
        · rw [if_pos e]
        · rw [if_neg e]; exact h2 i i0 (by omega)
  obtain ⟨σ1, a1, a2, a3⟩ := F 16 on_N 0 σ (by omega) (by omega) (by unfold on_N; omega) (fun _ _ => rfl) (fun i i0 i1 => by omega)
  have L : ∀ (r nf : Nat) (k : Nat) (σ' : on_S), k + r = 378 → r < nf → (∀ c, c ≠ 58 → σ' c = σ c) → (∀ S : Int, 0 ≤ S → S < 16 → 0 ≤ σ' 58 S ∧ σ' 58 S ≤ 396) → ∃ σ'' : on_S, pf_X7_sumByHouses_10 nf (k : Int) σ' = some (0, σ'') ∧ (∀ c, c ≠ 58 → σ'' c = σ c) ∧ ∀ S : Int, 0 ≤ S → S < 16 → σ'' 58 S = bBest (bCv w n x) ((bTRw (w 3) k).filter fun r => decide (bHs w r = S)) (σ' 58 S) := by
    intro r
    induction r with
    | zero =>
      intro nf k σ' hkr hnf h1 h2
      cases nf with
      | zero => omega
      | succ nf =>
        have e : bTRw (w 3) k = [] := by
          unfold bTRw; rw [List.drop_eq_nil_of_le (by rw [bRows_len]; omega)]; rfl
        exact ⟨σ', by rw [pf_X7_sumByHouses_10, bLtF (by omega) (by omega) (by omega)], h1, fun S _ _ => by rw [e]; rfl⟩
    | succ r ih =>
      intro nf k σ' hkr hnf h1 h2
      cases nf with
      | zero => omega
      | succ nf =>
        have k378 : k < 378 := by omega
        have R1 : bRp 2 w σ' := hR.to fun j hj => h1 _ (by omega)
        have Y1 : bRdy w n x σ' := ⟨by rw [h1 55 (by omega)]; exact hY.1, fun m m0 m1 => by rw [h1 57 (by omega)]; exact hY.2 m m0 m1⟩
        have o1 : σ' 56 (k : Int) = bRow k := by rw [h1 56 (by omega)]; exact hO k k378
        rw [pf_X7_sumByHouses_10, bLtT (by omega) (by omega) (by omega), bRd (by omega) (by omega), o1, bCl (c_isThereR R1 hk k378), bE01, bTRw_go k378]
        by_cases hp : bPre (w 3) (bDec (on_rowsT.getD k 0)) = true
        · have vm : bDec (on_rowsT.getD k 0) ∈ bTabl (w 3) := bTRw_mem (k := k) (by rw [bTRw_go k378, if_pos hp]; exact List.mem_cons_self ..)
          have vr := ((bTabl_mem hm.1 hm.2).mp vm).1
          have cb := bCv_b hk (x := x) n0 n1 (bDec (on_rowsT.getD k 0))
          have hb := bHs_b hk vr
          have v2 := h2 _ hb.1 hb.2
          rw [if_pos hp, if_pos hp, bRd (by omega) (by omega), o1, bCl (c_housesIn hk R1 k378 vr), bRd hb.1 (by omega), bRd (by omega) (by omega), o1, bCl (c_carriedBy hk R1 n0 n1 Y1 k378 vr), bMx (by omega) (by omega), bWr hb.1 (by omega), show (k : Int) + 1 = ((k + 1 : Nat) : Int) by omega]
          obtain ⟨σ'', b1, b2, b3⟩ := ih nf (k + 1) (on_st σ' 58 (bHs w (bDec (on_rowsT.getD k 0))) (max (σ' 58 (bHs w (bDec (on_rowsT.getD k 0)))) (bCv w n x (bDec (on_rowsT.getD k 0))))) (by omega) (by omega) (fun c hc => by rw [bst_nc hc]; exact h1 c hc) (fun S s0 s1 => by
            rw [bst_if]; split
            · omega
            · exact h2 S s0 s1)
          refine ⟨σ'', b1, b2, fun S s0 s1 => ?_⟩
          rw [b3 S s0 s1, List.filter_cons, bst_if]
          by_cases e : S = bHs w (bDec (on_rowsT.getD k 0))
          · rw [if_pos e, if_pos (decide_eq_true e.symm), bBest, e]
          · rw [if_neg e, if_neg (fun u => e (of_decide_eq_true u).symm)]
        · rw [if_neg hp, if_neg hp, show (k : Int) + 1 = ((k + 1 : Nat) : Int) by omega]
          exact ih nf (k + 1) σ' (by omega) (by omega) h1 h2
  obtain ⟨σ2, b1, b2, b3⟩ := L 378 on_N 0 σ1 (by omega) (by unfold on_N; omega) a2 (fun S s0 s1 => by rw [a3 S s0 s1]; omega)
  refine ⟨σ2, ?_, b2, fun S s0 s1 => by rw [b3 S s0 s1, a3 S s0 s1]; rfl⟩
  unfold pf_X7_sumByHouses
  rw [bCl (show pf_J7_fill_53178 58 16 0 σ = some (0, σ1) from a1)]
  exact b1
/-- the most that some houses can do alone -/
def bWor (w : bW) (n x S : Int) : Int := max 0 (bBest (bVal w n x (bNet w n 2)) (bL0 (bOkS w S) (w 3) 0) (-1))
theorem bBest_le {f : bQd → Int} {B : Int} : ∀ (L : List bQd) (b : Int), b ≤ B → (∀ r ∈ L, f r ≤ B) → bBest f L b ≤ B := by
  intro L
  induction L with
  | nil => intro b h _; exact h
  | cons a L ih =>
    intro b h hr
    rw [bBest]
    have := hr a (List.mem_cons_self ..)
    exact ih _ (by omega) fun r h => hr r (List.mem_cons_of_mem _ h)
theorem bVr_true {ok : Int → Bool} {m : Int} {r : bQd} (h : bVr ok m r) : bVr (fun _ => true) m r := by
  obtain ⟨⟨h1, -⟩, ⟨h2, -⟩, ⟨h3, -⟩, ⟨h4, -⟩, n⟩ := h
  exact ⟨⟨h1, rfl⟩, ⟨h2, rfl⟩, ⟨h3, rfl⟩, ⟨h4, rfl⟩, n⟩
theorem bOrb_f {f : bQd → Int} {ok : Int → Bool} {m : Int} (hf : bSy f ok m) {r : bQd} (h : bVr ok m r) : ∀ x ∈ bOrb r, f x = f r := by
  intro x hx
  have h1 := bVr_turn h
  have h2 := bVr_turn h1
  have g := bVr_flip h
  have g1 := bVr_turn g
  have g2 := bVr_turn g1
  have e1 := (hf r h).1
  have e2 := (hf _ h1).1
  have e3 := (hf _ h2).1
  have e4 := (hf r h).2
  have e5 := (hf _ g).1
  have e6 := (hf _ g1).1
  have e7 := (hf _ g2).1
  have e : x = r ∨ x = bTurn r ∨ x = bTurn (bTurn r) ∨ x = bTurn (bTurn (bTurn r)) ∨ x = bFlip r ∨ x = bTurn (bFlip r) ∨ x = bTurn (bTurn (bFlip r)) ∨ x = bTurn (bTurn (bTurn (bFlip r))) := by
    simpa [bOrb] using hx
  rcases e with e | e | e | e | e | e | e | e <;> subst e
  · rfl
  · exact e1
  · rw [e2, e1]
  · rw [e3, e2, e1]
  · exact e4
  · rw [e5, e4]
  · rw [e6, e5, e4]
  · rw [e7, e6, e5, e4]
theorem c_worthOf (hk : bOk w) {n x S : Int} (n0 : 0 ≤ n) (n1 : n < w 4) (hX : bSum w n x σ) (s0 : 0 ≤ S) (s1 : S < 16) : pf_X7_worthOf S σ = some (bWor w n x S, σ) ∧ (0 ≤ bWor w n x S ∧ bWor w n x S ≤ 396) := by
  have hm := hk.c.2.2.2.1
  have xb : ∀ T : Int, 0 ≤ T → T < 16 → 0 ≤ σ 58 T ∧ σ 58 T ≤ 396 := fun T t0 t1 => by
    rw [hX T t0 t1]
    exact ⟨(bBest_ge _ 0).1, bBest_le _ 0 (by omega) fun r _ => (bCv_b hk n0 n1 r).2⟩
  -- the greatest of those within
  have L : ∀ (r nf : Nat) (k a : Int), 0 ≤ k → k + (r : Int) = 16 → r < nf → (0 ≤ a ∧ a ≤ 396) → ∃ v : Int, pf_X7_worthOf_4 nf S a k σ = some (v, σ) ∧ (a ≤ v ∧ v ≤ 396) ∧ (∀ T : Int, k ≤ T → T < 16 → on_and T (on_xor S (-1)) = 0 → σ 58 T ≤ v) ∧ (v = a ∨ ∃ T : Int, k ≤ T ∧ T < 16 ∧ on_and T (on_xor S (-1)) = 0 ∧ v = σ 58 T) := by
    intro r
    induction r with
    | zero =>
      intro nf k a k0 hk' hnf ha
      cases nf with
      | zero => omega
      | succ nf => exact ⟨a, by rw [pf_X7_worthOf_4, bLtF (by omega) (by omega) (by omega)], by omega, fun T t0 t1 => by omega, Or.inl rfl⟩
    | succ r ih =>
      intro nf k a k0 hk' hnf ha
      cases nf with
      | zero => omega
      | succ nf =>
        have kb := xb k k0 (by omega)
        have hR := on_and_R k (on_xor S (-1))
        rw [pf_X7_worthOf_4, bLtT (by omega) (by omega) (by omega)]
        by_cases z : on_and k (on_xor S (-1)) = 0
        · obtain ⟨v, v1, v2, v3, v4⟩ := ih nf (k + 1) (max a (σ 58 k)) (by omega) (by omega) (by omega) (by omega)
          refine ⟨v, by rw [bEqT (by omega) z, bRd k0 (by omega), bMx (by omega) (by omega), v1], by omega, fun T t0 t1 t2 => ?_, ?_⟩
          · by_cases e : T = k
            · rw [e]; omega
            · exact v3 T (by omega) t1 t2
          · rcases v4 with v4 | ⟨T, t0, t1, t2, t3⟩
            · by_cases e : a ≤ σ 58 k
              · exact Or.inr ⟨k, by omega, by omega, z, by omega⟩
              · exact Or.inl (by omega)
            · exact Or.inr ⟨T, by omega, t1, t2, t3⟩
        · obtain ⟨v, v1, v2, v3, v4⟩ := ih nf (k + 1) a (by omega) (by omega) (by omega) ha
          refine ⟨v, by rw [bEqF hR (by omega) z, v1], v2, fun T t0 t1 t2 => ?_, ?_⟩
          · by_cases e : T = k
            · rw [e] at t2; exact absurd t2 z
            · exact v3 T (by omega) t1 t2
          · rcases v4 with v4 | ⟨T, t0, t1, t2, t3⟩
            · exact Or.inl v4
            · exact Or.inr ⟨T, by omega, t1, t2, t3⟩
  obtain ⟨v, v1, v2, v3, v4⟩ := L 16 on_N 0 0 (by omega) (by omega) (by unfold on_N; omega) (by omega)
  have ge : ∀ t, t ∈ bTabl (w 3) → bVr (bOkS w S) (w 3) t → bCv w n x t ≤ v := by
    intro t ht hv
    have vt := ((bTabl_mem hm.1 hm.2).mp ht).1
    have hb := bHs_b hk vt
    have := v3 (bHs w t) hb.1 hb.2 ((bHs_in hk vt s0 s1).mpr hv)
    rw [hX _ hb.1 hb.2] at this
    have g := (bBest_ge (f := bCv w n x) ((bTabl (w 3)).filter fun r => decide (bHs w r = bHs w t)) 0).2 t (List.mem_filter.mpr ⟨ht, decide_eq_true rfl⟩)
    omega
  have val : ∀ r, r ∈ bL0 (bOkS w S) (w 3) 0 → bVal w n x (bNet w n 2) r ≤ v := by
    intro r hr
    have vr := bL0_mem.mp hr
    rw [bVal_cv hk n0 n1 vr]
    obtain ⟨h1, h2, h3⟩ := bCan1_in vr
    rw [bOrb_f (bCv_sy hk) h3 r h2]
    exact ge _ ((bTabl_mem hm.1 hm.2).mpr ⟨bVr_true h3, h1⟩) h3
  have e : bWor w n x S = v := by
    have up := bBest_le (f := bVal w n x (bNet w n 2)) (B := v) (bL0 (bOkS w S) (w 3) 0) (-1) (by omega) val
    unfold bWor
    rcases v4 with v4 | ⟨T, t0, t1, t2, t3⟩
    · omega
    · -- some row of the set is worth as much
      rw [hX T t0 t1] at t3
      by_cases z : v = 0
      · omega
      · have at' : ∀ (L : List bQd) (b : Int), bBest (bCv w n x) L b = b ∨ ∃ r ∈ L, bBest (bCv w n x) L b = bCv w n x r := by
          intro L
          induction L with
          | nil => intro b; exact Or.inl rfl
          | cons a L ih =>
            intro b
            rw [bBest]
            rcases ih (max b (bCv w n x a)) with h | ⟨r, hr, h⟩
            · by_cases g : b ≤ bCv w n x a
              · exact Or.inr ⟨a, List.mem_cons_self .., by omega⟩
              · exact Or.inl (by omega)
            · exact Or.inr ⟨r, List.mem_cons_of_mem _ hr, h⟩
        rcases at' ((bTabl (w 3)).filter fun r => decide (bHs w r = T)) 0 with h | ⟨r, hr, h⟩
        · omega
        · obtain ⟨hr1, hr2⟩ := List.mem_filter.mp hr
          have vt := ((bTabl_mem hm.1 hm.2).mp hr1).1
          have ok : bVr (bOkS w S) (w 3) r := (bHs_in hk vt s0 s1).mp (by rw [of_decide_eq_true hr2]; exact t2)
          have g := (bBest_ge (f := bVal w n x (bNet w n 2)) (bL0 (bOkS w S) (w 3) 0) (-1)).2 r (bL0_mem.mpr ok)
          rw [bVal_cv hk n0 n1 ok] at g
          omega
  rw [e]
  exact ⟨v1, by omega, by omega⟩
end O60
