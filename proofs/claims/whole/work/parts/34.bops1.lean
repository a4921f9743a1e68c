/-- the rows that are looked at -/
def on_rowsT : List Nat := [291, 292, 293, 294, 295, 296, 306, 308, 309, 310, 311, 312, 322, 323, 325, 326, 327, 328, 338, 339, 340, 342, 343, 344, 354, 355, 356, 357, 359, 360, 370, 371, 372, 373, 374, 376, 386, 387, 388, 389, 390, 391, 531, 532, 533, 534, 535, 536, 564, 565, 566, 567, 568, 579, 581, 582, 583, 584, 595, 596, 598, 599, 600, 611, 612, 613, 615, 616, 627, 628, 629, 630, 632, 643, 644, 645, 646, 647, 788, 789, 790, 791, 792, 804, 805, 806, 807, 808, 837, 838, 839, 840, 852, 854, 855, 856, 868, 869, 871, 872, 884, 885, 886, 888, 900, 901, 902, 903, 1045, 1046, 1047, 1048, 1061, 1062, 1063, 1064, 1077, 1078, 1079, 1080, 1110, 1111, 1112, 1125, 1127, 1128, 1141, 1142, 1144, 1157, 1158, 1159, 1302, 1303, 1304, 1318, 1319, 1320, 1334, 1335, 1336, 1350, 1351, 1352, 1383, 1384, 1398, 1400, 1414, 1415, 1559, 1560, 1575, 1576, 1591, 1592, 1607, 1608, 1623, 1624, 1656, 1671, 1816, 1832, 1848, 1864, 1880, 1896, 4660, 4661, 4662, 4663, 4664, 4675, 4677, 4678, 4679, 4680, 4691, 4692, 4694, 4695, 4696, 4707, 4708, 4709, 4711, 4712, 4723, 4724, 4725, 4726, 4728, 4739, 4740, 4741, 4742, 4743, 4900, 4901, 4902, 4903, 4904, 4933, 4934, 4935, 4936, 4948, 4950, 4951, 4952, 4964, 4965, 4967, 4968, 4980, 4981, 4982, 4984, 4996, 4997, 4998, 4999, 5157, 5158, 5159, 5160, 5173, 5174, 5175, 5176, 5206, 5207, 5208, 5221, 5223, 5224, 5237, 5238, 5240, 5253, 5254, 5255, 5414, 5415, 5416, 5430, 5431, 5432, 5446, 5447, 5448, 5479, 5480, 5494, 5496, 5510, 5511, 5671, 5672, 5687, 5688, 5703, 5704, 5719, 5720, 5752, 5767, 5928, 5944, 5960, 5976, 5992, 9029, 9030, 9031, 9032, 9044, 9046, 9047, 9048, 9060, 9061, 9063, 9064, 9076, 9077, 9078, 9080, 9092, 9093, 9094, 9095, 9269, 9270, 9271, 9272, 9302, 9303, 9304, 9317, 9319, 9320, 9333, 9334, 9336, 9349, 9350, 9351, 9526, 9527, 9528, 9542, 9543, 9544, 9575, 9576, 9590, 9592, 9606, 9607, 9783, 9784, 9799, 9800, 9815, 9816, 9848, 9863, 10040, 10056, 10072, 10088, 13398, 13399, 13400, 13413, 13415, 13416, 13429, 13430, 13432, 13445, 13446, 13447, 13638, 13639, 13640, 13671, 13672, 13686, 13688, 13702, 13703, 13895, 13896, 13911, 13912, 13944, 13959, 14152, 14168, 14184, 17767, 17768, 17782, 17784, 17798, 17799, 18007, 18008, 18040, 18055, 18264, 18280, 22136, 22151, 22376]
/-! B: what holds between calls; the first calls -/
def bImg (σ : on_S) (k : Nat) : bW := fun i => σ 79 ((687 * (k : Int)) + i)
def bRow (i : Nat) : Int := (on_rowsT.getD i 0 : Nat)
def bTp (σ : on_S) : Prop := σ 0 1 = σ 77 5 ∧ (0 ≤ σ 77 5 ∧ σ 77 5 ≤ 1400) ∧ (∀ i : Int, 0 ≤ i → i < 1400 → σ 81 i = σ 1 i ∧ (-128 ≤ σ 1 i ∧ σ 1 i < 128)) ∧ σ 52 8 = σ 77 12 ∧ σ 52 9 = σ 77 13 ∧ (0 ≤ σ 77 12 ∧ σ 77 12 ≤ 3) ∧ (-1 ≤ σ 77 13 ∧ σ 77 13 ≤ 1400)
def bSq (σ : on_S) : Prop := ∀ s : Nat, s < 4 → ((σ (69 + 2 * s) 0 = -1 ∧ σ 96 s = -1) ∨ ((0 ≤ σ (69 + 2 * s) 0 ∧ σ (69 + 2 * s) 0 ≤ 3) ∧ σ 97 s = σ (69 + 2 * s) 0 ∧ σ (69 + 2 * s) 1 = σ 96 s ∧ (0 ≤ σ 96 s ∧ σ 96 s ≤ 60))) ∧ ∀ i : Int, 0 ≤ i → i < 60 → σ (69 + 2 * s + 1) i = σ 98 ((60 * (s : Int)) + i) ∧ on_RL (σ (69 + 2 * s + 1) i)
def bIm (n : Nat) (σ : on_S) : Prop := ∃ j : Nat, n = 100 + 25 * j ∧ (∀ k : Nat, k < 3 → ((σ 53 k = 0 ∧ σ 80 k = 0) ∨ (σ 80 k = 1 ∧ ∃ i : Nat, i < j ∧ σ 53 k = ((100 + 25 * i : Nat) : Int) ∧ bOk (bImg σ k) ∧ bRp (100 + 25 * i) (bImg σ k) σ))) ∧ (∀ k k' : Nat, k < 3 → k' < 3 → σ 53 k ≠ 0 → σ 53 k = σ 53 k' → k = k')
def bRo (σ : on_S) : Prop := ∀ i : Nat, i < 378 → σ 56 i = bRow i
def bI (n : Nat) (σ : on_S) : Prop := bOk (σ 78) ∧ bRp 2 (σ 78) σ ∧ bTp σ ∧ bSq σ ∧ bIm n σ ∧ bRo σ
section I34
variable {n : Nat} {σ σ' : on_S}
theorem bI.k (h : bI n σ) : bOk (σ 78) := h.1
theorem bI.r (h : bI n σ) : bRp 2 (σ 78) σ := h.2.1
theorem bI.t (h : bI n σ) : bTp σ := h.2.2.1
theorem bI.s (h : bI n σ) : bSq σ := h.2.2.2.1
theorem bI.i (h : bI n σ) : bIm n σ := h.2.2.2.2.1
theorem bI.o (h : bI n σ) : bRo σ := h.2.2.2.2.2
theorem bScr_no {c : Nat} (h : c ∈ bScr) : (c = 26 ∨ (55 ≤ c ∧ c ≤ 68) ∨ c = 77 ∨ (82 ≤ c ∧ c ≤ 95) ∨ c = 99) ∧ c ≠ 56 ∧ c ≠ 63 ∧ c ≠ 67 := by
  unfold bScr at h
  simp only [List.mem_cons, List.mem_nil_iff, or_false] at h
  omega
theorem bS.ne {c : Nat} (hs : bS σ σ') (h : ¬ ((c = 26 ∨ (55 ≤ c ∧ c ≤ 68) ∨ c = 77 ∨ (82 ≤ c ∧ c ≤ 95) ∨ c = 99) ∧ c ≠ 56 ∧ c ≠ 63 ∧ c ≠ 67)) : σ' c = σ c := hs.1 c fun q => h (bScr_no q)
theorem bS.rp {b : Nat} {w : bW} (hs : bS σ σ') (hb : b = 2 ∨ 100 ≤ b) (h : bRp b w σ) : bRp b w σ' := h.to fun k hk => hs.ne (by omega)
theorem bS.tp (hs : bS σ σ') (h : bTp σ) : bTp σ' := by
  unfold bTp at *
  rw [hs.ne (c := 0) (by omega), hs.ne (c := 1) (by omega), hs.ne (c := 81) (by omega), hs.ne (c := 52) (by omega), hs.2.1, hs.2.2.1, hs.2.2.2]
  exact h
theorem bS.sl (hs : bS σ σ') (h : bSq σ) : bSq σ' := by
  intro s hs4
  rw [hs.ne (c := 69 + 2 * s) (by omega), hs.ne (c := 69 + 2 * s + 1) (by omega), hs.ne (c := 96) (by omega), hs.ne (c := 97) (by omega), hs.ne (c := 98) (by omega)]
  exact h s hs4
theorem bS.im (hs : bS σ σ') (h : bIm n σ) : bIm n σ' := by
  obtain ⟨j, h1, h2, h3⟩ := h
  have e : ∀ k, bImg σ' k = bImg σ k := fun k => by unfold bImg; rw [hs.ne (c := 79) (by omega)]
  refine ⟨j, h1, fun k hk => ?_, fun k k' => ?_⟩
  · rw [hs.ne (c := 53) (by omega), hs.ne (c := 80) (by omega), e]
    rcases h2 k hk with a | ⟨a, i, i1, i2, i3, i4⟩
    · exact Or.inl a
    · exact Or.inr ⟨a, i, i1, i2, i3, hs.rp (by omega) i4⟩
  · rw [hs.ne (c := 53) (by omega)]; exact h3 k k'
theorem bS.inv (hs : bS σ σ') (h : bI n σ) : bI n σ' := by
  refine ⟨by rw [hs.w]; exact h.k, by rw [hs.w]; exact hs.rp (Or.inl rfl) h.r, hs.tp h.t, hs.sl h.s, hs.im h.i, ?_⟩
  intro i hi
  rw [hs.ne (c := 56) (by omega)]
  exact h.o i hi
end I34
/-- a call: the class, then the reference: they answer alike -/
def bOp (n : Nat) (σ : on_S) (x y : on_S → Option on_O) : Prop := ∃ (r : Int) (σ1 σ2 : on_S), x σ = some (r, σ1) ∧ y σ1 = some (r, σ2) ∧ on_R r ∧ bI n σ2
theorem bOp.ro {n : Nat} {σ : on_S} {x y : on_S → Option on_O} {r : Int} (hI : bI n σ) (hr : on_R r) (hx : bK (x σ) σ r) (hy : ∀ σ1, bI n σ1 → σ1 78 = σ 78 → bS σ σ1 → bK (y σ1) σ1 r) : bOp n σ x y := by
  obtain ⟨σ1, h1, s1⟩ := hx
  obtain ⟨σ2, h2, s2⟩ := hy σ1 (s1.inv hI) s1.w s1
  exact ⟨r, σ1, σ2, h1, h2, hr, (s1.tr s2).inv hI⟩
theorem bEqS {a b x y : Int} {σ : on_S} (ha : on_R a) (hb : on_R b) : on_Eq a b (some (x, σ)) (some (y, σ)) = some (if a = b then x else y, σ) := by
  by_cases h : a = b
  · rw [bEqT ha h, if_pos h]
  · rw [bEqF ha hb h, if_neg h]
theorem bLtS {a b x y : Int} {σ : on_S} (ha : on_R a) (hb : on_R b) : on_Lt a b (some (x, σ)) (some (y, σ)) = some (if a < b then x else y, σ) := by
  by_cases h : a < b
  · rw [bLtT ha hb h, if_pos h]
  · rw [bLtF ha hb (by omega), if_neg h]
theorem bLeS {a b x y : Int} {σ : on_S} (ha : on_R a) (hb : on_R b) : on_Le a b (some (x, σ)) (some (y, σ)) = some (if a ≤ b then x else y, σ) := by
  by_cases h : a ≤ b
  · rw [bLeT ha hb h, if_pos h]
  · rw [bLeF ha hb (by omega), if_neg h]
theorem bIfS {P : Prop} [Decidable P] {x y : Int} {σ : on_S} : (if P then some (x, σ) else some (y, σ)) = some (if P then x else y, σ) := by
  by_cases h : P
  · rw [if_pos h, if_pos h]
  · rw [if_neg h, if_neg h]
section O34
variable {n : Nat} {σ : on_S} {p q t : Int}
def rWindow (w : bW) (p q : Int) : Int := if 0 ≤ p ∧ p < w 2 then (if q = 0 then bHouse w p else if q = 1 then bStorey w p else if q = 2 then bNetAt w p else -2) else -2
theorem c_window (hI : bI n σ) (hp : on_R p) (hq : on_R q) : pf_X11_window p q σ = some (rWindow (σ 78) p q, σ) := by
  obtain ⟨q0, q1, q2, q3, q4, q5, q6, q7⟩ := hI.k.c
  unfold pf_X11_window rWindow
  rw [bCl (c_hasWindow hI.k hI.r hp), bE01]
  by_cases h : 0 ≤ p ∧ p < σ 78 2
  · obtain ⟨e1, e2, e3⟩ := hI.r.wi p h.1 h.2
    rw [if_pos h, if_pos h]
    simp only [on_sw]
    rw [bRd h.1 (by omega), bRd h.1 (by omega), bRd h.1 (by omega), e1, e2, e3, bEqS hq (by omega), bEqS hq (by omega), bEqS hq (by omega)]
    rfl
  · rw [if_neg h, if_neg h]
theorem m_window (hI : bI n σ) (hp : on_R p) (hq : on_R q) : pf_X12_window p q σ = some (rWindow (σ 78) p q, σ) := by
  obtain ⟨q0, q1, q2, q3, q4, q5, q6, q7⟩ := hI.k.c
  unfold pf_X12_window rWindow
  rw [bCl (m_isWindow hI.k hp), bE01]
  by_cases h : 0 ≤ p ∧ p < σ 78 2
  · rw [if_pos h, if_pos h, bCk hq, bCl (m_in' hq (by omega) (by omega)), bE01, bCl (m_houseOf h.1 (by omega)), bCl (m_storeyOf h.1 (by omega)), bCl (m_netAt hI.k hp), bEqS hq (by omega), bEqS hq (by omega), bIfS]
    congr 2
    by_cases a : q = 0
    · simp [a]
    · by_cases b : q = 1
      · simp [b]
      · by_cases d : q = 2
        · simp [d]
        · rw [if_neg (by omega), if_neg a, if_neg b, if_neg d]
  · rw [if_neg h, if_neg h]
theorem rWindow_R {w : bW} (hk : bOk w) : on_R (rWindow w p q) := by
  obtain ⟨q0, q1, q2, q3, q4, q5, q6, q7⟩ := hk.c
  unfold rWindow
  split
  · rename_i h
    have h1 := hk.wi p h.1 h.2
    have h2 := bNetAt_b hk.c p
    split
    · omega
    · split
      · omega
      · split <;> omega
  · omega
theorem o_window (hI : bI n σ) (hp : on_R p) (hq : on_R q) : bOp n σ (pf_X11_window p q) (pf_X12_window p q) := bOp.ro hI (rWindow_R hI.k) (bK.of (c_window hI hp hq)) fun σ1 h1 e _ => by rw [← e]; exact bK.of (m_window h1 hp hq)
def rMan (w : bW) (p q : Int) : Int := if 0 ≤ p ∧ p < w 3 then (if 0 ≤ q ∧ q ≤ 3 then bMan w p q else -2) else -2
theorem c_man (hI : bI n σ) (hp : on_R p) (hq : on_R q) : pf_X11_man p q σ = some (rMan (σ 78) p q, σ) := by
  obtain ⟨q0, q1, q2, q3, q4, q5, q6, q7⟩ := hI.k.c
  unfold pf_X11_man rMan
  rw [bCl (c_hasMan hI.k hI.r hp), bE01]
  by_cases h : 0 ≤ p ∧ p < σ 78 3
  · obtain ⟨e1, e2, e3, e4⟩ := hI.r.m p h.1 h.2
    rw [if_pos h, if_pos h]
    simp only [on_sw]
    rw [bRd h.1 (by omega), bRd h.1 (by omega), bRd h.1 (by omega), bRd h.1 (by omega), e1, e2, e3, e4, bEqS hq (by omega), bEqS hq (by omega), bEqS hq (by omega), bEqS hq (by omega)]
    congr 2
    by_cases a : q = 0
    · simp [a]
    · by_cases b : q = 1
      · simp [b]
      · by_cases d : q = 2
        · simp [d]
        · by_cases f : q = 3
          · simp [f]
          · rw [if_neg a, if_neg (by omega), if_neg (by omega), if_neg (by omega), if_neg (by omega)]
  · rw [if_neg h, if_neg h]
theorem m_man (hI : bI n σ) (hp : on_R p) (hq : on_R q) : pf_X12_man p q σ = some (rMan (σ 78) p q, σ) := by
  obtain ⟨q0, q1, q2, q3, q4, q5, q6, q7⟩ := hI.k.c
  unfold pf_X12_man pf_X12_man_29 rMan
  rw [bCl (m_isMan hI.k hp), bE01]
  by_cases h : 0 ≤ p ∧ p < σ 78 3
  · rw [if_pos h, if_pos h, bCk hq, bCl (m_in' hq (by omega) (by omega)), bE01]
    by_cases g : 0 ≤ q ∧ q ≤ 3
    · rw [if_pos g, if_pos g, bCl (m_ofMan h.1 (by omega) g.1 (by omega))]
    · rw [if_neg g, if_neg g]
  · rw [if_neg h, if_neg h]
theorem rMan_R {w : bW} (hk : bOk w) : on_R (rMan w p q) := by
  obtain ⟨q0, q1, q2, q3, q4, q5, q6, q7⟩ := hk.c
  unfold rMan
  split
  · rename_i h
    have h1 := hk.m p h.1 h.2
    split
    · rename_i g
      have : q = 0 ∨ q = 1 ∨ q = 2 ∨ q = 3 := by omega
      rcases this with rfl | rfl | rfl | rfl <;> omega
    · omega
  · omega
theorem o_man (hI : bI n σ) (hp : on_R p) (hq : on_R q) : bOp n σ (pf_X11_man p q) (pf_X12_man p q) := bOp.ro hI (rMan_R hI.k) (bK.of (c_man hI hp hq)) fun σ1 h1 e _ => by rw [← e]; exact bK.of (m_man h1 hp hq)
def rNet (w : bW) (p q : Int) : Int := if 0 ≤ p ∧ p < w 4 then (if q = 0 then bNet w p 0 else if q = 1 then bNet w p 1 else if q = 2 then bNet w p 2 else if q = 3 then bNeed w p else if q = 4 then bCar w p (bNet w p 2) else -2) else -2
theorem c_net (hI : bI n σ) (hp : on_R p) (hq : on_R q) : pf_X11_net p q σ = some (rNet (σ 78) p q, σ) := by
  obtain ⟨q0, q1, q2, q3, q4, q5, q6, q7⟩ := hI.k.c
  unfold pf_X11_net rNet
  rw [bCl (c_hasNet hI.k hI.r hp), bE01]
  by_cases h : 0 ≤ p ∧ p < σ 78 4
  · obtain ⟨e1, e2, e3, e4⟩ := hI.r.n p h.1 h.2
    rw [if_pos h, if_pos h]
    simp only [on_sw]
    rw [bRd h.1 (by omega), bRd h.1 (by omega), bRd h.1 (by omega), bCl (c_needOf hI.k hI.r h.1 h.2), bCl (c_carriedNow hI.k hI.r h.1 h.2), e1, e2, e3, bEqS hq (by omega), bEqS hq (by omega), bEqS hq (by omega), bEqS hq (by omega), bEqS hq (by omega)]
    rfl
  · rw [if_neg h, if_neg h]
theorem m_net (hI : bI n σ) (hp : on_R p) (hq : on_R q) : bK (pf_X12_net p q σ) σ (rNet (σ 78) p q) := by
  obtain ⟨q0, q1, q2, q3, q4, q5, q6, q7⟩ := hI.k.c
  unfold pf_X12_net rNet
  rw [bCk hp, bCl (m_isNet hI.k (by omega)), bE01]
  by_cases h : 0 ≤ p ∧ p < σ 78 4
  · rw [if_pos h, if_pos h, bCk hq, bCl (m_in' hq (by omega) (by omega)), bE01]
    by_cases g : 0 ≤ q ∧ q ≤ 4
    · rw [if_pos g]
      by_cases a : q < 3
      · rw [bLtT hq (by omega) a, bCl (m_ofNet h.1 (by omega) g.1 (by omega))]
        have : q = 0 ∨ q = 1 ∨ q = 2 := by omega
        rcases this with rfl | rfl | rfl <;> exact bK.of rfl
      · rw [bLtF hq (by omega) (by omega)]
        by_cases b : q = 3
        · subst b
          rw [bEqT (by omega) rfl, bCl (m_needOf hI.k h.1 h.2)]; exact bK.of rfl
        · have : q = 4 := by omega
          subst this
          rw [bEqF (by omega) (by omega) (by omega), bCl (m_carries hI.k h.1 h.2)]
          exact ⟨_, rfl, bLay_S σ p⟩
    · rw [if_neg g, if_neg (by omega), if_neg (by omega), if_neg (by omega), if_neg (by omega), if_neg (by omega)]; exact bK.of rfl
  · rw [if_neg h, if_neg h]; exact bK.of rfl
theorem rNet_R {w : bW} (hk : bOk w) : on_R (rNet w p q) := by
  obtain ⟨q0, q1, q2, q3, q4, q5, q6, q7⟩ := hk.c
  unfold rNet
  split
  · rename_i h
    have h1 := hk.n p h.1 h.2
    have h2 := bNeed_b hk p
    have h3 := bCar_b hk (wet := bNet w p 2) h.1 h.2
    split
    · omega
    · split
      · omega
      · split
        · omega
        · split
          · omega
          · split <;> omega
  · omega
theorem o_net (hI : bI n σ) (hp : on_R p) (hq : on_R q) : bOp n σ (pf_X11_net p q) (pf_X12_net p q) := bOp.ro hI (rNet_R hI.k) (bK.of (c_net hI hp hq)) fun σ1 h1 e _ => by rw [← e]; exact m_net h1 hp hq
def rCorner (w : bW) (p q t : Int) : Int := if (0 ≤ p ∧ p < w 4) ∧ (0 ≤ q ∧ q < 4) then (if t = 0 then bNet w p (3 + q) else if t = 1 then bManAt w p q else if t = 2 then bHold w (bAt w p) p (bNet w p 0) (bNet w p 2) q else -2) else -2
theorem c_corner (hI : bI n σ) (hp : on_R p) (hq : on_R q) (ht : on_R t) : pf_X11_corner p q t σ = some (rCorner (σ 78) p q t, σ) := by
  obtain ⟨q0, q1, q2, q3, q4, q5, q6, q7⟩ := hI.k.c
  unfold pf_X11_corner rCorner
  rw [bCl (c_hasCorner hI.k hI.r hp hq), bE01]
  by_cases h : (0 ≤ p ∧ p < σ 78 4) ∧ (0 ≤ q ∧ q < 4)
  · obtain ⟨e1, e2, e3, e4⟩ := hI.r.n p h.1.1 h.1.2
    rw [if_pos h, if_pos h]
    simp only [on_sw]
    rw [bRd (by omega) (by omega), bRd (by omega) (by omega), bCl (c_holdNow hI.k hI.r h.1.1 h.1.2 h.2.1 h.2.2), e4 q h.2.1 h.2.2, hI.r.h p q h.1.1 (by omega) h.2.1 h.2.2, bEqS ht (by omega), bEqS ht (by omega), bEqS ht (by omega)]
    rfl
  · rw [if_neg h, if_neg h]
theorem m_corner (hI : bI n σ) (hp : on_R p) (hq : on_R q) (ht : on_R t) : bK (pf_X12_corner p q t σ) σ (rCorner (σ 78) p q t) := by
  obtain ⟨q0, q1, q2, q3, q4, q5, q6, q7⟩ := hI.k.c
  unfold pf_X12_corner rCorner
  rw [bCk hp, bCl (m_isNet hI.k (by omega)), bE01]
  by_cases h : 0 ≤ p ∧ p < σ 78 4
  · obtain ⟨hn1, hn2, hn3, hn4⟩ := hI.k.n p h.1 h.2
    rw [if_pos h, bCl (m_isCorner hq), bE01]
    by_cases h2 : 0 ≤ q ∧ q < 4
    · rw [if_pos h2, if_pos ⟨h, h2⟩, bCk ht, bCl (m_in' ht (by omega) (by omega)), bE01]
      by_cases g : 0 ≤ t ∧ t ≤ 2
      · rw [if_pos g]
        have : t = 0 ∨ t = 1 ∨ t = 2 := by omega
        rcases this with rfl | rfl | rfl
        · rw [bEqT (by omega) rfl, bCl (m_ofNet h.1 (by omega) (by omega) (by omega))]; exact bK.of rfl
        · rw [bEqF (by omega) (by omega) (by omega), bEqT (by omega) rfl, bCl (m_manAt hI.k hp hq)]; exact bK.of rfl
        · have hw := (bLay_S σ p).w
          have hk2 : bOk (bLay σ p 78) := by rw [hw]; exact hI.k
          rw [bEqF (by omega) (by omega) (by omega), bEqF (by omega) (by omega) (by omega), bCl (m_layPosts hI.k hp), bCl (m_ofNet h.1 (by omega) (by omega) (by omega)), bCl (m_ofNet h.1 (by omega) (by omega) (by omega)), hw, bCl (m_holdAt hk2 (by rw [hw]; exact bLay_po σ hI.k p) h.1 (by rw [hw]; exact h.2) hn1.1 (by rw [hw]; exact hn1.2) (by omega) h2.1 h2.2), hw, bHold_congr (p' := bAt (σ 78) p) (fun d d0 d1 => bLay_84 σ p d0 d1) h2.1 h2.2]
          exact ⟨_, rfl, bLay_S σ p⟩
      · rw [if_neg g, if_neg (by omega), if_neg (by omega), if_neg (by omega)]; exact bK.of rfl
    · rw [if_neg h2, if_neg (fun z => h2 z.2)]; exact bK.of rfl
  · rw [if_neg h, if_neg (fun z => h z.1)]; exact bK.of rfl
theorem rCorner_R {w : bW} (hk : bOk w) : on_R (rCorner w p q t) := by
  obtain ⟨q0, q1, q2, q3, q4, q5, q6, q7⟩ := hk.c
  unfold rCorner
  split
  · rename_i h
    have h1 := (hk.n p h.1.1 h.1.2).2.2.2 q h.2.1 h.2.2
    have h2 := bManAt_b hk.c p q
    have h3 := bHold_b hk (p := bAt w p) (x := bNet w p 0) (wet := bNet w p 2) h.1.1 h.1.2 h.2.1 h.2.2
    split
    · omega
    · split
      · omega
      · split <;> omega
  · omega
theorem o_corner (hI : bI n σ) (hp : on_R p) (hq : on_R q) (ht : on_R t) : bOp n σ (pf_X11_corner p q t) (pf_X12_corner p q t) := bOp.ro hI (rCorner_R hI.k) (bK.of (c_corner hI hp hq ht)) fun σ1 h1 e _ => by rw [← e]; exact m_corner h1 hp hq ht
def rJumper (w : bW) (p q : Int) : Int := if 0 ≤ p ∧ p < w 5 then (if q = 0 then bWt w p else if q = 1 then bWin w p else if q = 2 then bForce w p else -2) else -2
theorem c_jumper (hI : bI n σ) (hp : on_R p) (hq : on_R q) : pf_X11_jumper p q σ = some (rJumper (σ 78) p q, σ) := by
  obtain ⟨q0, q1, q2, q3, q4, q5, q6, q7⟩ := hI.k.c
  unfold pf_X11_jumper rJumper
  rw [bCl (c_hasJumper hI.k hI.r hp), bE01]
  by_cases h : 0 ≤ p ∧ p < σ 78 5
  · obtain ⟨e1, e2⟩ := hI.r.j p h.1 h.2
    rw [if_pos h, if_pos h]
    simp only [on_sw]
    rw [bRd h.1 (by omega), bRd h.1 (by omega), bCl (c_forceOf hI.k hI.r h.1 h.2), e1, e2, bEqS hq (by omega), bEqS hq (by omega), bEqS hq (by omega)]
    rfl
  · rw [if_neg h, if_neg h]
theorem m_jumper (hI : bI n σ) (hp : on_R p) (hq : on_R q) : pf_X12_jumper p q σ = some (rJumper (σ 78) p q, σ) := by
  obtain ⟨q0, q1, q2, q3, q4, q5, q6, q7⟩ := hI.k.c
  unfold pf_X12_jumper rJumper
  rw [bCl (m_isJumper hI.k hp), bE01]
  by_cases h : 0 ≤ p ∧ p < σ 78 5
  · rw [if_pos h, if_pos h, bCk hq, bCl (m_in' hq (by omega) (by omega)), bE01, bCl (m_weightOf h.1 (by omega)), bCl (m_windowOf h.1 (by omega)), bCl (m_forceOf hI.k h.1 h.2), bEqS hq (by omega), bEqS hq (by omega), bIfS]
    congr 2
    by_cases a : q = 0
    · simp [a]
    · by_cases b : q = 1
      · simp [b]
      · by_cases d : q = 2
        · simp [d]
        · rw [if_neg (by omega), if_neg a, if_neg b, if_neg d]
  · rw [if_neg h, if_neg h]
theorem rJumper_R {w : bW} (hk : bOk w) : on_R (rJumper w p q) := by
  obtain ⟨q0, q1, q2, q3, q4, q5, q6, q7⟩ := hk.c
  unfold rJumper
  split
  · rename_i h
    have h1 := hk.j p h.1 h.2
    have h2 := bForce_b hk h.1 h.2
    split
    · omega
    · split
      · omega
      · split <;> omega
  · omega
theorem o_jumper (hI : bI n σ) (hp : on_R p) (hq : on_R q) : bOp n σ (pf_X11_jumper p q) (pf_X12_jumper p q) := bOp.ro hI (rJumper_R hI.k) (bK.of (c_jumper hI hp hq)) fun σ1 h1 e _ => by rw [← e]; exact bK.of (m_jumper h1 hp hq)
theorem o_quarrel (hI : bI n σ) (hp : on_R p) (hq : on_R q) : bOp n σ (pf_X11_quarrel p q) (pf_X12_quarrel p q) := by
  obtain ⟨q0, q1, q2, q3, q4, q5, q6, q7⟩ := hI.k.c
  refine bOp.ro (r := if (0 ≤ p ∧ p < σ 78 3) ∧ (0 ≤ q ∧ q < σ 78 3) ∧ p ≠ q then bQ (σ 78) p q else -2) hI ?_ ?_ ?_
  · split
    · have := (hI.k.q p q (by omega) (by omega) (by omega) (by omega)).1
      omega
    · omega
  · unfold pf_X11_quarrel
    rw [bCl (c_hasTwoMen hI.k hI.r hp hq), bE01]
    split
    · rw [bCl (c_quarrelOf hI.r (by omega) (by omega) (by omega) (by omega))]; exact bK.of rfl
    · exact bK.of rfl
  · intro σ1 h1 e _
    rw [← e] at q3 ⊢
    unfold pf_X12_quarrel
    rw [bCl (m_areMen h1.k hp hq), bE01]
    split
    · rw [bCl (m_quarrelOf (by omega) (by omega) (by omega) (by omega))]; exact bK.of rfl
    · exact bK.of rfl
theorem o_feud (hI : bI n σ) (hp : on_R p) (hq : on_R q) : bOp n σ (pf_X11_feud p q) (pf_X12_feud p q) := by
  obtain ⟨q0, q1, q2, q3, q4, q5, q6, q7⟩ := hI.k.c
  refine bOp.ro (r := if (0 ≤ p ∧ p < σ 78 0) ∧ (0 ≤ q ∧ q < σ 78 0) ∧ p ≠ q then bFd (σ 78) p q else -2) hI ?_ ?_ ?_
  · split
    · have := hI.k.f p q (by omega) (by omega) (by omega) (by omega)
      omega
    · omega
  · unfold pf_X11_feud
    rw [bCl (c_hasTwoHouses hI.k hI.r hp hq), bE01]
    split
    · rw [bRd (by omega) (by omega), (hI.r.f p q (by omega) (by omega) (by omega) (by omega)).1]; exact bK.of rfl
    · exact bK.of rfl
  · intro σ1 h1 e _
    rw [← e] at q0 ⊢
    unfold pf_X12_feud
    rw [bCl (m_areHouses h1.k hp hq), bE01]
    split
    · have := h1.k.f p q (by omega) (by omega) (by omega) (by omega)
      rw [bCl (m_isFeud h1.k (by omega) (by omega) (by omega) (by omega))]
      rcases this with f | f
      · rw [f, bEqT (by omega) rfl]; exact bK.of rfl
      · rw [f, bEqF (by omega) (by omega) (by omega)]; exact bK.of rfl
    · exact bK.of rfl
theorem o_will (hI : bI n σ) (hp : on_R p) (hq : on_R q) : bOp n σ (pf_X11_will p q) (pf_X12_will p q) := by
  obtain ⟨q0, q1, q2, q3, q4, q5, q6, q7⟩ := hI.k.c
  refine bOp.ro (r := if 0 ≤ p ∧ p < σ 78 3 then (if 0 ≤ q ∧ q < σ 78 2 then (if bWill (σ 78) p q then 1 else 0) else -2) else -2) hI ?_ ?_ ?_
  · split
    · split
      · split <;> omega
      · omega
    · omega
  · unfold pf_X11_will
    rw [bCl (c_hasMan hI.k hI.r hp), bE01]
    split
    · rw [bCl (c_hasWindow hI.k hI.r hq), bE01]
      split
      · rw [bCl (c_willHold hI.k hI.r (by omega) (by omega) (by omega) (by omega)), bE01, bIfS]; exact bK.of rfl
      · exact bK.of rfl
    · exact bK.of rfl
  · intro σ1 h1 e _
    rw [← e] at q2 q3 ⊢
    unfold pf_X12_will pf_X12_will_33
    rw [bCl (m_isMan h1.k hp), bE01]
    split
    · rw [bCl (m_isWindow h1.k hq), bE01]
      split
      · rw [bCl (m_isWilling h1.k (by omega) (by omega) (by omega) (by omega)), bE01, bIfS]; exact bK.of rfl
      · exact bK.of rfl
    · exact bK.of rfl
theorem o_gives (hI : bI n σ) (hp : on_R p) (hq : on_R q) : bOp n σ (pf_X11_gives p q) (pf_X12_gives p q) := by
  obtain ⟨q0, q1, q2, q3, q4, q5, q6, q7⟩ := hI.k.c
  refine bOp.ro (r := if 0 ≤ p ∧ p < σ 78 4 then (if q < 0 then -2 else if q ≤ bCar (σ 78) p (bNet (σ 78) p 2) then -1 else bWeak (bHold (σ 78) (bAt (σ 78) p) p (bNet (σ 78) p 0) (bNet (σ 78) p 2))) else -2) hI ?_ ?_ ?_
  · have := bWeak_b (bHold (σ 78) (bAt (σ 78) p) p (bNet (σ 78) p 0) (bNet (σ 78) p 2))
    split
    · split
      · omega
      · split <;> omega
    · omega
  · unfold pf_X11_gives
    rw [bCl (c_hasNet hI.k hI.r hp), bE01]
    split
    · rename_i h
      have hc := bCar_b hI.k (wet := bNet (σ 78) p 2) h.1 h.2
      rw [bCl (c_carriedNow hI.k hI.r h.1 h.2), bCl (c_weakestCorner hI.k hI.r h.1 h.2), bLeS hq (by omega), bLtS hq (by omega)]; exact bK.of rfl
    · exact bK.of rfl
  · intro σ1 h1 e _
    rw [← e] at q4 q2 ⊢
    unfold pf_X12_gives
    rw [bCk hp, bCl (m_isNet h1.k (by omega)), bE01]
    split
    · rename_i h
      obtain ⟨hn1, hn2, hn3, hn4⟩ := h1.k.n p h.1 h.2
      have hc := bCar_b h1.k (wet := bNet (σ1 78) p 2) h.1 h.2
      have hw := (bLay_S σ1 p).w
      have hk2 : bOk (bLay σ1 p 78) := by rw [hw]; exact h1.k
      by_cases g : q < 0
      · rw [bLtT hq (by omega) g, if_pos g]; exact bK.of rfl
      · rw [bLtF hq (by omega) (by omega), if_neg g, bCl (m_carries h1.k h.1 h.2)]
        by_cases f : q ≤ bCar (σ1 78) p (bNet (σ1 78) p 2)
        · rw [bLeT hq (by omega) f, if_pos f]; exact ⟨_, rfl, bLay_S σ1 p⟩
        · rw [bLeF hq (by omega) (by omega), if_neg f, bCl (m_ofNet h.1 (by omega) (by omega) (by omega)), bCl (m_ofNet h.1 (by omega) (by omega) (by omega)), hw, bCl (m_weakest hk2 (by rw [hw]; exact bLay_po σ1 h1.k p) h.1 (by rw [hw]; exact h.2) hn1.1 (by rw [hw]; exact hn1.2) (by omega)), hw, bWeak_congr (fun c c0 c1 => bHold_congr (p' := bAt (σ1 78) p) (fun d d0 d1 => bLay_84 σ1 p d0 d1) c0 c1)]
          exact ⟨_, rfl, bLay_S σ1 p⟩
    · exact bK.of rfl
/-- would a jumper be held now -/
def bHeld (w : bW) (j : Int) : Int := if bNetAt w (bWin w j) = -1 then 0 else if bForce w j ≤ bCar w (bNetAt w (bWin w j)) (bNet w (bNetAt w (bWin w j)) 2) then 1 else 0
theorem m_isHeld {σ : on_S} (hk : bOk (σ 78)) {p : Int} (p0 : 0 ≤ p) (p1 : p < σ 78 5) : bK (pf_X12_isHeld p σ) σ (bHeld (σ 78) p) := by
  obtain ⟨q0, q1, q2, q3, q4, q5, q6, q7⟩ := hk.c
  have hj := (hk.j p p0 p1).2
  have hb := bNetAt_b hk.c (bWin (σ 78) p)
  have hf := bForce_b hk p0 p1
  unfold pf_X12_isHeld pf_X12_isHeld_32 bHeld
  rw [bCl (m_windowOf p0 (by omega)), bCl (m_netAt hk (by omega))]
  by_cases e : bNetAt (σ 78) (bWin (σ 78) p) = -1
  · rw [bEqT (by omega) e, if_pos e]; exact bK.of rfl
  · have hc := bCar_b hk (n := bNetAt (σ 78) (bWin (σ 78) p)) (wet := bNet (σ 78) (bNetAt (σ 78) (bWin (σ 78) p)) 2) (by omega) (by omega)
    rw [bEqF (by omega) (by omega) e, if_neg e, bCl (m_forceOf hk p0 p1), bCl (m_carries hk (by omega) (by omega)), bLeS (by omega) (by omega)]
    exact ⟨_, rfl, bLay_S σ _⟩
theorem bHeld_b (w : bW) (j : Int) : bHeld w j = 0 ∨ bHeld w j = 1 := by
  unfold bHeld; split
  · exact Or.inl rfl
  · split
    · exact Or.inr rfl
    · exact Or.inl rfl
theorem o_held (hI : bI n σ) (hp : on_R p) : bOp n σ (pf_X11_held p) (pf_X12_held p) := by
  obtain ⟨q0, q1, q2, q3, q4, q5, q6, q7⟩ := hI.k.c
  refine bOp.ro (r := if 0 ≤ p ∧ p < σ 78 5 then bHeld (σ 78) p else -2) hI ?_ ?_ ?_
  · have := bHeld_b (σ 78) p
    split <;> omega
  · unfold pf_X11_held pf_X11_held_51
    rw [bCl (c_hasJumper hI.k hI.r hp), bE01]
    split
    · rename_i h
      have hb := bNetAt_b hI.k.c (bWin (σ 78) p)
      have hf := bForce_b hI.k h.1 h.2
      rw [bCl (c_netBelow hI.k hI.r h.1 h.2)]
      unfold bHeld
      by_cases e : bNetAt (σ 78) (bWin (σ 78) p) = -1
      · rw [bEqT (by omega) e, if_pos e]; exact bK.of rfl
      · have hc := bCar_b hI.k (n := bNetAt (σ 78) (bWin (σ 78) p)) (wet := bNet (σ 78) (bNetAt (σ 78) (bWin (σ 78) p)) 2) (by omega) (by omega)
        rw [bEqF (by omega) (by omega) e, if_neg e, bCl (c_forceOf hI.k hI.r h.1 h.2), bCl (c_carriedNow hI.k hI.r (by omega) (by omega)), bLeS (by omega) (by omega)]
        exact bK.of rfl
    · exact bK.of rfl
  · intro σ1 h1 e _
    rw [← e]
    unfold pf_X12_held
    rw [bCl (m_isJumper h1.k hp), bE01]
    split
    · rename_i h
      obtain ⟨σ2, g1, g2⟩ := m_isHeld h1.k h.1 h.2
      rw [bCl g1]
      rcases bHeld_b (σ1 78) p with f | f
      · rw [f, bEqT (by omega) rfl]; exact ⟨_, rfl, g2⟩
      · rw [f, bEqF (by omega) (by omega) (by omega)]; exact ⟨_, rfl, g2⟩
    · exact bK.of rfl
theorem o_heaviest (hI : bI n σ) (hp : on_R p) : bOp n σ (pf_X11_heaviest p) (pf_X12_heaviest p) := by
  obtain ⟨q0, q1, q2, q3, q4, q5, q6, q7⟩ := hI.k.c
  refine bOp.ro (r := if 0 ≤ p ∧ p < σ 78 4 then bCar (σ 78) p (bNet (σ 78) p 2) / bStorey (σ 78) (bNet (σ 78) p 0) else -2) hI ?_ ?_ ?_
  · split
    · rename_i h
      have hc := bCar_b hI.k (wet := bNet (σ 78) p 2) h.1 h.2
      have hn := (hI.k.n p h.1 h.2).1
      have hw := (hI.k.wi _ hn.1 hn.2).2
      have a1 : 0 ≤ bCar (σ 78) p (bNet (σ 78) p 2) / bStorey (σ 78) (bNet (σ 78) p 0) := Int.ediv_nonneg hc.1 (by omega)
      have a2 : bCar (σ 78) p (bNet (σ 78) p 2) / bStorey (σ 78) (bNet (σ 78) p 0) ≤ bCar (σ 78) p (bNet (σ 78) p 2) := Int.ediv_le_self _ hc.1
      omega
    · omega
  · unfold pf_X11_heaviest
    rw [bCl (c_hasNet hI.k hI.r hp), bE01]
    split
    · rename_i h
      have hc := bCar_b hI.k (wet := bNet (σ 78) p 2) h.1 h.2
      have hn := (hI.k.n p h.1 h.2).1
      have hw := (hI.k.wi _ hn.1 hn.2).2
      rw [bCl (c_carriedNow hI.k hI.r h.1 h.2), bCl (c_storeyOf hI.k hI.r h.1 h.2), bMx (by omega) (by omega), show max 1 (bStorey (σ 78) (bNet (σ 78) p 0)) = bStorey (σ 78) (bNet (σ 78) p 0) by omega, bDv (by omega) (by omega) (by omega) (by omega)]
      exact bK.of rfl
    · exact bK.of rfl
  · intro σ1 h1 e _
    rw [← e] at q4 q2 ⊢
    unfold pf_X12_heaviest
    rw [bCk hp, bCl (m_isNet h1.k (by omega)), bE01]
    split
    · rename_i h
      have hc := bCar_b h1.k (wet := bNet (σ1 78) p 2) h.1 h.2
      have hn := (h1.k.n p h.1 h.2).1
      have hw := (h1.k.wi _ hn.1 hn.2).2
      have hw2 := (bLay_S σ1 p).w
      rw [bCl (m_carries h1.k h.1 h.2), bCl (m_ofNet h.1 (by omega) (by omega) (by omega)), hw2, bCl (m_storeyOf (by omega) (by omega)), hw2, bDv (by omega) (by omega) (by omega) (by omega)]
      exact ⟨_, rfl, bLay_S σ1 p⟩
    · exact bK.of rfl
theorem o_highest (hI : bI n σ) (hp : on_R p) (hq : on_R q) : bOp n σ (pf_X11_highest p q) (pf_X12_highest p q) := by
  obtain ⟨q0, q1, q2, q3, q4, q5, q6, q7⟩ := hI.k.c
  refine bOp.ro (r := if 0 ≤ p ∧ p < σ 78 4 then (if 1 ≤ q ∧ q ≤ 99 then min 6 (bCar (σ 78) p (bNet (σ 78) p 2) / q) else -2) else -2) hI ?_ ?_ ?_
  · split
    · rename_i h
      have hc := bCar_b hI.k (wet := bNet (σ 78) p 2) h.1 h.2
      split
      · have a1 : 0 ≤ bCar (σ 78) p (bNet (σ 78) p 2) / q := Int.ediv_nonneg hc.1 (by omega)
        omega
      · omega
    · omega
  · unfold pf_X11_highest
    rw [bCl (c_hasNet hI.k hI.r hp), bE01]
    split
    · rename_i h
      have hc := bCar_b hI.k (wet := bNet (σ 78) p 2) h.1 h.2
      by_cases g : q < 1
      · rw [bLtT hq (by omega) g, if_neg (by omega)]; exact bK.of rfl
      · rw [bLtF hq (by omega) (by omega)]
        by_cases g2 : q ≤ 99
        · have a1 : 0 ≤ bCar (σ 78) p (bNet (σ 78) p 2) / q := Int.ediv_nonneg hc.1 (by omega)
          have a2 : bCar (σ 78) p (bNet (σ 78) p 2) / q ≤ bCar (σ 78) p (bNet (σ 78) p 2) := Int.ediv_le_self _ hc.1
          rw [bLeT hq (by omega) g2, if_pos ⟨by omega, g2⟩, bCl (c_carriedNow hI.k hI.r h.1 h.2), bDv (by omega) (by omega) (by omega) (by omega), bMn (by omega) (by omega)]
          exact bK.of rfl
        · rw [bLeF hq (by omega) (by omega), if_neg (by omega)]; exact bK.of rfl
    · exact bK.of rfl
  · intro σ1 h1 e _
    rw [← e] at q4 ⊢
    unfold pf_X12_highest pf_X12_highest_36
    rw [bCk hp, bCl (m_isNet h1.k (by omega)), bE01]
    split
    · rename_i h
      have hc := bCar_b h1.k (wet := bNet (σ1 78) p 2) h.1 h.2
      rw [bCk hq, bCl (m_in' hq (by omega) (by omega)), bE01]
      split
      · have a1 : 0 ≤ bCar (σ1 78) p (bNet (σ1 78) p 2) / q := Int.ediv_nonneg hc.1 (by omega)
        have a2 : bCar (σ1 78) p (bNet (σ1 78) p 2) / q ≤ bCar (σ1 78) p (bNet (σ1 78) p 2) := Int.ediv_le_self _ hc.1
        rw [bCl (m_carries h1.k h.1 h.2), bDv (by omega) (by omega) (by omega) (by omega), bMn (by omega) (by omega)]
        exact ⟨_, rfl, bLay_S σ1 p⟩
      · exact bK.of rfl
    · exact bK.of rfl
end O34
