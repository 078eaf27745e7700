/-! THE LAW'S LOOP: every case goes on alike -/
def LG (d pc i : Nat) (h : pm_Hp) : Prop := ∃ h2, IV h2 ∧ k185 h h2 ∧ pm_rn d pm_law pc [.ref 300, .ref 0, .ref 169, .int (nI i)] [] h = pm_rn d pm_law 18 [.ref 300, .ref 0, .ref 169, .int (nI (i + 6))] [] h2
theorem at_1 {i L : Nat} {k : Nat → pm_Rs} (hL : L ≤ 3072) (hi : i + 6 ≤ L) : pm_at (nI i + 1) (nI L).toNatClampNeg k = k (i + 1) := by
  rw [nI_clamp (by omega)]
  exact pm_at_n (by rw [show (1 : Int32) = nI 1 from rfl, nI_add]) (by omega) (by omega)
theorem at_k {i L j : Nat} {k : Nat → pm_Rs} (hL : L ≤ 3072) (hi : i + 6 ≤ L) (hj : j < 6) : pm_at (nI i + nI j) (nI L).toNatClampNeg k = k (i + j) := by
  rw [nI_clamp (by omega)]
  exact pm_at_n (by rw [nI_add]) (by omega) (by omega)
theorem at_0 {i L : Nat} {k : Nat → pm_Rs} (hL : L ≤ 3072) (hi : i + 6 ≤ L) : pm_at (nI i) (nI L).toNatClampNeg k = k i := by
  rw [nI_clamp (by omega)]
  exact pm_at_c (by omega) (by omega)
theorem ll_1543 {d i : Nat} {h : pm_Hp} : pm_rn d pm_law 1543 [.ref 300, .ref 0, .ref 169, .int (nI i)] [] h = pm_rn d pm_law 18 [.ref 300, .ref 0, .ref 169, .int (nI (i + 6))] [] h := by
  rw [b_law_1543, nI_add]
theorem ll_state {d L i : Nat} {h : pm_Hp} (hd : 40 ≤ d) (V : IV h) (e : h 301 0 = nI L) (hL : L ≤ 3072) (hi : i + 6 ≤ L) : LG d 212 i h := by
  obtain ⟨r, h1, h2, a1, a2, k1, k2, V2⟩ := al_state hd V (h 300 (i + 1))
  have e1 : h1 301 0 = nI L := by rw [k1 301 (by omega)]; exact e
  have x1 : h1 300 = h 300 := k1 300 (by omega)
  refine ⟨h2, V2, k1.trans k2, ?_⟩
  rw [b_law_212, e, at_1 hL hi, a1, pm_bd_s, e1, at_1 hL hi, x1, a2, pm_bd_s, if_pos rfl, ll_1543]
theorem ll_thing {d L i : Nat} {h : pm_Hp} (hd : 40 ≤ d) (V : IV h) (e : h 301 0 = nI L) (hL : L ≤ 3072) (hi : i + 6 ≤ L) : LG d 235 i h := by
  obtain ⟨r, h1, h2, a1, a2, k1, k2, V2⟩ := al_thing hd V (h 300 (i + 1)) (h 300 (i + 2))
  have e1 : h1 301 0 = nI L := by rw [k1 301 (by omega)]; exact e
  have x1 : h1 300 = h 300 := k1 300 (by omega)
  refine ⟨h2, V2, k1.trans k2, ?_⟩
  rw [b_law_235, e, at_1 hL hi, at_k (j := 2) hL hi (by omega), a1, pm_bd_s, e1, at_1 hL hi, at_k (j := 2) hL hi (by omega), x1, a2, pm_bd_s, if_pos rfl, ll_1543]
theorem ll_actor {d i : Nat} {h : pm_Hp} (hd : 40 ≤ d) (V : IV h) : LG d 268 i h := by
  obtain ⟨r, h1, h2, a1, a2, k1, k2, V2⟩ := al_actor hd V 
  refine ⟨h2, V2, k1.trans k2, ?_⟩
  rw [b_law_268, a1, pm_bd_s, a2, pm_bd_s, if_pos rfl, ll_1543]
theorem ll_rack {d L i : Nat} {h : pm_Hp} (hd : 40 ≤ d) (V : IV h) (e : h 301 0 = nI L) (hL : L ≤ 3072) (hi : i + 6 ≤ L) : LG d 281 i h := by
  obtain ⟨r, h1, h2, a1, a2, k1, k2, V2⟩ := al_rack hd V (h 300 (i + 1))
  have e1 : h1 301 0 = nI L := by rw [k1 301 (by omega)]; exact e
  have x1 : h1 300 = h 300 := k1 300 (by omega)
  refine ⟨h2, V2, k1.trans k2, ?_⟩
  rw [b_law_281, e, at_1 hL hi, a1, pm_bd_s, e1, at_1 hL hi, x1, a2, pm_bd_s, if_pos rfl, ll_1543]
theorem ll_measure {d L i : Nat} {h : pm_Hp} (hd : 40 ≤ d) (V : IV h) (e : h 301 0 = nI L) (hL : L ≤ 3072) (hi : i + 6 ≤ L) : LG d 304 i h := by
  by_cases g : h 300 (i + 1) = 0
  · obtain ⟨r, h1, h2, a1, a2, k1, k2, V2⟩ := al_measure hd V 0 (h 300 (i + 2)) (h 300 (i + 3)) (h 300 (i + 4))
    have e1 : h1 301 0 = nI L := by rw [k1 301 (by omega)]; exact e
    have x1 : h1 300 = h 300 := k1 300 (by omega)
    refine ⟨h2, V2, k1.trans k2, ?_⟩
    rw [b_law_304, e, at_1 hL hi, if_pos g, at_k (j := 2) hL hi (by omega), at_k (j := 3) hL hi (by omega), at_k (j := 4) hL hi (by omega), a1, pm_bd_s, e1, at_1 hL hi, if_pos (show h1 300 (i + 1) = 0 by rw [x1]; exact g), at_k (j := 2) hL hi (by omega), at_k (j := 3) hL hi (by omega), at_k (j := 4) hL hi (by omega), x1, a2, pm_bd_s, if_pos rfl, ll_1543]
  · obtain ⟨r, h1, h2, a1, a2, k1, k2, V2⟩ := al_measure hd V 1 (h 300 (i + 2)) (h 300 (i + 3)) (h 300 (i + 4))
    have e1 : h1 301 0 = nI L := by rw [k1 301 (by omega)]; exact e
    have x1 : h1 300 = h 300 := k1 300 (by omega)
    refine ⟨h2, V2, k1.trans k2, ?_⟩
    rw [b_law_304, e, at_1 hL hi, if_neg g, at_k (j := 2) hL hi (by omega), at_k (j := 3) hL hi (by omega), at_k (j := 4) hL hi (by omega), a1, pm_bd_s, e1, at_1 hL hi, if_neg (show ¬ h1 300 (i + 1) = 0 by rw [x1]; exact g), at_k (j := 2) hL hi (by omega), at_k (j := 3) hL hi (by omega), at_k (j := 4) hL hi (by omega), x1, a2, pm_bd_s, if_pos rfl, ll_1543]
theorem ll_set {d L i : Nat} {h : pm_Hp} (hd : 40 ≤ d) (V : IV h) (e : h 301 0 = nI L) (hL : L ≤ 3072) (hi : i + 6 ≤ L) : LG d 373 i h := by
  obtain ⟨r, h1, h2, a1, a2, k1, k2, V2⟩ := al_set hd V (h 300 (i + 1)) (h 300 (i + 2)) (h 300 (i + 3))
  have e1 : h1 301 0 = nI L := by rw [k1 301 (by omega)]; exact e
  have x1 : h1 300 = h 300 := k1 300 (by omega)
  refine ⟨h2, V2, k1.trans k2, ?_⟩
  rw [b_law_373, e, at_1 hL hi, at_k (j := 2) hL hi (by omega), at_k (j := 3) hL hi (by omega), a1, pm_bd_s, e1, at_1 hL hi, at_k (j := 2) hL hi (by omega), at_k (j := 3) hL hi (by omega), x1, a2, pm_bd_s, if_pos rfl, ll_1543]
theorem ll_put {d L i : Nat} {h : pm_Hp} (hd : 40 ≤ d) (V : IV h) (e : h 301 0 = nI L) (hL : L ≤ 3072) (hi : i + 6 ≤ L) : LG d 416 i h := by
  obtain ⟨r, h1, h2, a1, a2, k1, k2, V2⟩ := al_put hd V (h 300 (i + 1)) (h 300 (i + 2)) (h 300 (i + 3))
  have e1 : h1 301 0 = nI L := by rw [k1 301 (by omega)]; exact e
  have x1 : h1 300 = h 300 := k1 300 (by omega)
  refine ⟨h2, V2, k1.trans k2, ?_⟩
  rw [b_law_416, e, at_1 hL hi, at_k (j := 2) hL hi (by omega), at_k (j := 3) hL hi (by omega), a1, pm_bd_s, e1, at_1 hL hi, at_k (j := 2) hL hi (by omega), at_k (j := 3) hL hi (by omega), x1, a2, pm_bd_s, if_pos rfl, ll_1543]
theorem ll_take {d L i : Nat} {h : pm_Hp} (hd : 40 ≤ d) (V : IV h) (e : h 301 0 = nI L) (hL : L ≤ 3072) (hi : i + 6 ≤ L) : LG d 459 i h := by
  obtain ⟨r, h1, h2, a1, a2, k1, k2, V2⟩ := al_take hd V (h 300 (i + 1)) (h 300 (i + 2))
  have e1 : h1 301 0 = nI L := by rw [k1 301 (by omega)]; exact e
  have x1 : h1 300 = h 300 := k1 300 (by omega)
  refine ⟨h2, V2, k1.trans k2, ?_⟩
  rw [b_law_459, e, at_1 hL hi, at_k (j := 2) hL hi (by omega), a1, pm_bd_s, e1, at_1 hL hi, at_k (j := 2) hL hi (by omega), x1, a2, pm_bd_s, if_pos rfl, ll_1543]
theorem ll_alter {d L i : Nat} {h : pm_Hp} (hd : 40 ≤ d) (V : IV h) (e : h 301 0 = nI L) (hL : L ≤ 3072) (hi : i + 6 ≤ L) : LG d 492 i h := by
  obtain ⟨r, h1, h2, a1, a2, k1, k2, V2⟩ := al_alter hd V (h 300 (i + 1)) (h 300 (i + 2))
  have e1 : h1 301 0 = nI L := by rw [k1 301 (by omega)]; exact e
  have x1 : h1 300 = h 300 := k1 300 (by omega)
  refine ⟨h2, V2, k1.trans k2, ?_⟩
  rw [b_law_492, e, at_1 hL hi, at_k (j := 2) hL hi (by omega), a1, pm_bd_s, e1, at_1 hL hi, at_k (j := 2) hL hi (by omega), x1, a2, pm_bd_s, if_pos rfl, ll_1543]
theorem ll_care {d L i : Nat} {h : pm_Hp} (hd : 40 ≤ d) (V : IV h) (e : h 301 0 = nI L) (hL : L ≤ 3072) (hi : i + 6 ≤ L) : LG d 525 i h := by
  by_cases g : h 300 (i + 2) = 0
  · obtain ⟨r, h1, h2, a1, a2, k1, k2, V2⟩ := al_care hd V (h 300 (i + 1)) 0
    have e1 : h1 301 0 = nI L := by rw [k1 301 (by omega)]; exact e
    have x1 : h1 300 = h 300 := k1 300 (by omega)
    refine ⟨h2, V2, k1.trans k2, ?_⟩
    rw [b_law_525, e, at_1 hL hi, at_k (j := 2) hL hi (by omega), if_pos g, a1, pm_bd_s, e1, at_1 hL hi, at_k (j := 2) hL hi (by omega), if_pos (show h1 300 (i + 2) = 0 by rw [x1]; exact g), x1, a2, pm_bd_s, if_pos rfl, ll_1543]
  · obtain ⟨r, h1, h2, a1, a2, k1, k2, V2⟩ := al_care hd V (h 300 (i + 1)) 1
    have e1 : h1 301 0 = nI L := by rw [k1 301 (by omega)]; exact e
    have x1 : h1 300 = h 300 := k1 300 (by omega)
    refine ⟨h2, V2, k1.trans k2, ?_⟩
    rw [b_law_525, e, at_1 hL hi, at_k (j := 2) hL hi (by omega), if_neg g, a1, pm_bd_s, e1, at_1 hL hi, at_k (j := 2) hL hi (by omega), if_neg (show ¬ h1 300 (i + 2) = 0 by rw [x1]; exact g), x1, a2, pm_bd_s, if_pos rfl, ll_1543]
theorem ll_hire {d L i : Nat} {h : pm_Hp} (hd : 40 ≤ d) (V : IV h) (e : h 301 0 = nI L) (hL : L ≤ 3072) (hi : i + 6 ≤ L) : LG d 574 i h := by
  obtain ⟨r, h1, h2, a1, a2, k1, k2, V2⟩ := al_hire hd V (h 300 (i + 1)) (h 300 (i + 2)) (h 300 (i + 3))
  have e1 : h1 301 0 = nI L := by rw [k1 301 (by omega)]; exact e
  have x1 : h1 300 = h 300 := k1 300 (by omega)
  refine ⟨h2, V2, k1.trans k2, ?_⟩
  rw [b_law_574, e, at_1 hL hi, at_k (j := 2) hL hi (by omega), at_k (j := 3) hL hi (by omega), a1, pm_bd_s, e1, at_1 hL hi, at_k (j := 2) hL hi (by omega), at_k (j := 3) hL hi (by omega), x1, a2, pm_bd_s, if_pos rfl, ll_1543]
theorem ll_back {d L i : Nat} {h : pm_Hp} (hd : 40 ≤ d) (V : IV h) (e : h 301 0 = nI L) (hL : L ≤ 3072) (hi : i + 6 ≤ L) : LG d 617 i h := by
  obtain ⟨r, h1, h2, a1, a2, k1, k2, V2⟩ := al_back hd V (h 300 (i + 1)) (h 300 (i + 2))
  have e1 : h1 301 0 = nI L := by rw [k1 301 (by omega)]; exact e
  have x1 : h1 300 = h 300 := k1 300 (by omega)
  refine ⟨h2, V2, k1.trans k2, ?_⟩
  rw [b_law_617, e, at_1 hL hi, at_k (j := 2) hL hi (by omega), a1, pm_bd_s, e1, at_1 hL hi, at_k (j := 2) hL hi (by omega), x1, a2, pm_bd_s, if_pos rfl, ll_1543]
theorem ll_days {d L i : Nat} {h : pm_Hp} (hd : 40 ≤ d) (V : IV h) (e : h 301 0 = nI L) (hL : L ≤ 3072) (hi : i + 6 ≤ L) : LG d 650 i h := by
  obtain ⟨r, h1, h2, a1, a2, k1, k2, V2⟩ := al_days hd V (h 300 (i + 1))
  have e1 : h1 301 0 = nI L := by rw [k1 301 (by omega)]; exact e
  have x1 : h1 300 = h 300 := k1 300 (by omega)
  refine ⟨h2, V2, k1.trans k2, ?_⟩
  rw [b_law_650, e, at_1 hL hi, a1, pm_bd_s, e1, at_1 hL hi, x1, a2, pm_bd_s, if_pos rfl, ll_1543]
theorem ll_feed {d L i : Nat} {h : pm_Hp} (hd : 40 ≤ d) (V : IV h) (e : h 301 0 = nI L) (hL : L ≤ 3072) (hi : i + 6 ≤ L) : LG d 673 i h := by
  obtain ⟨r, h1, h2, a1, a2, k1, k2, V2⟩ := al_feed hd V (h 300 (i + 1)) (h 300 (i + 2)) (h 300 (i + 3)) (h 300 (i + 4)) (h 300 (i + 5))
  have e1 : h1 301 0 = nI L := by rw [k1 301 (by omega)]; exact e
  have x1 : h1 300 = h 300 := k1 300 (by omega)
  refine ⟨h2, V2, k1.trans k2, ?_⟩
  rw [b_law_673, e, at_1 hL hi, at_k (j := 2) hL hi (by omega), at_k (j := 3) hL hi (by omega), at_k (j := 4) hL hi (by omega), at_k (j := 5) hL hi (by omega), a1, pm_bd_s, e1, at_1 hL hi, at_k (j := 2) hL hi (by omega), at_k (j := 3) hL hi (by omega), at_k (j := 4) hL hi (by omega), at_k (j := 5) hL hi (by omega), x1, a2, pm_bd_s, if_pos rfl, ll_1543]
theorem ll_end {d L i : Nat} {h : pm_Hp} (hd : 40 ≤ d) (V : IV h) (e : h 301 0 = nI L) (hL : L ≤ 3072) (hi : i + 6 ≤ L) : LG d 736 i h := by
  obtain ⟨r, h1, h2, a1, a2, k1, k2, V2⟩ := al_end hd V (h 300 (i + 1))
  have e1 : h1 301 0 = nI L := by rw [k1 301 (by omega)]; exact e
  have x1 : h1 300 = h 300 := k1 300 (by omega)
  refine ⟨h2, V2, k1.trans k2, ?_⟩
  rw [b_law_736, e, at_1 hL hi, a1, pm_bd_s, e1, at_1 hL hi, x1, a2, pm_bd_s, if_pos rfl, ll_1543]
theorem ll_text {d L i : Nat} {h : pm_Hp} (hd : 40 ≤ d) (V : IV h) (e : h 301 0 = nI L) (hL : L ≤ 3072) (hi : i + 6 ≤ L) : LG d 759 i h := by
  obtain ⟨r, h1, h2, a1, a2, k1, k2, V2⟩ := al_text hd V (h 300 (i + 1))
  have e1 : h1 301 0 = nI L := by rw [k1 301 (by omega)]; exact e
  have x1 : h1 300 = h 300 := k1 300 (by omega)
  refine ⟨h2, V2, k1.trans k2, ?_⟩
  rw [b_law_759, e, at_1 hL hi, a1, pm_bd_s, e1, at_1 hL hi, x1, a2, pm_bd_s, if_pos rfl, ll_1543]
theorem ll_fault {d L i : Nat} {h : pm_Hp} (hd : 40 ≤ d) (V : IV h) (e : h 301 0 = nI L) (hL : L ≤ 3072) (hi : i + 6 ≤ L) : LG d 782 i h := by
  obtain ⟨r, h1, h2, a1, a2, k1, k2, V2⟩ := al_fault hd V (h 300 (i + 1))
  have e1 : h1 301 0 = nI L := by rw [k1 301 (by omega)]; exact e
  have x1 : h1 300 = h 300 := k1 300 (by omega)
  refine ⟨h2, V2, k1.trans k2, ?_⟩
  rw [b_law_782, e, at_1 hL hi, a1, pm_bd_s, e1, at_1 hL hi, x1, a2, pm_bd_s, if_pos rfl, ll_1543]
theorem ll_of {d L i : Nat} {h : pm_Hp} (hd : 40 ≤ d) (V : IV h) (e : h 301 0 = nI L) (hL : L ≤ 3072) (hi : i + 6 ≤ L) : LG d 805 i h := by
  obtain ⟨r, h1, h2, a1, a2, k1, k2, V2⟩ := al_of hd V (h 300 (i + 1)) (h 300 (i + 2))
  have e1 : h1 301 0 = nI L := by rw [k1 301 (by omega)]; exact e
  have x1 : h1 300 = h 300 := k1 300 (by omega)
  refine ⟨h2, V2, k1.trans k2, ?_⟩
  rw [b_law_805, e, at_1 hL hi, at_k (j := 2) hL hi (by omega), a1, pm_bd_s, e1, at_1 hL hi, at_k (j := 2) hL hi (by omega), x1, a2, pm_bd_s, if_pos rfl, ll_1543]
theorem ll_at {d L i : Nat} {h : pm_Hp} (hd : 40 ≤ d) (V : IV h) (e : h 301 0 = nI L) (hL : L ≤ 3072) (hi : i + 6 ≤ L) : LG d 838 i h := by
  obtain ⟨r, h1, h2, a1, a2, k1, k2, V2⟩ := al_at hd V (h 300 (i + 1)) (h 300 (i + 2)) (h 300 (i + 3))
  have e1 : h1 301 0 = nI L := by rw [k1 301 (by omega)]; exact e
  have x1 : h1 300 = h 300 := k1 300 (by omega)
  refine ⟨h2, V2, k1.trans k2, ?_⟩
  rw [b_law_838, e, at_1 hL hi, at_k (j := 2) hL hi (by omega), at_k (j := 3) hL hi (by omega), a1, pm_bd_s, e1, at_1 hL hi, at_k (j := 2) hL hi (by omega), at_k (j := 3) hL hi (by omega), x1, a2, pm_bd_s, if_pos rfl, ll_1543]
theorem ll_body {d L i : Nat} {h : pm_Hp} (hd : 40 ≤ d) (V : IV h) (e : h 301 0 = nI L) (hL : L ≤ 3072) (hi : i + 6 ≤ L) : LG d 881 i h := by
  obtain ⟨r, h1, h2, a1, a2, k1, k2, V2⟩ := al_body hd V (h 300 (i + 1)) (h 300 (i + 2))
  have e1 : h1 301 0 = nI L := by rw [k1 301 (by omega)]; exact e
  have x1 : h1 300 = h 300 := k1 300 (by omega)
  refine ⟨h2, V2, k1.trans k2, ?_⟩
  rw [b_law_881, e, at_1 hL hi, at_k (j := 2) hL hi (by omega), a1, pm_bd_s, e1, at_1 hL hi, at_k (j := 2) hL hi (by omega), x1, a2, pm_bd_s, if_pos rfl, ll_1543]
theorem ll_slot {d L i : Nat} {h : pm_Hp} (hd : 40 ≤ d) (V : IV h) (e : h 301 0 = nI L) (hL : L ≤ 3072) (hi : i + 6 ≤ L) : LG d 914 i h := by
  obtain ⟨r, h1, h2, a1, a2, k1, k2, V2⟩ := al_slot hd V (h 300 (i + 1)) (h 300 (i + 2))
  have e1 : h1 301 0 = nI L := by rw [k1 301 (by omega)]; exact e
  have x1 : h1 300 = h 300 := k1 300 (by omega)
  refine ⟨h2, V2, k1.trans k2, ?_⟩
  rw [b_law_914, e, at_1 hL hi, at_k (j := 2) hL hi (by omega), a1, pm_bd_s, e1, at_1 hL hi, at_k (j := 2) hL hi (by omega), x1, a2, pm_bd_s, if_pos rfl, ll_1543]
theorem ll_book {d L i : Nat} {h : pm_Hp} (hd : 40 ≤ d) (V : IV h) (e : h 301 0 = nI L) (hL : L ≤ 3072) (hi : i + 6 ≤ L) : LG d 947 i h := by
  obtain ⟨r, h1, h2, a1, a2, k1, k2, V2⟩ := al_book hd V (h 300 (i + 1)) (h 300 (i + 2))
  have e1 : h1 301 0 = nI L := by rw [k1 301 (by omega)]; exact e
  have x1 : h1 300 = h 300 := k1 300 (by omega)
  refine ⟨h2, V2, k1.trans k2, ?_⟩
  rw [b_law_947, e, at_1 hL hi, at_k (j := 2) hL hi (by omega), a1, pm_bd_s, e1, at_1 hL hi, at_k (j := 2) hL hi (by omega), x1, a2, pm_bd_s, if_pos rfl, ll_1543]
theorem ll_fits {d L i : Nat} {h : pm_Hp} (hd : 40 ≤ d) (V : IV h) (e : h 301 0 = nI L) (hL : L ≤ 3072) (hi : i + 6 ≤ L) : LG d 980 i h := by
  obtain ⟨r, h1, h2, a1, a2, k1, k2, V2⟩ := al_fits hd V (h 300 (i + 1)) (h 300 (i + 2))
  have e1 : h1 301 0 = nI L := by rw [k1 301 (by omega)]; exact e
  have x1 : h1 300 = h 300 := k1 300 (by omega)
  refine ⟨h2, V2, k1.trans k2, ?_⟩
  rw [b_law_980, e, at_1 hL hi, at_k (j := 2) hL hi (by omega), a1, pm_bd_s, e1, at_1 hL hi, at_k (j := 2) hL hi (by omega), x1, a2, pm_bd_s, if_pos rfl, ll_1543]
theorem ll_cost {d L i : Nat} {h : pm_Hp} (hd : 40 ≤ d) (V : IV h) (e : h 301 0 = nI L) (hL : L ≤ 3072) (hi : i + 6 ≤ L) : LG d 1013 i h := by
  obtain ⟨r, h1, h2, a1, a2, k1, k2, V2⟩ := al_cost hd V (h 300 (i + 1)) (h 300 (i + 2))
  have e1 : h1 301 0 = nI L := by rw [k1 301 (by omega)]; exact e
  have x1 : h1 300 = h 300 := k1 300 (by omega)
  refine ⟨h2, V2, k1.trans k2, ?_⟩
  rw [b_law_1013, e, at_1 hL hi, at_k (j := 2) hL hi (by omega), a1, pm_bd_s, e1, at_1 hL hi, at_k (j := 2) hL hi (by omega), x1, a2, pm_bd_s, if_pos rfl, ll_1543]
theorem ll_suits {d L i : Nat} {h : pm_Hp} (hd : 40 ≤ d) (V : IV h) (e : h 301 0 = nI L) (hL : L ≤ 3072) (hi : i + 6 ≤ L) : LG d 1046 i h := by
  obtain ⟨r, h1, h2, a1, a2, k1, k2, V2⟩ := al_suits hd V (h 300 (i + 1)) (h 300 (i + 2))
  have e1 : h1 301 0 = nI L := by rw [k1 301 (by omega)]; exact e
  have x1 : h1 300 = h 300 := k1 300 (by omega)
  refine ⟨h2, V2, k1.trans k2, ?_⟩
  rw [b_law_1046, e, at_1 hL hi, at_k (j := 2) hL hi (by omega), a1, pm_bd_s, e1, at_1 hL hi, at_k (j := 2) hL hi (by omega), x1, a2, pm_bd_s, if_pos rfl, ll_1543]
theorem ll_wear {d L i : Nat} {h : pm_Hp} (hd : 40 ≤ d) (V : IV h) (e : h 301 0 = nI L) (hL : L ≤ 3072) (hi : i + 6 ≤ L) : LG d 1079 i h := by
  obtain ⟨r, h1, h2, a1, a2, k1, k2, V2⟩ := al_wear hd V (h 300 (i + 1)) (h 300 (i + 2))
  have e1 : h1 301 0 = nI L := by rw [k1 301 (by omega)]; exact e
  have x1 : h1 300 = h 300 := k1 300 (by omega)
  refine ⟨h2, V2, k1.trans k2, ?_⟩
  rw [b_law_1079, e, at_1 hL hi, at_k (j := 2) hL hi (by omega), a1, pm_bd_s, e1, at_1 hL hi, at_k (j := 2) hL hi (by omega), x1, a2, pm_bd_s, if_pos rfl, ll_1543]
theorem ll_plan {d L i : Nat} {h : pm_Hp} (hd : 40 ≤ d) (V : IV h) (e : h 301 0 = nI L) (hL : L ≤ 3072) (hi : i + 6 ≤ L) : LG d 1112 i h := by
  obtain ⟨r, h1, h2, a1, a2, k1, k2, V2⟩ := al_plan hd V (h 300 (i + 1))
  have e1 : h1 301 0 = nI L := by rw [k1 301 (by omega)]; exact e
  have x1 : h1 300 = h 300 := k1 300 (by omega)
  refine ⟨h2, V2, k1.trans k2, ?_⟩
  rw [b_law_1112, e, at_1 hL hi, a1, pm_bd_s, e1, at_1 hL hi, x1, a2, pm_bd_s, if_pos rfl, ll_1543]
theorem ll_best {d L i : Nat} {h : pm_Hp} (hd : 40 ≤ d) (V : IV h) (e : h 301 0 = nI L) (hL : L ≤ 3072) (hi : i + 6 ≤ L) : LG d 1135 i h := by
  obtain ⟨r, h1, h2, a1, a2, k1, k2, V2⟩ := al_best hd V (h 300 (i + 1)) (h 300 (i + 2))
  have e1 : h1 301 0 = nI L := by rw [k1 301 (by omega)]; exact e
  have x1 : h1 300 = h 300 := k1 300 (by omega)
  refine ⟨h2, V2, k1.trans k2, ?_⟩
  rw [b_law_1135, e, at_1 hL hi, at_k (j := 2) hL hi (by omega), a1, pm_bd_s, e1, at_1 hL hi, at_k (j := 2) hL hi (by omega), x1, a2, pm_bd_s, if_pos rfl, ll_1543]
theorem ll_dresses {d L i : Nat} {h : pm_Hp} (hd : 40 ≤ d) (V : IV h) (e : h 301 0 = nI L) (hL : L ≤ 3072) (hi : i + 6 ≤ L) : LG d 1168 i h := by
  obtain ⟨r, h1, h2, a1, a2, k1, k2, V2⟩ := al_dresses hd V (h 300 (i + 1))
  have e1 : h1 301 0 = nI L := by rw [k1 301 (by omega)]; exact e
  have x1 : h1 300 = h 300 := k1 300 (by omega)
  refine ⟨h2, V2, k1.trans k2, ?_⟩
  rw [b_law_1168, e, at_1 hL hi, a1, pm_bd_s, e1, at_1 hL hi, x1, a2, pm_bd_s, if_pos rfl, ll_1543]
theorem ll_holds {d L i : Nat} {h : pm_Hp} (hd : 40 ≤ d) (V : IV h) (e : h 301 0 = nI L) (hL : L ≤ 3072) (hi : i + 6 ≤ L) : LG d 1191 i h := by
  obtain ⟨r, h1, h2, a1, a2, k1, k2, V2⟩ := al_holds hd V (h 300 (i + 1)) (h 300 (i + 2))
  have e1 : h1 301 0 = nI L := by rw [k1 301 (by omega)]; exact e
  have x1 : h1 300 = h 300 := k1 300 (by omega)
  refine ⟨h2, V2, k1.trans k2, ?_⟩
  rw [b_law_1191, e, at_1 hL hi, at_k (j := 2) hL hi (by omega), a1, pm_bd_s, e1, at_1 hL hi, at_k (j := 2) hL hi (by omega), x1, a2, pm_bd_s, if_pos rfl, ll_1543]
theorem ll_path {d L i : Nat} {h : pm_Hp} (hd : 40 ≤ d) (V : IV h) (e : h 301 0 = nI L) (hL : L ≤ 3072) (hi : i + 6 ≤ L) : LG d 1224 i h := by
  obtain ⟨r, h1, h2, a1, a2, k1, k2, V2⟩ := al_path hd V (h 300 (i + 1)) (h 300 (i + 2))
  have e1 : h1 301 0 = nI L := by rw [k1 301 (by omega)]; exact e
  have x1 : h1 300 = h 300 := k1 300 (by omega)
  refine ⟨h2, V2, k1.trans k2, ?_⟩
  rw [b_law_1224, e, at_1 hL hi, at_k (j := 2) hL hi (by omega), a1, pm_bd_s, e1, at_1 hL hi, at_k (j := 2) hL hi (by omega), x1, a2, pm_bd_s, if_pos rfl, ll_1543]
theorem ll_tour {d L i : Nat} {h : pm_Hp} (hd : 40 ≤ d) (V : IV h) (e : h 301 0 = nI L) (hL : L ≤ 3072) (hi : i + 6 ≤ L) : LG d 1257 i h := by
  obtain ⟨r, h1, h2, a1, a2, k1, k2, V2⟩ := al_tour hd V (h 300 (i + 1))
  have e1 : h1 301 0 = nI L := by rw [k1 301 (by omega)]; exact e
  have x1 : h1 300 = h 300 := k1 300 (by omega)
  refine ⟨h2, V2, k1.trans k2, ?_⟩
  rw [b_law_1257, e, at_1 hL hi, a1, pm_bd_s, e1, at_1 hL hi, x1, a2, pm_bd_s, if_pos rfl, ll_1543]
theorem ll_alone {d L i : Nat} {h : pm_Hp} (hd : 40 ≤ d) (V : IV h) (e : h 301 0 = nI L) (hL : L ≤ 3072) (hi : i + 6 ≤ L) : LG d 1280 i h := by
  obtain ⟨r, h1, h2, a1, a2, k1, k2, V2⟩ := al_alone hd V (h 300 (i + 1))
  have e1 : h1 301 0 = nI L := by rw [k1 301 (by omega)]; exact e
  have x1 : h1 300 = h 300 := k1 300 (by omega)
  refine ⟨h2, V2, k1.trans k2, ?_⟩
  rw [b_law_1280, e, at_1 hL hi, a1, pm_bd_s, e1, at_1 hL hi, x1, a2, pm_bd_s, if_pos rfl, ll_1543]
theorem ll_mends {d L i : Nat} {h : pm_Hp} (hd : 40 ≤ d) (V : IV h) (e : h 301 0 = nI L) (hL : L ≤ 3072) (hi : i + 6 ≤ L) : LG d 1303 i h := by
  obtain ⟨r, h1, h2, a1, a2, k1, k2, V2⟩ := al_mends hd V (h 300 (i + 1)) (h 300 (i + 2))
  have e1 : h1 301 0 = nI L := by rw [k1 301 (by omega)]; exact e
  have x1 : h1 300 = h 300 := k1 300 (by omega)
  refine ⟨h2, V2, k1.trans k2, ?_⟩
  rw [b_law_1303, e, at_1 hL hi, at_k (j := 2) hL hi (by omega), a1, pm_bd_s, e1, at_1 hL hi, at_k (j := 2) hL hi (by omega), x1, a2, pm_bd_s, if_pos rfl, ll_1543]
theorem ll_swaps {d L i : Nat} {h : pm_Hp} (hd : 40 ≤ d) (V : IV h) (e : h 301 0 = nI L) (hL : L ≤ 3072) (hi : i + 6 ≤ L) : LG d 1336 i h := by
  obtain ⟨r, h1, h2, a1, a2, k1, k2, V2⟩ := al_swaps hd V (h 300 (i + 1))
  have e1 : h1 301 0 = nI L := by rw [k1 301 (by omega)]; exact e
  have x1 : h1 300 = h 300 := k1 300 (by omega)
  refine ⟨h2, V2, k1.trans k2, ?_⟩
  rw [b_law_1336, e, at_1 hL hi, a1, pm_bd_s, e1, at_1 hL hi, x1, a2, pm_bd_s, if_pos rfl, ll_1543]
theorem ll_wish {d L i : Nat} {h : pm_Hp} (hd : 40 ≤ d) (V : IV h) (e : h 301 0 = nI L) (hL : L ≤ 3072) (hi : i + 6 ≤ L) : LG d 1359 i h := by
  obtain ⟨r, h1, h2, a1, a2, k1, k2, V2⟩ := al_wish hd V (h 300 (i + 1)) (h 300 (i + 2)) (h 300 (i + 3)) (h 300 (i + 4))
  have e1 : h1 301 0 = nI L := by rw [k1 301 (by omega)]; exact e
  have x1 : h1 300 = h 300 := k1 300 (by omega)
  refine ⟨h2, V2, k1.trans k2, ?_⟩
  rw [b_law_1359, e, at_1 hL hi, at_k (j := 2) hL hi (by omega), at_k (j := 3) hL hi (by omega), at_k (j := 4) hL hi (by omega), a1, pm_bd_s, e1, at_1 hL hi, at_k (j := 2) hL hi (by omega), at_k (j := 3) hL hi (by omega), at_k (j := 4) hL hi (by omega), x1, a2, pm_bd_s, if_pos rfl, ll_1543]
theorem ll_earns {d L i : Nat} {h : pm_Hp} (hd : 40 ≤ d) (V : IV h) (e : h 301 0 = nI L) (hL : L ≤ 3072) (hi : i + 6 ≤ L) : LG d 1412 i h := by
  obtain ⟨r, h1, h2, a1, a2, k1, k2, V2⟩ := al_earns hd V (h 300 (i + 1))
  have e1 : h1 301 0 = nI L := by rw [k1 301 (by omega)]; exact e
  have x1 : h1 300 = h 300 := k1 300 (by omega)
  refine ⟨h2, V2, k1.trans k2, ?_⟩
  rw [b_law_1412, e, at_1 hL hi, a1, pm_bd_s, e1, at_1 hL hi, x1, a2, pm_bd_s, if_pos rfl, ll_1543]
theorem ll_share {d L i : Nat} {h : pm_Hp} (hd : 40 ≤ d) (V : IV h) (e : h 301 0 = nI L) (hL : L ≤ 3072) (hi : i + 6 ≤ L) : LG d 1435 i h := by
  obtain ⟨r, h1, h2, a1, a2, k1, k2, V2⟩ := al_share hd V (h 300 (i + 1)) (h 300 (i + 2))
  have e1 : h1 301 0 = nI L := by rw [k1 301 (by omega)]; exact e
  have x1 : h1 300 = h 300 := k1 300 (by omega)
  refine ⟨h2, V2, k1.trans k2, ?_⟩
  rw [b_law_1435, e, at_1 hL hi, at_k (j := 2) hL hi (by omega), a1, pm_bd_s, e1, at_1 hL hi, at_k (j := 2) hL hi (by omega), x1, a2, pm_bd_s, if_pos rfl, ll_1543]
theorem ll_undo {d i : Nat} {h : pm_Hp} (hd : 40 ≤ d) (V : IV h) : LG d 1468 i h := by
  obtain ⟨r, h1, h2, a1, a2, k1, k2, V2⟩ := al_undo hd V 
  refine ⟨h2, V2, k1.trans k2, ?_⟩
  rw [b_law_1468, a1, pm_bd_s, a2, pm_bd_s, if_pos rfl, ll_1543]
theorem ll_image {d L i : Nat} {h : pm_Hp} (hd : 40 ≤ d) (V : IV h) (e : h 301 0 = nI L) (hL : L ≤ 3072) (hi : i + 6 ≤ L) : LG d 1481 i h := by
  by_cases g : h 300 (i + 1) = 0
  · obtain ⟨r, h1, h2, a1, a2, k1, k2, V2⟩ := al_image hd V 0
    have e1 : h1 301 0 = nI L := by rw [k1 301 (by omega)]; exact e
    have x1 : h1 300 = h 300 := k1 300 (by omega)
    refine ⟨h2, V2, k1.trans k2, ?_⟩
    rw [b_law_1481, e, at_1 hL hi, if_pos g, a1, pm_bd_s, e1, at_1 hL hi, if_pos (show h1 300 (i + 1) = 0 by rw [x1]; exact g), a2, pm_bd_s, if_pos rfl, ll_1543]
  · obtain ⟨r, h1, h2, a1, a2, k1, k2, V2⟩ := al_image hd V 1
    have e1 : h1 301 0 = nI L := by rw [k1 301 (by omega)]; exact e
    have x1 : h1 300 = h 300 := k1 300 (by omega)
    refine ⟨h2, V2, k1.trans k2, ?_⟩
    rw [b_law_1481, e, at_1 hL hi, if_neg g, a1, pm_bd_s, e1, at_1 hL hi, if_neg (show ¬ h1 300 (i + 1) = 0 by rw [x1]; exact g), a2, pm_bd_s, if_pos rfl, ll_1543]
theorem ll_look {d L i : Nat} {h : pm_Hp} (hd : 40 ≤ d) (V : IV h) (e : h 301 0 = nI L) (hL : L ≤ 3072) (hi : i + 6 ≤ L) : LG d 1520 i h := by
  obtain ⟨r, h1, h2, a1, a2, k1, k2, V2⟩ := al_look hd V (h 300 (i + 1))
  have e1 : h1 301 0 = nI L := by rw [k1 301 (by omega)]; exact e
  have x1 : h1 300 = h 300 := k1 300 (by omega)
  refine ⟨h2, V2, k1.trans k2, ?_⟩
  rw [b_law_1520, e, at_1 hL hi, a1, pm_bd_s, e1, at_1 hL hi, x1, a2, pm_bd_s, if_pos rfl, ll_1543]
theorem le_6 {i L : Nat} (hi : i < 2 ^ 20) (hL : L < 2 ^ 20) : nI i ≤ nI L - nI 6 ↔ i + 6 ≤ L := by
  by_cases g : 6 ≤ L
  · rw [show nI L = nI (L - 6) + nI 6 by rw [nI_add, Nat.sub_add_cancel g], Int32.add_sub_cancel, nI_leE (by omega) (by omega)]
    omega
  · have n : nI L - nI 6 < 0 := by
      have : L = 0 ∨ L = 1 ∨ L = 2 ∨ L = 3 ∨ L = 4 ∨ L = 5 := by omega
      rcases this with rfl | rfl | rfl | rfl | rfl | rfl <;> decide
    have p : ¬ nI i < 0 := nI_pos (by omega)
    constructor
    · intro q
      exact absurd (Int32.lt_of_le_of_lt q n) p
    · intro q; omega
theorem law_all {d L : Nat} (hd : 40 ≤ d) (hL : L ≤ 3072) : ∀ (n i : Nat) (h : pm_Hp), L < i + n → i ≤ L + 6 → IV h → h 301 0 = nI L → ∃ h', pm_rn d pm_law 18 [.ref 300, .ref 0, .ref 169, .int (nI i)] [] h = some (1, h') := by
  intro n
  induction n with
  | zero =>
    intro i h hn hi V e
    refine ⟨h, ?_⟩
    rw [b_law_18, e, if_neg (fun z => by have := (le_6 (by omega) (by omega)).mp z; omega)]
  | succ n ih =>
    intro i h hn hi V e
    by_cases g : i + 6 ≤ L
    · have fin : ∀ pc, LG d pc i h → ∃ h', pm_rn d pm_law pc [.ref 300, .ref 0, .ref 169, .int (nI i)] [] h = some (1, h') := fun pc G => by
        obtain ⟨h2, V2, k2, x⟩ := G
        rw [x]
        exact ih (i + 6) h2 (by omega) (by omega) V2 (by rw [k2 301 (by omega)]; exact e)
      have other : LG d 1543 i h := ⟨h, V, k185.refl h, ll_1543⟩
      rw [b_law_18, e, if_pos ((le_6 (by omega) (by omega)).mpr g), at_0 hL g]
      generalize h 300 i &&& nI 63 = x
      by_cases g0 : x = 0
      · rw [if_pos g0]; exact fin _ (ll_state hd V e hL g)
      rw [if_neg g0]
      by_cases g1 : x = 1
      · rw [if_pos g1]; exact fin _ (ll_thing hd V e hL g)
      rw [if_neg g1]
      by_cases g2 : x = nI 2
      · rw [if_pos g2]; exact fin _ (ll_actor hd V)
      rw [if_neg g2]
      by_cases g3 : x = nI 3
      · rw [if_pos g3]; exact fin _ (ll_rack hd V e hL g)
      rw [if_neg g3]
      by_cases g4 : x = nI 4
      · rw [if_pos g4]; exact fin _ (ll_measure hd V e hL g)
      rw [if_neg g4]
      by_cases g5 : x = nI 5
      · rw [if_pos g5]; exact fin _ (ll_set hd V e hL g)
      rw [if_neg g5]
      by_cases g6 : x = nI 6
      · rw [if_pos g6]; exact fin _ (ll_put hd V e hL g)
      rw [if_neg g6]
      by_cases g7 : x = nI 7
      · rw [if_pos g7]; exact fin _ (ll_take hd V e hL g)
      rw [if_neg g7]
      by_cases g8 : x = nI 8
      · rw [if_pos g8]; exact fin _ (ll_alter hd V e hL g)
      rw [if_neg g8]
      by_cases g9 : x = nI 9
      · rw [if_pos g9]; exact fin _ (ll_care hd V e hL g)
      rw [if_neg g9]
      by_cases g10 : x = nI 10
      · rw [if_pos g10]; exact fin _ (ll_hire hd V e hL g)
      rw [if_neg g10]
      by_cases g11 : x = nI 11
      · rw [if_pos g11]; exact fin _ (ll_back hd V e hL g)
      rw [if_neg g11]
      by_cases g12 : x = nI 12
      · rw [if_pos g12]; exact fin _ (ll_days hd V e hL g)
      rw [if_neg g12]
      by_cases g13 : x = nI 13
      · rw [if_pos g13]; exact fin _ (ll_feed hd V e hL g)
      rw [if_neg g13]
      by_cases g14 : x = nI 14
      · rw [if_pos g14]; exact fin _ (ll_end hd V e hL g)
      rw [if_neg g14]
      by_cases g15 : x = nI 15
      · rw [if_pos g15]; exact fin _ (ll_text hd V e hL g)
      rw [if_neg g15]
      by_cases g16 : x = nI 16
      · rw [if_pos g16]; exact fin _ (ll_fault hd V e hL g)
      rw [if_neg g16]
      by_cases g17 : x = nI 17
      · rw [if_pos g17]; exact fin _ (ll_of hd V e hL g)
      rw [if_neg g17]
      by_cases g18 : x = nI 18
      · rw [if_pos g18]; exact fin _ (ll_at hd V e hL g)
      rw [if_neg g18]
      by_cases g19 : x = nI 19
      · rw [if_pos g19]; exact fin _ (ll_body hd V e hL g)
      rw [if_neg g19]
      by_cases g20 : x = nI 20
      · rw [if_pos g20]; exact fin _ (ll_slot hd V e hL g)
      rw [if_neg g20]
      by_cases g21 : x = nI 21
      · rw [if_pos g21]; exact fin _ (ll_book hd V e hL g)
      rw [if_neg g21]
      by_cases g22 : x = nI 22
      · rw [if_pos g22]; exact fin _ (ll_fits hd V e hL g)
      rw [if_neg g22]
      by_cases g23 : x = nI 23
      · rw [if_pos g23]; exact fin _ (ll_cost hd V e hL g)
      rw [if_neg g23]
      by_cases g24 : x = nI 24
      · rw [if_pos g24]; exact fin _ (ll_suits hd V e hL g)
      rw [if_neg g24]
      by_cases g25 : x = nI 25
      · rw [if_pos g25]; exact fin _ (ll_wear hd V e hL g)
      rw [if_neg g25]
      by_cases g26 : x = nI 26
      · rw [if_pos g26]; exact fin _ (ll_plan hd V e hL g)
      rw [if_neg g26]
      by_cases g27 : x = nI 27
      · rw [if_pos g27]; exact fin _ (ll_best hd V e hL g)
      rw [if_neg g27]
      by_cases g28 : x = nI 28
      · rw [if_pos g28]; exact fin _ (ll_dresses hd V e hL g)
      rw [if_neg g28]
      by_cases g29 : x = nI 29
      · rw [if_pos g29]; exact fin _ (ll_holds hd V e hL g)
      rw [if_neg g29]
      by_cases g30 : x = nI 30
      · rw [if_pos g30]; exact fin _ (ll_path hd V e hL g)
      rw [if_neg g30]
      by_cases g31 : x = nI 31
      · rw [if_pos g31]; exact fin _ (ll_tour hd V e hL g)
      rw [if_neg g31]
      by_cases g32 : x = nI 32
      · rw [if_pos g32]; exact fin _ (ll_alone hd V e hL g)
      rw [if_neg g32]
      by_cases g33 : x = nI 33
      · rw [if_pos g33]; exact fin _ (ll_mends hd V e hL g)
      rw [if_neg g33]
      by_cases g34 : x = nI 34
      · rw [if_pos g34]; exact fin _ (ll_swaps hd V e hL g)
      rw [if_neg g34]
      by_cases g35 : x = nI 35
      · rw [if_pos g35]; exact fin _ (ll_wish hd V e hL g)
      rw [if_neg g35]
      by_cases g36 : x = nI 36
      · rw [if_pos g36]; exact fin _ (ll_earns hd V e hL g)
      rw [if_neg g36]
      by_cases g37 : x = nI 37
      · rw [if_pos g37]; exact fin _ (ll_share hd V e hL g)
      rw [if_neg g37]
      by_cases g38 : x = nI 38
      · rw [if_pos g38]; exact fin _ (ll_undo hd V)
      rw [if_neg g38]
      by_cases g39 : x = nI 39
      · rw [if_pos g39]; exact fin _ (ll_image hd V e hL g)
      rw [if_neg g39]
      by_cases g40 : x = nI 40
      · rw [if_pos g40]; exact fin _ (ll_look hd V e hL g)
      rw [if_neg g40]
      exact fin _ other
    · refine ⟨h, ?_⟩
      rw [b_law_18, e, if_neg (fun z => g ((le_6 (by omega) (by omega)).mp z))]
