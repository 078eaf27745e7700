/-! who fits what -/
def AC (A : Nat) (h : pm_Hp) : Prop := A ≤ 6 ∧ h 170 325 = nI A ∧ h 1 12 = nI A ∧ ∀ a m, a < A → m < 5 → h 14 (a * 5 + m) = h 170 (332 + 5 * a + m) ∧ nb (h 170 (332 + 5 * a + m)) 99
theorem ds_comm {x y : Int32} (hx : nb x 9999) (hy : nb y 9999) : ds x y = ds y x := by
  obtain ⟨a, ha, rfl⟩ := hx
  obtain ⟨b, hb, rfl⟩ := hy
  rw [ds_nI ha hb, ds_nI hb ha]
  congr 1
  by_cases h1 : a < b
  · rw [if_pos h1, if_neg (by omega)]
  · rw [if_neg h1]
    by_cases h2 : b < a
    · rw [if_pos h2]
    · rw [if_neg h2]; omega
theorem nb_le {v : Int32} {k n : Nat} (h : nb v k) (hk : k ≤ n) : nb v n := by
  obtain ⟨j, hj, e⟩ := h
  exact ⟨j, by omega, e⟩
theorem one0 : ((1 : Int32) = 0) = False := eq_false (by decide)
def bb (o : Bool) : Int32 := if o = true then 1 else 0
/-- FITS: 0, 1, 2 -/
def fi (w : Nat → Int32) (t a : Nat) : Nat → Nat → Bool → Int32
  | _, 0, o => if o = true then nI 2 else 1
  | i, n + 1, o => if ¬ w (4 + 20 * t + (10 + i)) = 0 ∧ ¬ w (332 + 5 * a + i) = 0 ∧ ¬ ds (w (332 + 5 * a + i)) (w (4 + 20 * t + (10 + i))) ≤ w (4 + 20 * t + 1) then 0 else fi w t a (i + 1) n (o || (decide (¬ w (4 + 20 * t + (10 + i)) = 0) && decide (w (332 + 5 * a + i) = 0)))
abbrev fit (w : Nat → Int32) (t a : Nat) : Int32 := fi w t a 0 5 false
theorem bb_or0 (o : Bool) : bb o ||| 0 = bb o := by cases o <;> decide
theorem bb_or1 (o : Bool) : bb o ||| 1 = 1 := by cases o <;> decide
theorem c_fitL {d T R A t a : Nat} {h : pm_Hp} (hd : 1 ≤ d) (P : Pl T R h) (Q : AC A h) (W : WT h t) (ht : t < T) (ha : a < A) : ∀ (n i : Nat) (o : Bool) (u5 u6 : Value), i + n = 5 → pm_rn d kX1_fit 5 [.ref 1, .int (nI t), .int (nI a), .int (bb o), .int (nI i), u5, u6] [] h = some (fi (h 170) t a i n o, h) := by
  have hT := P.1
  have hA := Q.1
  intro n
  induction n with
  | zero =>
    intro i o u5 u6 hi
    rw [b_X1_fit_5, if_neg (nI_nlt (by omega) (by omega))]
    cases o <;> rfl
  | succ n ih =>
    intro i o u5 u6 hi
    have r1 : h 13 (t * 5 + i) = wq h t (10 + i) := by
      have := P.2.2.2.2.2.2.1 t (10 + i) ht (by omega) (by omega)
      unfold ta tj at this
      rw [if_neg (by omega), if_neg (by omega), if_neg (by omega), if_pos (by omega), if_neg (by omega), if_pos (by omega), show 10 + i - 10 = i by omega] at this
      exact this
    obtain ⟨r2, n2⟩ := Q.2.2.2 a i ha (by omega)
    have n1 := (W.2.2.2.2.2.2 i (by omega)).1
    have r3 : h 12 t = wq h t 1 := P.2.2.2.2.2.2.1 t 1 ht (by omega) (by omega)
    rw [b_X1_fit_5, if_pos (nI_lt (by omega) (by omega)), pm_at_n (j := t * 5 + i) (by rw [pk_mul, nI_add]) (by omega) (by omega), pm_at_n (j := a * 5 + i) (by rw [pk_mul, nI_add]) (by omega) (by omega), r1, r2, nI_1, e_abs (by omega) h (nb_le n2 (by omega)) (nb_le n1 (by omega)), pm_bd_s, pm_at_c (by omega) (by omega), r3, bb_or0, bb_or1, fi]
    by_cases c1 : wq h t (10 + i) = 0
    · simp only [c1, if_true, not_true_eq_false, false_and, if_false, decide_false, Bool.false_and, Bool.or_false]
      exact ih (i + 1) o _ _ (by omega)
    · by_cases c2 : h 170 (332 + 5 * a + i) = 0
      · simp only [c1, c2, if_true, if_false, not_true_eq_false, false_and, and_false, not_false_eq_true, decide_true, Bool.true_and, Bool.or_true]
        exact ih (i + 1) true _ _ (by omega)
      · by_cases c3 : ds (h 170 (332 + 5 * a + i)) (wq h t (10 + i)) ≤ wq h t 1
        · simp only [c1, c2, c3, if_true, if_false, not_true_eq_false, false_and, and_false, not_false_eq_true, decide_true, decide_false, Bool.and_false, Bool.or_false]
          exact ih (i + 1) o _ _ (by omega)
        · simp only [c1, c2, c3, if_true, if_false, not_false_eq_true, and_self]
theorem c_fit {d T R A t a : Nat} {h : pm_Hp} (hd : 2 ≤ d) (P : Pl T R h) (Q : AC A h) (W : WT h t) (ht : t < T) (ha : a < A) : pm_ev d 37 [.ref 1, .int (nI t), .int (nI a)] h = some (fit (h 170) t a, h) := by
  obtain ⟨d, rfl, -⟩ := dpos hd
  rw [e_X1_fit]
  exact c_fitL (by omega) P Q W ht ha 5 0 false _ _ (by omega)
theorem m_fitL {d A t a : Nat} {h : pm_Hp} (hd : 1 ≤ d) (Q : AC A h) (W : WT h t) (ht : t < 16) (ha : a < A) : ∀ (n i : Nat) (o : Bool) (u5 u6 : Value), i + n = 5 → pm_rn d kX10_fitsTo 5 [.ref 169, .int (nI t), .int (nI a), .int (bb o), .int (nI i), u5, u6] [] h = some (fi (h 170) t a i n o, h) := by
  have hA := Q.1
  intro n
  induction n with
  | zero =>
    intro i o u5 u6 hi
    rw [b_X10_fitsTo_5, if_neg (nI_nlt (by omega) (by omega))]
    cases o <;> rfl
  | succ n ih =>
    intro i o u5 u6 hi
    obtain ⟨-, n2⟩ := Q.2.2.2 a i ha (by omega)
    have n1 := (W.2.2.2.2.2.2 i (by omega)).1
    rw [b_X10_fitsTo_5, if_pos (nI_lt (by omega) (by omega)), m_of0 (by omega) h (nI t) _ t (10 + i) rfl (by rw [nI_add]) ht (by omega), pm_bd_s, m_bodyOf (by omega) (by omega) (by omega), pm_bd_s, nI_1, m_apart (by omega), pm_bd_s, m_of0 (by omega) h (nI t) 1 t 1 rfl rfl ht (by omega), pm_bd_s, ds_comm (nb_le n1 (by omega)) (nb_le n2 (by omega)), fi]
    have ob : (bb o = 0) = (o = false) := by cases o <;> simp [bb]
    have i0 := fun u v => ih (i + 1) false u v (by omega)
    have i1 := fun u v => ih (i + 1) true u v (by omega)
    have z0' : bb false = 0 := rfl
    have z1' : bb true = 1 := rfl
    rw [z0'] at i0
    rw [z1'] at i1
    by_cases c1 : wq h t (10 + i) = 0
    · cases o
      · simp only [c1, z0', if_true, not_true_eq_false, false_and, if_false, decide_false, Bool.false_and, Bool.or_false]
        exact i0 _ _
      · simp only [c1, z1', if_true, not_true_eq_false, false_and, if_false, decide_false, Bool.false_and, Bool.or_false, one0]
        exact i1 _ _
    · by_cases c2 : h 170 (332 + 5 * a + i) = 0
      · cases o
        · simp only [c1, c2, z0', if_true, if_false, not_true_eq_false, false_and, and_false, not_false_eq_true, decide_true, Bool.true_and, Bool.or_true]
          exact i1 _ _
        · simp only [c1, c2, z1', if_true, if_false, not_true_eq_false, false_and, and_false, not_false_eq_true, decide_true, Bool.true_and, Bool.or_true, one0]
          exact i1 _ _
      · by_cases c3 : ds (h 170 (332 + 5 * a + i)) (wq h t (10 + i)) ≤ wq h t 1
        · cases o
          · simp only [c1, c2, c3, z0', if_true, if_false, not_true_eq_false, false_and, and_false, not_false_eq_true, decide_true, decide_false, Bool.and_false, Bool.or_false]
            exact i0 _ _
          · simp only [c1, c2, c3, z1', if_true, if_false, not_true_eq_false, false_and, and_false, not_false_eq_true, decide_true, decide_false, Bool.and_false, Bool.or_false, one0]
            exact i1 _ _
        · simp only [c1, c2, c3, if_true, if_false, not_false_eq_true, and_self]
theorem m_fitsTo {d A t a : Nat} {h : pm_Hp} (hd : 2 ≤ d) (Q : AC A h) (W : WT h t) (ht : t < 16) (ha : a < A) : pm_ev d 236 [.ref 169, .int (nI t), .int (nI a)] h = some (fit (h 170) t a, h) := by
  obtain ⟨d, rfl, -⟩ := dpos hd
  rw [e_X10_fitsTo]
  exact m_fitL (by omega) Q W ht ha 5 0 false _ _ (by omega)
/-- SUITS, of kinds 0 .. 5 -/
theorem c_isOfKind {d T R t k : Nat} {h : pm_Hp} (hd : 1 ≤ d) (P : Pl T R h) (W : WT h t) (ht : t < T) (hk : k ≤ 5) : pm_ev d 10 [.ref 1, .int (nI t), .int (nI k)] h = some (b2 (wq h t 0 = nI k ∨ (wq h t 0 < nI 3 ∧ nI k < wq h t 0)), h) := by
  obtain ⟨d, rfl, -⟩ := dpos hd
  have hT := P.1
  obtain ⟨j, hj, e⟩ := W.1
  rw [e_X1_isOfKind, pm_at_c (by omega) (by omega), P.r0 ht, e]
  have hj' : j = 0 ∨ j = 1 ∨ j = 2 ∨ j = 3 ∨ j = 4 ∨ j = 5 := by omega
  have hk' : k = 0 ∨ k = 1 ∨ k = 2 ∨ k = 3 ∨ k = 4 ∨ k = 5 := by omega
  rcases hj' with rfl | rfl | rfl | rfl | rfl | rfl <;> rcases hk' with rfl | rfl | rfl | rfl | rfl | rfl <;> rfl
theorem m_isOfKind {d t k : Nat} {h : pm_Hp} (hd : 2 ≤ d) (W : WT h t) (ht : t < 16) (hk : k ≤ 5) : pm_ev d 251 [.ref 169, .int (nI t), .int (nI k)] h = some (b2 (wq h t 0 = nI k ∨ (wq h t 0 < nI 3 ∧ nI k < wq h t 0)), h) := by
  obtain ⟨d, rfl, -⟩ := dpos hd
  obtain ⟨j, hj, e⟩ := W.1
  rw [e_X10_isOfKind, m_of0 (by omega) h (nI t) 0 t 0 rfl rfl ht (by omega), pm_bd_s, m_of0 (by omega) h (nI t) 0 t 0 rfl rfl ht (by omega), pm_bd_s, m_of0 (by omega) h (nI t) 0 t 0 rfl rfl ht (by omega), pm_bd_s, e]
  unfold b2
  by_cases h1 : nI j = nI k <;> by_cases h2 : nI j < nI 3 <;> by_cases h3 : nI k < nI j <;> simp [h1, h2, h3]
/-- dressed by a thing at hand that is no trunk -/
abbrev clo (h : pm_Hp) (t a : Nat) : Prop := ¬ wq h t 0 = nI 5 ∧ ¬ aw h t ∧ fit (h 170) t a = 1
theorem c_clothes {d T R A t a : Nat} {h : pm_Hp} (hd : 4 ≤ d) (P : Pl T R h) (Q : AC A h) (W : WT h t) (ht : t < T) (ha : a < A) : pm_ev d 38 [.ref 1, .int (nI t), .int (nI a)] h = some (b2 (clo h t a), h) := by
  obtain ⟨d, rfl, -⟩ := dpos hd
  rw [e_X1_clothes, c_isWearable_y (by omega) P ht, pm_bd_s, b2_if0, c_isAway (by omega) P ht, pm_bd_s, b2_if0, c_fit (by omega) P Q W ht ha, pm_bd_s]
  unfold b2
  by_cases h1 : wq h t 0 = nI 5 <;> by_cases h2 : aw h t <;> by_cases h3 : fit (h 170) t a = 1 <;> simp [clo, h1, h2, h3]
def drb (h : pm_Hp) (A t : Nat) : Int32 := itr (fun a s => if clo h t a then s ||| pm_shl 1 (nI a) else s) 0 A 0
theorem c_dressedBy {d T R A t : Nat} {h : pm_Hp} (hd : 5 ≤ d) (P : Pl T R h) (Q : AC A h) (W : WT h t) (ht : t < T) : pm_ev d 39 [.ref 1, .int (nI t)] h = some (drb h A t, h) := by
  obtain ⟨d, rfl, -⟩ := dpos hd
  have hA := Q.1
  rw [e_X1_dressedBy]
  have key := itr_lp (fun i (s : Int32) => pm_rn d kX1_dressedBy 4 [.ref 1, .int (nI t), .int s, .int (nI i)] [] h) (fun a s => if clo h t a then s ||| pm_shl 1 (nI a) else s) A (fun _ _ => True) (fun i s hi _ => ⟨?_, trivial⟩) A 0 0 (by omega) trivial
  · refine key.1.trans ?_
    rw [b_X1_dressedBy_4, Q.2.2.1, if_neg (nI_nlt (by omega) (by omega))]
    rfl
  · show pm_rn d kX1_dressedBy 4 [.ref 1, .int (nI t), .int s, .int (nI i)] [] h = pm_rn d kX1_dressedBy 4 [.ref 1, .int (nI t), .int _, .int (nI (i + 1))] [] h
    rw [b_X1_dressedBy_4, Q.2.2.1, if_pos (nI_lt hi (by omega)), c_clothes (by omega) P Q W ht hi, pm_bd_s, b2_if0, nI_1]
    by_cases g : clo h t i
    · rw [if_pos g, if_pos g]
    · rw [if_neg g, if_neg g]
