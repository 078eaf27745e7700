/-! what is: numbers, book, scenes -/
def SL (h : pm_Hp) : Prop := h 2 9 = h 170 0 ∧ h 2 8 = h 170 1 ∧ h 2 11 = h 170 2 ∧ h 2 10 = h 170 3 ∧ nb (h 170 0) 9999 ∧ nb (h 170 2) 120
def BK (h : pm_Hp) : Prop := ∀ i, i < 480 → h 16 i = h 170 (396 + i)
abbrev ww (w : Nat → Int32) (i f : Nat) : Int32 := w (372 + 3 * i + f)
def SN (A N M : Nat) (h : pm_Hp) : Prop := N ≤ 6 ∧ M ≤ 6 ∧ h 32 4 = nI N ∧ h 170 327 = nI N ∧ h 32 5 = nI M ∧ h 170 328 = nI M ∧ (∀ i, i < N → h 33 i = h 170 (366 + i) ∧ nb (h 170 (366 + i)) 99) ∧ ∀ i, i < M → (h 34 i = ww (h 170) i 0 ∧ h 35 i = ww (h 170) i 1 ∧ h 36 i = ww (h 170) i 2) ∧ ∃ s a k, s < N ∧ a < A ∧ k ≤ 4 ∧ ww (h 170) i 0 = nI s ∧ ww (h 170) i 1 = nI a ∧ ww (h 170) i 2 = nI k
theorem SL.scr {h h' : pm_Hp} (e : eqi SCR h h') (a : SL h) : SL h' := by
  unfold SL at a ⊢
  rw [e 170 (by decide), e 2 (by decide)]
  exact a
theorem BK.scr {h h' : pm_Hp} (e : eqi SCR h h') (a : BK h) : BK h' := by
  unfold BK at a ⊢
  rw [e 170 (by decide), e 16 (by decide)]
  exact a
theorem SN.scr {A N M : Nat} {h h' : pm_Hp} (e : eqi SCR h h') (a : SN A N M h) : SN A N M h' := by
  unfold SN at a ⊢
  rw [e 170 (by decide), e 32 (by decide), e 33 (by decide), e 34 (by decide), e 35 (by decide), e 36 (by decide)]
  exact a
theorem WS.scr {q : Nat} {h h' : pm_Hp} (e : eqi SCR h h') (a : WS q h) : WS q h' := a.eq (e 170 (by decide)) (e 1 (by decide)) (e 17 (by decide))
theorem m_ofWear {d M i f : Nat} {h : pm_Hp} (hd : 1 ≤ d) (hM : M ≤ 6) (hi : i < M) (hf : f < 3) : pm_ev d 253 [.ref 169, .int (nI i), .int (nI f)] h = some (ww (h 170) i f, h) := by
  obtain ⟨d, rfl, -⟩ := dpos hd
  rw [e_X10_ofWear, pm_at_n (j := 372 + 3 * i + f) (by simp only [pk_mul, nI_add]) (by omega) (by omega)]
theorem q_wear {d A N M : Nat} {h : pm_Hp} (hd : 3 ≤ d) (S : SN A N M h) (v x : Int32) : QE d 137 254 [.int v, .int x] h := by
  obtain ⟨d, rfl, -⟩ := dpos hd
  obtain ⟨hN, hM, s1, s2, s3, s4, s5, s6⟩ := S
  have c0 : pm_ev (d + 1) 137 [.ref 0, .int v, .int x] h = if isT M v then (if x = 0 then (pm_at v 6 fun j1 => some (h 34 j1, h)) else if x = 1 then (pm_at v 6 fun j2 => some (h 35 j2, h)) else if x = nI 2 then (pm_at v 6 fun j3 => some (h 36 j3, h)) else (some ((-1), h))) else some (-1, h) := by
    rw [e_X9_wear, s3]
    by_cases a1 : v < 0 <;> by_cases a2 : v < nI M <;> simp only [isT, a1, a2, if_true, if_false, not_true_eq_false, not_false_eq_true, and_true, and_false, and_self]
  have m0 : pm_ev (d + 1) 254 [.ref 169, .int v, .int x] h = if isT M v then (if b2 (¬ x < 0 ∧ x ≤ nI 2) = 0 then (some ((-1), h)) else (pm_bd (pm_ev d 253 [.ref 169, .int v, .int x] h) fun r3 y3 => some (r3, y3))) else some (-1, h) := by
    rw [e_X10_wear, m_isIn (by omega), pm_bd_s, s4, b2_cg (iff_of_eq (show (¬ v < 0 ∧ v ≤ nI M - 1) = isT M v by rw [le_prd v (by omega)])), b2_if0, m_isIn (by omega), pm_bd_s]
  by_cases hv : isT M v
  · rw [if_pos hv] at c0 m0
    obtain ⟨i, hi, rfl⟩ := isT_ex (by omega) hv
    obtain ⟨⟨a0, a1, a2⟩, -⟩ := s6 i hi
    rcases nI_cs (v := x) (n := 2) (by omega) with ⟨k, hk, rfl⟩ | ⟨g0, g⟩
    · refine QE.mk (r := ww (h 170) i k) (c0.trans ?_) (m0.trans ?_)
      · rw [pm_at_c (by omega) (by omega), pm_at_c (by omega) (by omega), pm_at_c (by omega) (by omega), a0, a1, a2]
        have : k = 0 ∨ k = 1 ∨ k = 2 := by omega
        rcases this with rfl | rfl | rfl
        · rw [if_pos (show nI 0 = 0 from rfl)]
        · rw [if_neg (by decide), if_pos (show nI 1 = 1 from rfl)]
        · rw [if_neg (by decide), if_neg (by decide), if_pos rfl]
      · rw [b2_t ⟨nI_pos (by omega), nI_le hk (by omega)⟩, if_neg (by decide), m_ofWear (by omega) hM hi (by omega), pm_bd_s]
    · refine QE.mk (r := -1) (c0.trans ?_) (m0.trans ?_)
      · rw [if_neg (show ¬ x = 0 from g 0 (by decide)), if_neg (show ¬ x = 1 from g 1 (by decide)), if_neg (g 2 (by decide))]
      · rw [b2_f g0, if_pos rfl]
  · rw [if_neg hv] at c0 m0
    exact QE.mk c0 m0
theorem q_book {d : Nat} {h : pm_Hp} (hd : 3 ≤ d) (S : SL h) (B : BK h) (v x : Int32) : QE d 134 247 [.int v, .int x] h := by
  obtain ⟨d, rfl, -⟩ := dpos hd
  obtain ⟨n, hn, en⟩ := S.2.2.2.2.2
  have c0 : pm_ev (d + 1) 134 [.ref 0, .int v, .int x] h = if isT n v then (if isT 4 x then (pm_at ((v * (nI 4)) + x) 480 fun j1 => some (h 16 j1, h)) else some (-1000000, h)) else some (-1000000, h) := by
    rw [e_X9_book, S.2.2.1, en]
    by_cases a1 : v < 0 <;> by_cases a2 : v < nI n <;> by_cases a3 : x < 0 <;> by_cases a4 : x < nI 4 <;> simp only [isT, a1, a2, a3, a4, if_true, if_false, not_true_eq_false, not_false_eq_true, and_true, and_false, and_self]
  have m0 : pm_ev (d + 1) 247 [.ref 169, .int v, .int x] h = if isT n v then (if isT 4 x then (pm_at (((nI 396) + ((nI 4) * v)) + x) 2684 fun j1 => some (h 170 j1, h)) else some (-1000000, h)) else some (-1000000, h) := by
    have x4 : (¬ x < 0 ∧ x ≤ nI 3) = isT 4 x := by
      rw [show nI 3 = nI 4 - 1 by decide, le_prd x (by omega)]
    rw [e_X10_book, m_isIn (by omega), pm_bd_s, en, b2_cg (iff_of_eq (show (¬ v < 0 ∧ v ≤ nI n - 1) = isT n v by rw [le_prd v (by omega)])), b2_if0, m_isIn (by omega), pm_bd_s, b2_cg (iff_of_eq x4), b2_if0]
  by_cases hv : isT n v
  · rw [if_pos hv] at c0 m0
    by_cases hx : isT 4 x
    · rw [if_pos hx] at c0 m0
      obtain ⟨i, hi, rfl⟩ := isT_ex (by omega) hv
      obtain ⟨k, hk, rfl⟩ := isT_ex (by omega) hx
      refine QE.mk (r := h 170 (396 + (i * 4 + k))) (c0.trans ?_) (m0.trans ?_)
      · rw [pm_at_n (j := i * 4 + k) (by rw [pk_mul, nI_add]) (by omega) (by omega), B _ (by omega)]
      · rw [pm_at_n (j := 396 + (i * 4 + k)) (by rw [pk_mul, nI_add, nI_add]; congr 1; omega) (by omega) (by omega)]
    · rw [if_neg hx] at c0 m0
      exact QE.mk c0 m0
  · rw [if_neg hv] at c0 m0
    exact QE.mk c0 m0
theorem q_share {d : Nat} {h : pm_Hp} (hd : 3 ≤ d) (S : SL h) (v x : Int32) : QE d 149 290 [.int v, .int x] h := by
  obtain ⟨d, rfl, -⟩ := dpos hd
  have c0 : pm_ev (d + 1) 149 [.ref 0, .int v, .int x] h = if ¬ v < 1 ∧ v ≤ nI 8 then (if ¬ x < 0 ∧ x < v then (if h 2 8 ≤ 0 then (some (0, h)) else (if v = 0 then none else if v = 0 then none else if x < (h 2 8) - (h 2 8) / v * v then (some (((h 2 8) / v) + 1, h)) else (some (((h 2 8) / v) + 0, h)))) else some (-1, h)) else some (-1, h) := by
    rw [e_X9_share]
    by_cases a1 : v < 1 <;> by_cases a2 : v ≤ nI 8 <;> by_cases a3 : x < 0 <;> by_cases a4 : x < v <;> simp only [a1, a2, a3, a4, if_true, if_false, not_true_eq_false, not_false_eq_true, and_true, and_false, and_self]
  have m0 : pm_ev (d + 1) 290 [.ref 169, .int v, .int x] h = if ¬ v < 1 ∧ v ≤ nI 8 then (if ¬ x < 0 ∧ x ≤ v - 1 then (if v = 0 then none else if v = 0 then none else if x < (if 0 ≤ h 170 1 then h 170 1 else 0) - (if 0 ≤ h 170 1 then h 170 1 else 0) / v * v then (some (((if 0 ≤ h 170 1 then h 170 1 else 0) / v) + 1, h)) else (some (((if 0 ≤ h 170 1 then h 170 1 else 0) / v) + 0, h))) else some (-1, h)) else some (-1, h) := by
    rw [e_X10_share, m_isIn (by omega), pm_bd_s, b2_if0, m_isIn (by omega), pm_bd_s, b2_if0, m_greater (by omega), pm_bd_s]
  rw [S.2.1] at c0
  by_cases hv : ¬ v < 1 ∧ v ≤ nI 8
  · rw [if_pos hv] at c0 m0
    obtain ⟨k, hk, rfl⟩ := kd_ex (n := 8) (by omega) ⟨fun z => hv.1 (Int32.lt_trans z (by decide)), hv.2⟩
    have k0 : k ≠ 0 := fun z => by subst z; exact hv.1 (by decide)
    have z : (nI k = 0) = False := eq_false (nI_ne0' (by omega) (by omega))
    have nz : ¬ nI k = 0 := nI_ne0' (by omega) (by omega)
    have xx : (¬ x < 0 ∧ x ≤ nI k - 1) = (¬ x < 0 ∧ x < nI k) := by rw [le_prd x (by omega)]
    by_cases hx : ¬ x < 0 ∧ x < nI k
    · rw [if_pos hx, if_neg nz, if_neg nz] at c0
      rw [if_pos (by rw [xx]; exact hx), if_neg nz, if_neg nz] at m0
      by_cases p : h 170 1 ≤ 0
      · rw [if_pos p] at c0
        have r0 : (if 0 ≤ h 170 1 then h 170 1 else 0) = 0 := by
          by_cases q : 0 ≤ h 170 1
          · rw [if_pos q]; exact Int32.le_antisymm p q
          · rw [if_neg q]
        rw [r0, Int32.zero_div, Int32.zero_mul, Int32.sub_zero, if_neg hx.1, Int32.add_zero] at m0
        exact QE.mk c0 m0
      · rw [if_neg p] at c0
        rw [if_pos (Int32.le_of_lt (Int32.not_le.mp p))] at m0
        by_cases c : x < h 170 1 - h 170 1 / nI k * nI k
        · rw [if_pos c] at c0 m0
          exact QE.mk c0 m0
        · rw [if_neg c] at c0 m0
          exact QE.mk c0 m0
    · rw [if_neg hx] at c0
      rw [if_neg (by rw [xx]; exact hx)] at m0
      exact QE.mk c0 m0
  · rw [if_neg hv] at c0 m0
    exact QE.mk c0 m0
