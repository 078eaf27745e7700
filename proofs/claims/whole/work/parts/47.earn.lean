/-! EARNING -/
def WS (q : Nat) (h : pm_Hp) : Prop := q ≤ 10 ∧ h 1 14 = nI q ∧ h 170 331 = nI q ∧ ∀ i k, i < q → k < 4 → h 17 (i * 4 + k) = h 170 (2644 + 4 * i + k)
theorem WS.eq {q : Nat} {h h' : pm_Hp} (e : h' 170 = h 170) (e1 : h' 1 = h 1) (e17 : h' 17 = h 17) (a : WS q h) : WS q h' := by
  unfold WS at a ⊢
  rw [e, e1, e17]
  exact a
abbrev wl (w : Nat → Int32) (i k : Nat) : Int32 := w (2644 + 4 * i + k)
abbrev clh (w : Nat → Int32) (i j : Nat) : Prop := wl w i 0 = wl w j 0 ∧ wl w i 1 < wl w j 1 + wl w j 2 ∧ wl w j 1 < wl w i 1 + wl w i 2
theorem c_clash {d q i j : Nat} {h : pm_Hp} (hd : 1 ≤ d) (S : WS q h) (hi : i < q) (hj : j < q) : pm_ev d 2 [.ref 17, .int (nI i * nI 4), .int (nI j * nI 4)] h = some (b2 (clh (h 170) i j), h) := by
  obtain ⟨d, rfl, -⟩ := dpos hd
  obtain ⟨hq, -, -, hw⟩ := S
  have a0 := hw i 0 hi (by omega)
  have a1 := hw i 1 hi (by omega)
  have a2 := hw i 2 hi (by omega)
  have c0 := hw j 0 hj (by omega)
  have c1 := hw j 1 hj (by omega)
  have c2 := hw j 2 hj (by omega)
  rw [Nat.add_zero] at a0 c0
  rw [e_X0_clash, pm_at_n (j := i * 4) (by rw [pk_mul]) (by omega) (by omega), pm_at_n (j := j * 4) (by rw [pk_mul]) (by omega) (by omega), a0, c0, pm_at_n (j := i * 4 + 1) (by rw [pk_mul, nI_1]) (by omega) (by omega), pm_at_n (j := j * 4 + 1) (by rw [pk_mul, nI_1]) (by omega) (by omega), pm_at_n (j := j * 4 + 2) (by rw [pk_mul, nI_add]) (by omega) (by omega), a1, c1, c2, pm_at_n (j := j * 4 + 1) (by rw [pk_mul, nI_1]) (by omega) (by omega), pm_at_n (j := i * 4 + 1) (by rw [pk_mul, nI_1]) (by omega) (by omega), pm_at_n (j := i * 4 + 2) (by rw [pk_mul, nI_add]) (by omega) (by omega), a1, a2, c1]
  by_cases g0 : wl (h 170) i 0 = wl (h 170) j 0
  · rw [if_pos g0]
    by_cases g1 : wl (h 170) i 1 < wl (h 170) j 1 + wl (h 170) j 2
    · rw [if_pos g1]
      by_cases g2 : wl (h 170) j 1 < wl (h 170) i 1 + wl (h 170) i 2
      · rw [if_pos g2, b2_t ⟨g0, g1, g2⟩]
      · rw [if_neg g2, b2_f (fun z => g2 z.2.2)]
    · rw [if_neg g1, b2_f (fun z => g1 z.2.1)]
  · rw [if_neg g0, b2_f (fun z => g0 z.1)]
theorem m_areBoth {d q i j : Nat} {h : pm_Hp} (hd : 1 ≤ d) (S : WS q h) (hi : i < q) (hj : j < q) : pm_ev d 286 [.ref 169, .int (nI i), .int (nI j)] h = some (b2 (¬ clh (h 170) i j), h) := by
  obtain ⟨d, rfl, -⟩ := dpos hd
  have hq := S.1
  have ni : ∀ i : Nat, nI 2644 + nI 4 * nI i = nI (2644 + 4 * i) := fun i => by rw [pk_mul, nI_add]
  rw [e_X10_areBoth, ni, ni, pm_at_n (j := 2644 + 4 * i) rfl (by omega) (by omega), pm_at_n (j := 2644 + 4 * j) rfl (by omega) (by omega), pm_at_n (j := 2644 + 4 * i + 1) (by rw [nI_1]) (by omega) (by omega), pm_at_n (j := 2644 + 4 * i + 2) (by rw [nI_add]) (by omega) (by omega), pm_at_n (j := 2644 + 4 * j + 1) (by rw [nI_1]) (by omega) (by omega), pm_at_n (j := 2644 + 4 * j + 1) (by rw [nI_1]) (by omega) (by omega), pm_at_n (j := 2644 + 4 * j + 2) (by rw [nI_add]) (by omega) (by omega), pm_at_n (j := 2644 + 4 * i + 1) (by rw [nI_1]) (by omega) (by omega)]
  show (if wl (h 170) i 0 = wl (h 170) j 0 then (if wl (h 170) i 1 + wl (h 170) i 2 ≤ wl (h 170) j 1 then some (1, h) else if wl (h 170) j 1 + wl (h 170) j 2 ≤ wl (h 170) i 1 then some (1, h) else some (0, h)) else some (1, h)) = _
  by_cases g0 : wl (h 170) i 0 = wl (h 170) j 0
  · rw [if_pos g0]
    by_cases g1 : wl (h 170) i 1 + wl (h 170) i 2 ≤ wl (h 170) j 1
    · rw [if_pos g1, b2_t (p := ¬ clh (h 170) i j) (fun z => absurd z.2.2 (Int32.not_lt.mpr g1))]
    · rw [if_neg g1]
      by_cases g2 : wl (h 170) j 1 + wl (h 170) j 2 ≤ wl (h 170) i 1
      · rw [if_pos g2, b2_t (p := ¬ clh (h 170) i j) (fun z => absurd z.2.1 (Int32.not_lt.mpr g2))]
      · rw [if_neg g2, b2_f (fun z => z ⟨g0, Int32.not_le.mp g2, Int32.not_le.mp g1⟩)]
  · rw [if_neg g0, b2_t (p := ¬ clh (h 170) i j) (fun z => g0 z.1)]
theorem exb_iff {q : Nat → Bool} : ∀ {n : Nat}, exb q n = true ↔ ∃ i, i < n ∧ q i = true := by
  intro n
  induction n with
  | zero => constructor
            · intro h; cases h
            · rintro ⟨i, hi, -⟩; omega
  | succ n ih =>
    show (exb q n || q n) = true ↔ _
    rw [Bool.or_eq_true, ih]
    constructor
    · rintro (⟨i, hi, hq⟩ | hq)
      · exact ⟨i, by omega, hq⟩
      · exact ⟨n, by omega, hq⟩
    · rintro ⟨i, hi, hq⟩
      by_cases e : i = n
      · subst e; exact Or.inr hq
      · exact Or.inl ⟨i, by omega, hq⟩
theorem sof_and0 (p : Nat → Bool) (n s : Nat) : sof p n &&& s = 0 ↔ ¬ exb (fun k => s.testBit k && p k) n = true := by
  constructor
  · intro h g
    obtain ⟨i, hi, hq⟩ := exb_iff.mp g
    rw [Bool.and_eq_true] at hq
    have : (sof p n &&& s).testBit i = true := by
      rw [Nat.testBit_and, sof_bit, hq.1, hq.2]
      simp [hi]
    rw [h, Nat.zero_testBit] at this
    cases this
  · intro h
    apply Nat.eq_of_testBit_eq
    intro i
    rw [Nat.zero_testBit, Nat.testBit_and, sof_bit]
    by_cases hi : i < n
    · cases hp : p i with
      | false => simp
      | true =>
        cases hs : s.testBit i with
        | false => simp
        | true => exact absurd (exb_iff.mpr ⟨i, hi, by rw [hs, hp]; rfl⟩) h
    · simp [hi]
theorem and_lt' {a b n : Nat} (ha : a < n) : a &&& b < n := Nat.lt_of_le_of_lt Nat.and_le_left ha
theorem nI_and0 {a b : Nat} (ha : a < 2 ^ 31) : (nI a &&& nI b = 0) = (a &&& b = 0) := by
  rw [nI_and]
  have := and_lt' (b := b) ha
  exact propext (nI_eq (b := 0) this (by omega))
/-- what a set of wishes pays: -1 if two clash -/
def wor (cl : Nat → Nat → Bool) (pay : Nat → Int32) (s : Nat) : Nat → Nat → Int32 → Int32
  | _, 0, a => a
  | i, n + 1, a => if s.testBit i = true then (if exb (fun k => s.testBit k && cl i k) i = true then -1 else wor cl pay s (i + 1) n (a + pay i)) else wor cl pay s (i + 1) n a
abbrev clb (w : Nat → Int32) : Nat → Nat → Bool := fun i j => decide (clh w i j)
abbrev wrt (w : Nat → Int32) (q s : Nat) : Int32 := wor (clb w) (fun i => wl w i 3) s 0 q 0
theorem c_worth {d q s : Nat} {h : pm_Hp} (hd : 2 ≤ d) (S : WS q h) (hr : ∀ i, i < q → h 166 i = nI (sof (clb (h 170) i) i)) (hs : s < 2 ^ 31) : pm_ev d 3 [.ref 165, .ref 1, .int (nI s)] h = some (wrt (h 170) q s, h) := by
  obtain ⟨d, rfl, -⟩ := dpos hd
  obtain ⟨hq, h1, h2, hw⟩ := S
  rw [e_X0_worth]
  have key : ∀ (n i : Nat) (a : Int32), i + n = q → pm_rn d kX0_worth 5 [.ref 165, .ref 1, .int (nI s), .int a, .int (nI i)] [] h = some (wor (clb (h 170)) (fun i => wl (h 170) i 3) s i n a, h) := by
    intro n
    induction n with
    | zero =>
      intro i a hi
      rw [b_X0_worth_5, h1, if_neg (nI_nlt (by omega) (by omega))]
      rfl
    | succ n ih =>
      intro i a hi
      have hi' : i < q := by omega
      have l2 : 2 ^ i ≤ 2 ^ 10 := Nat.pow_le_pow_right (by omega) (by omega)
      rw [b_X0_worth_5, h1, if_pos (nI_lt hi' (by omega)), c_has (by omega) h hs (by omega), pm_bd_s, b2_if0, pm_at_c (by omega) (by omega), hr i hi', pm_at_n (j := i * 4 + 3) (by rw [pk_mul, nI_add]) (by omega) (by omega), hw i 3 hi' (by omega), nI_1]
      have z : (nI (sof (clb (h 170) i) i) &&& nI s = 0) ↔ ¬ exb (fun k => s.testBit k && clb (h 170) i k) i = true := by
        rw [nI_and0 (Nat.lt_of_lt_of_le (sof_lt _ _) (by omega)), sof_and0]
      unfold wor
      by_cases c : s.testBit i = true
      · rw [if_pos c, if_pos c]
        by_cases g : exb (fun k => s.testBit k && clb (h 170) i k) i = true
        · rw [if_neg (fun q => z.mp q g), if_pos g]
        · rw [if_pos (z.mpr g), if_neg g]
          exact ih (i + 1) _ (by omega)
      · rw [if_neg c, if_neg c]
        exact ih (i + 1) _ (by omega)
  exact key q 0 0 (by omega)
theorem m_paysFor {d q s : Nat} {h : pm_Hp} (hd : 2 ≤ d) (S : WS q h) (hs : s < 2 ^ 31) : pm_ev d 287 [.ref 169, .int (nI s)] h = some (wrt (h 170) q s, h) := by
  obtain ⟨d, rfl, -⟩ := dpos hd
  have hq := S.1
  have h2 := S.2.2.1
  rw [e_X10_paysFor]
  have inner : ∀ i, i < q → ∀ (n k : Nat) (a : Int32), k + n = i → ¬ exb (fun k => s.testBit k && clb (h 170) i k) k = true → pm_rn d kX10_paysFor 30 [.ref 169, .int (nI s), .int a, .int (nI i), .int (nI k)] [] h = if exb (fun k => s.testBit k && clb (h 170) i k) i = true then some (-1, h) else pm_rn d kX10_paysFor 4 [.ref 169, .int (nI s), .int (a + wl (h 170) i 3), .int (nI (i + 1)), .int (nI i)] [] h := by
    intro i hi n
    induction n with
    | zero =>
      intro k a hk he
      have hk : k = i := by omega
      subst hk
      rw [b_X10_paysFor_30, if_neg (nI_nlt (by omega) (by omega)), pm_at_n (j := 2644 + 4 * k + 3) (by rw [pk_mul, nI_add, nI_add]) (by omega) (by omega), nI_1, if_neg he]
    | succ n ih =>
      intro k a hk he
      rw [b_X10_paysFor_30, if_pos (nI_lt (by omega) (by omega)), shr_bit hs (by omega), m_areBoth (by omega) S hi (by omega), pm_bd_s, b2_if0, nI_1]
      have ex : exb (fun k => s.testBit k && clb (h 170) i k) (k + 1) = (exb (fun k => s.testBit k && clb (h 170) i k) k || (s.testBit k && clb (h 170) i k)) := rfl
      by_cases c : s.testBit k = true
      · rw [if_pos c, if_pos rfl]
        by_cases g : clh (h 170) i k
        · rw [if_neg (fun z => z g), if_pos (exb_iff.mpr ⟨k, by omega, by show (s.testBit k && clb (h 170) i k) = true; rw [c]; exact decide_eq_true g⟩)]
        · rw [if_pos g]
          refine ih (k + 1) a (by omega) ?_
          rw [ex, show clb (h 170) i k = false from decide_eq_false g, Bool.and_false, Bool.or_false]
          exact he
      · rw [if_neg c, if_neg (by decide)]
        refine ih (k + 1) a (by omega) ?_
        rw [ex, Bool.eq_false_iff.mpr c, Bool.false_and, Bool.or_false]
        exact he
  have key : ∀ (n i : Nat) (a : Int32) (u : Value), i + n = q → pm_rn d kX10_paysFor 4 [.ref 169, .int (nI s), .int a, .int (nI i), u] [] h = some (wor (clb (h 170)) (fun i => wl (h 170) i 3) s i n a, h) := by
    intro n
    induction n with
    | zero =>
      intro i a u hi
      rw [b_X10_paysFor_4, h2, if_neg (nI_nlt (by omega) (by omega))]
      rfl
    | succ n ih =>
      intro i a u hi
      have hi' : i < q := by omega
      have inn := inner i hi' i 0 a (by omega) (by intro z; cases z)
      have inn : pm_rn d kX10_paysFor 30 [.ref 169, .int (nI s), .int a, .int (nI i), .int 0] [] h = _ := inn
      rw [b_X10_paysFor_4, h2, if_pos (nI_lt hi' (by omega)), shr_bit hs (by omega), inn, nI_1]
      unfold wor
      by_cases c : s.testBit i = true
      · rw [if_pos c, if_neg (by decide), if_pos c]
        by_cases g : exb (fun k => s.testBit k && clb (h 170) i k) i = true
        · rw [if_pos g, if_pos g]
        · rw [if_neg g, if_neg g]
          exact ih (i + 1) _ _ (by omega)
      · rw [if_neg c, if_pos rfl, if_neg c]
        exact ih (i + 1) _ _ (by omega)
  exact key q 0 0 .null (by omega)
