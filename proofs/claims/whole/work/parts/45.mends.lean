/-- how many of n are in a set -/
def pcn (s : Nat) : Nat → Nat
  | 0 => 0
  | n + 1 => pcn s n + (if s.testBit n = true then 1 else 0)
theorem pcn_le (s : Nat) : ∀ n, pcn s n ≤ n := by
  intro n
  induction n with
  | zero => exact Nat.le_refl _
  | succ n ih =>
    unfold pcn
    by_cases g : s.testBit n = true
    · rw [if_pos g]; omega
    · rw [if_neg g]; omega
theorem pcn_full {s : Nat} : ∀ {n : Nat}, pcn s n = n → ∀ k, k < n → s.testBit k = true := by
  intro n
  induction n with
  | zero => intro _ k hk; omega
  | succ n ih =>
    intro h k hk
    unfold pcn at h
    have := pcn_le s n
    by_cases g : s.testBit n = true
    · rw [if_pos g] at h
      by_cases e : k = n
      · subst e; exact g
      · exact ih (by omega) k (by omega)
    · rw [if_neg g] at h; omega
theorem bit_add {s t : Nat} (k : Nat) : (s ||| 2 ^ t).testBit k = (s.testBit k || decide (t = k)) := by
  rw [Nat.testBit_or, Nat.testBit_two_pow]
theorem pcn_add {s t : Nat} (hb : s.testBit t = false) : ∀ n, pcn (s ||| 2 ^ t) n = pcn s n + (if t < n then 1 else 0) := by
  intro n
  induction n with
  | zero => rfl
  | succ n ih =>
    unfold pcn
    rw [ih, bit_add]
    by_cases e : t = n
    · subst e
      simp [hb]
    · by_cases g : t < n
      · simp [e, g, show t < n + 1 by omega]; omega
      · simp [e, g, show ¬ t < n + 1 by omega]
theorem pcn_hi {s T : Nat} (hs : s < 2 ^ T) : ∀ n, T ≤ n → pcn s n = pcn s T := by
  intro n
  induction n with
  | zero => intro h; have : T = 0 := by omega
            subst this; rfl
  | succ n ih =>
    intro h
    by_cases e : T = n + 1
    · rw [e]
    · unfold pcn
      rw [if_neg (by
        rw [Nat.testBit_lt_two_pow (Nat.lt_of_lt_of_le hs (Nat.pow_le_pow_right (by omega) (by omega : T ≤ n)))]
        decide), ih (by omega), Nat.add_zero]
      cases T <;> rfl
theorem add_lt {s t T : Nat} (hs : s < 2 ^ T) (ht : t < T) : s ||| 2 ^ t < 2 ^ T := Nat.or_lt_two_pow hs (Nat.pow_lt_pow_right (by omega) ht)
theorem m_count {d s : Nat} {h : pm_Hp} (hd : 1 ≤ d) (hs : s < 2 ^ 31) : pm_ev d 274 [.int (nI s)] h = some (nI (pcn s 16), h) := by
  obtain ⟨d, rfl, -⟩ := dpos hd
  rw [e_X10_count]
  have key := itr_lp (fun i (x : Nat) => pm_rn d kX10_count 4 [.int (nI s), .int (nI x), .int (nI i)] [] h) (fun k x => x + (if s.testBit k = true then 1 else 0)) 16 (fun _ _ => True) (fun i x hi _ => ⟨?_, trivial⟩) 16 0 0 (by omega) trivial
  · refine key.1.trans ?_
    rw [b_X10_count_4, if_neg (nI_nlt (by omega) (by omega))]
    rfl
  · show pm_rn d kX10_count 4 [.int (nI s), .int (nI x), .int (nI i)] [] h = pm_rn d kX10_count 4 [.int (nI s), .int (nI _), .int (nI (i + 1))] [] h
    rw [b_X10_count_4, if_pos (nI_lt hi (by omega)), shr_bit hs (by omega), nI_1]
    by_cases g : s.testBit i = true
    · rw [if_pos g, if_pos g, nI_1]
    · rw [if_neg g, if_neg g, Int32.add_zero]; rfl
/-- the cheapest to mend -/
abbrev chp (h : pm_Hp) (n0 : Nat) (L0 : Nat → Ln) (s : Nat) : Nat → Option Nat → Option Nat := bst (fun t => decide (mb h t) && !s.testBit t) (mal (h 170) n0 L0)
theorem c_cheapest {d T R A n0 n1 s : Nat} {L0 L1 : Nat → Ln} {h g : pm_Hp} (hd : 2 ≤ d) (S : St T R A n0 n1 L0 L1 h) (hg : eqi SCR h g) (hr : ∀ t, t < T → g 38 t = if mb h t then mal (h 170) n0 L0 t else -1) (hs : s < 2 ^ 31) : pm_ev d 35 [.ref 1, .int (nI s)] g = some (o2 (itr (chp h n0 L0 s) 0 T none), g) := by
  obtain ⟨d, rfl, -⟩ := dpos hd
  have hT := S.1.1
  rw [e_X1_cheapestToMend]
  have key := itr_lp (fun i (b : Option Nat) => pm_rn d kX1_cheapestToMend 4 [.ref 1, .int (nI s), .int (o2 b), .int (nI i)] [] g) (chp h n0 L0 s) T (fun _ b => ∀ u, b = some u → u < T ∧ mb h u) (fun i b hi hb => ⟨?_, ?_⟩) T 0 none (by omega) (fun u hu => by cases hu)
  · refine key.1.trans ?_
    rw [b_X1_cheapestToMend_4, hg 1 (by decide), S.1.2.2.2.1, if_neg (nI_nlt (by omega) (by omega))]
  · show pm_rn d kX1_cheapestToMend 4 [.ref 1, .int (nI s), .int (o2 b), .int (nI i)] [] g = pm_rn d kX1_cheapestToMend 4 [.ref 1, .int (nI s), .int (o2 _), .int (nI (i + 1))] [] g
    rw [b_X1_cheapestToMend_4, hg 1 (by decide), S.1.2.2.2.1, if_pos (nI_lt hi (by omega)), pm_at_c (by omega) (by omega), hr i hi, c_has (by omega) g hs (by omega), pm_bd_s, b2_if0, pm_at_c (by omega) (by omega), hr i hi, nI_1]
    show _ = pm_rn d kX1_cheapestToMend 4 [.ref 1, .int (nI s), .int (o2 (bst _ _ i b)), .int (nI (i + 1))] [] g
    unfold bst
    by_cases c1 : mb h i
    · rw [if_pos c1, if_neg (mal_m1 (S.2.2.1 i hi)).1]
      by_cases c2 : s.testBit i = true
      · rw [if_pos c2, if_neg (by simp [c2])]
      · have yc : (decide (mb h i) && !s.testBit i) = true := by rw [decide_eq_true c1, Bool.eq_false_iff.mpr c2]; rfl
        rw [if_neg c2, if_pos yc]
        cases b with
        | none => rw [if_pos (show o2 none = -1 from rfl)]; rfl
        | some w =>
          obtain ⟨hw, mw⟩ := hb w rfl
          rw [if_neg (show ¬ o2 (some w) = -1 by show ¬ nI w = -1; rw [nI_m1 (by omega)]; exact id)]
          show pm_at (nI w) 16 _ = pm_rn d kX1_cheapestToMend 4 [.ref 1, .int (nI s), .int (o2 (if mal (h 170) n0 L0 i < mal (h 170) n0 L0 w then some i else some w)), .int (nI (i + 1))] [] g
          rw [pm_at_c (by omega) (by omega), hr w hw, if_pos mw]
          by_cases c3 : mal (h 170) n0 L0 i < mal (h 170) n0 L0 w
          · rw [if_pos c3, if_pos c3]; rfl
          · rw [if_neg c3, if_neg c3]
    · rw [if_neg c1, if_pos rfl, if_neg (by simp only [Bool.and_eq_true, decide_eq_true_eq]; exact fun q => c1 q.1)]
  · intro u hu
    have hu : bst (fun t => decide (mb h t) && !s.testBit t) (mal (h 170) n0 L0) i b = some u := hu
    unfold bst at hu
    by_cases c : (decide (mb h i) && !s.testBit i) = true
    · have ci : i < T ∧ mb h i := ⟨hi, by simp only [Bool.and_eq_true, decide_eq_true_eq] at c; exact c.1⟩
      rw [if_pos c] at hu
      cases b with
      | none => cases hu; exact ci
      | some w =>
        have hu : (if mal (h 170) n0 L0 i < mal (h 170) n0 L0 w then some i else some w) = some u := hu
        by_cases c3 : mal (h 170) n0 L0 i < mal (h 170) n0 L0 w
        · rw [if_pos c3] at hu; cases hu; exact ci
        · rw [if_neg c3] at hu; exact hb u hu
    · rw [if_neg c] at hu
      exact hb u hu
theorem m_cheapest {d T R A n0 n1 s : Nat} {L0 L1 : Nat → Ln} {h g : pm_Hp} (hd : 5 ≤ d) (S : St T R A n0 n1 L0 L1 h) (hg : eqi SCR h g) (hr : ∀ t, t < T → g 184 t = mal (h 170) n0 L0 t) (hs : s < 2 ^ 31) : pm_ev d 279 [.ref 169, .int (nI s)] g = some (o2 (itr (chp h n0 L0 s) 0 T none), g) := by
  obtain ⟨d, rfl, -⟩ := dpos hd
  have hT := S.1.1
  have S' := S.scr hg
  have e170 : g 170 = h 170 := hg 170 (by decide)
  rw [e_X10_cheapest]
  have key := itr_lp (fun i (b : Option Nat) => pm_rn d kX10_cheapest 4 [.ref 169, .int (nI s), .int (o2 b), .int (nI i)] [] g) (chp h n0 L0 s) T (fun _ b => ∀ u, b = some u → u < T) (fun i b hi hb => ⟨?_, bst_lt hi hb⟩) T 0 none (by omega) (fun u hu => by cases hu)
  · refine key.1.trans ?_
    rw [b_X10_cheapest_4, S'.1.2.2.1, if_neg (nI_nlt (by omega) (by omega))]
  · show pm_rn d kX10_cheapest 4 [.ref 169, .int (nI s), .int (o2 b), .int (nI i)] [] g = pm_rn d kX10_cheapest 4 [.ref 169, .int (nI s), .int (o2 _), .int (nI (i + 1))] [] g
    rw [b_X10_cheapest_4, S'.1.2.2.1, if_pos (nI_lt hi (by omega)), shr_bit hs (by omega), m_of0 (by omega) g (nI i) (nI 3) i 3 rfl rfl (by omega) (by omega), pm_bd_s, m_isOut (by omega) S'.1 hi, pm_bd_s, b2_if0, pm_at_c (by omega) (by omega), hr i hi, nI_1, wq_eq e170]
    show _ = pm_rn d kX10_cheapest 4 [.ref 169, .int (nI s), .int (o2 (bst _ _ i b)), .int (nI (i + 1))] [] g
    unfold bst
    have ea : aw g i ↔ aw h i := by rw [aw_eq e170]
    by_cases c2 : s.testBit i = true
    · rw [if_pos c2, if_neg (by decide), if_neg (by simp [c2])]
    · rw [if_neg c2, if_pos rfl]
      by_cases c3 : wq h i 3 ≤ 0
      · rw [if_pos c3, if_neg (by simp only [Bool.and_eq_true, decide_eq_true_eq]; exact fun q => q.1.1 c3)]
      · rw [if_neg c3]
        by_cases c4 : aw h i
        · rw [if_pos (ea.mpr c4), if_neg (by simp only [Bool.and_eq_true, decide_eq_true_eq]; exact fun q => q.1.2 c4)]
        · have yc : (decide (mb h i) && !s.testBit i) = true := by rw [decide_eq_true (p := mb h i) ⟨c3, c4⟩, Bool.eq_false_iff.mpr c2]; rfl
          rw [if_neg (fun q => c4 (ea.mp q)), if_pos yc]
          cases b with
          | none => rw [if_pos (show o2 none = -1 from rfl)]; rfl
          | some w =>
            have hw := hb w rfl
            rw [if_neg (show ¬ o2 (some w) = -1 by show ¬ nI w = -1; rw [nI_m1 (by omega)]; exact id)]
            show pm_at (nI w) 16 _ = pm_rn d kX10_cheapest 4 [.ref 169, .int (nI s), .int (o2 (if mal (h 170) n0 L0 i < mal (h 170) n0 L0 w then some i else some w)), .int (nI (i + 1))] [] g
            rw [pm_at_c (by omega) (by omega), hr w hw]
            by_cases c5 : mal (h 170) n0 L0 i < mal (h 170) n0 L0 w
            · rw [if_pos c5, if_pos c5]; rfl
            · rw [if_neg c5, if_neg c5]
theorem chp_ok {h : pm_Hp} {n0 s T : Nat} {L0 : Nat → Ln} {t : Nat} : ∀ (n : Nat), n ≤ T → itr (chp h n0 L0 s) 0 n none = some t → t < T ∧ mb h t ∧ s.testBit t = false := by
  intro n
  induction n generalizing t with
  | zero => intro _ q; cases q
  | succ n ih =>
    intro hn q
    rw [itr_add _ n 1 0 none, Nat.zero_add] at q
    have q : bst (fun t => decide (mb h t) && !s.testBit t) (mal (h 170) n0 L0) n (itr (chp h n0 L0 s) 0 n none) = some t := q
    unfold bst at q
    by_cases c : (decide (mb h n) && !s.testBit n) = true
    · have cn : n < T ∧ mb h n ∧ s.testBit n = false := by
        simp only [Bool.and_eq_true, decide_eq_true_eq, Bool.not_eq_true'] at c
        exact ⟨by omega, c.1, c.2⟩
      rw [if_pos c] at q
      cases e : itr (chp h n0 L0 s) 0 n none with
      | none => rw [e] at q; cases q; exact cn
      | some w =>
        rw [e] at q
        have q : (if mal (h 170) n0 L0 n < mal (h 170) n0 L0 w then some n else some w) = some t := q
        by_cases c3 : mal (h 170) n0 L0 n < mal (h 170) n0 L0 w
        · rw [if_pos c3] at q; cases q; exact cn
        · rw [if_neg c3] at q; cases q; exact ih (by omega) e
    · rw [if_neg c] at q
      exact ih (by omega) q
