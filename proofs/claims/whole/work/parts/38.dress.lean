theorem nI_self (v : Int32) : v = nI v.toBitVec.toNat := by
  apply Int32.toBitVec_inj.mp
  rw [nI_bv, BitVec.ofNat_toNat]
  simp
theorem nI_ne0' {x : Nat} (h0 : 0 < x) (h : x < 2 ^ 32) : ¬ nI x = 0 := fun e => by
  have := congrArg (fun z : Int32 => z.toBitVec.toNat) e
  rw [pk_tn h] at this
  have h2 : (0 : Int32).toBitVec.toNat = 0 := by decide
  omega
theorem nI_big {u : Nat} (h1 : 2 ^ 31 ≤ u) (h2 : u < 2 ^ 32) : nI u < 0 := by
  rw [Int32.lt_iff_toInt_lt]
  have : (nI u).toInt = (BitVec.ofNat 32 u).toInt := rfl
  rw [this, BitVec.toInt_eq_toNat_cond, BitVec.toNat_ofNat, Nat.mod_eq_of_lt h2, if_neg (by omega)]
  have : (0 : Int32).toInt = 0 := by decide
  omega
theorem set_cases (v : Int32) {T : Nat} (hT : T ≤ 16) : (∃ s, s < 2 ^ T ∧ v = nI s) ∨ (¬ pm_ushr v (nI T) = 0 ∧ ¬ (¬ v < 0 ∧ v ≤ nI (2 ^ T) - 1)) := by
  have e := nI_self v
  have hu : v.toBitVec.toNat < 2 ^ 32 := v.toBitVec.isLt
  generalize v.toBitVec.toNat = u at e hu
  subst e
  have hp : 2 ^ T ≤ 2 ^ 16 := Nat.pow_le_pow_right (by omega) hT
  by_cases h : u < 2 ^ T
  · exact Or.inl ⟨u, h, rfl⟩
  · refine Or.inr ⟨?_, fun q => ?_⟩
    · rw [ushr_n hu (by omega)]
      exact nI_ne0' (Nat.div_pos (by omega) (Nat.two_pow_pos T)) (div_lt hu)
    · by_cases g : u < 2 ^ 31
      · rw [le_prd _ (by omega)] at q
        exact h ((nI_ltI g (by omega)).mp q.2)
      · exact q.1 (nI_big (by omega) hu)
/-- is there one of n that has q -/
def exb (q : Nat → Bool) : Nat → Bool
  | 0 => false
  | n + 1 => exb q n || q n
theorem exb_cg {q q' : Nat → Bool} : ∀ {n : Nat}, (∀ i, i < n → q i = q' i) → exb q n = exb q' n := by
  intro n
  induction n with
  | zero => intro _; rfl
  | succ n ih =>
    intro h
    show (exb q n || q n) = (exb q' n || q' n)
    rw [ih (fun i hi => h i (by omega)), h n (by omega)]
theorem c_dresses {d T R A s : Nat} {h : pm_Hp} (hd : 7 ≤ d) (P : Pl T R h) (Q : AC A h) (W : ∀ t, t < T → WT h t) (hs : s < 2 ^ T) : pm_ev d 142 [.ref 0, .int (nI s)] h = some (nI (sof (fun a => exb (fun t => s.testBit t && decide (clo h t a)) T) A), h) := by
  obtain ⟨d, rfl, -⟩ := dpos hd
  have hT := P.1
  have hA := Q.1
  have hp : 2 ^ T ≤ 2 ^ 16 := Nat.pow_le_pow_right (by omega) hT
  rw [e_X9_dresses, P.2.2.2.1, ushr_n (by omega) (by omega), Nat.div_eq_of_lt hs, if_pos (show nI 0 = 0 from rfl)]
  have key := itr_lp (fun i (x : Int32) => pm_rn d kX9_dresses 18 [.ref 0, .int (nI s), .int x, .int (nI i)] [] h) (fun t x => if s.testBit t = true then x ||| drb h A t else x) T (fun _ _ => True) (fun i x hi _ => ⟨?_, trivial⟩) T 0 0 (by omega) trivial
  · refine key.1.trans ?_
    rw [b_X9_dresses_18, P.2.2.2.1, if_neg (nI_nlt (by omega) (by omega))]
    congr 2
    clear key
    have : ∀ n, itr (fun t x => if s.testBit t = true then x ||| drb h A t else x) 0 n 0 = nI (sof (fun a => exb (fun t => s.testBit t && decide (clo h t a)) n) A) := by
      intro n
      induction n with
      | zero =>
        show (0 : Int32) = _
        rw [show sof (fun a => exb (fun t => s.testBit t && decide (clo h t a)) 0) A = sof (fun _ => false) A from rfl]
        have : sof (fun _ => false) A = 0 := Nat.eq_of_testBit_eq (fun i => by rw [sof_bit]; simp)
        rw [this]; rfl
      | succ n ih =>
        rw [itr_add _ n 1 0 0, ih, Nat.zero_add]
        show (if s.testBit n = true then nI _ ||| drb h A n else nI _) = _
        by_cases g : s.testBit n = true
        · rw [if_pos g, drb_eq h n (by omega), nI_or, sof_or]
          congr 1
          apply sof_cg
          intro a _
          show _ = (exb _ n || (s.testBit n && decide (clo h n a)))
          rw [g, Bool.true_and]
        · rw [if_neg g]
          congr 1
          apply sof_cg
          intro a _
          show _ = (exb _ n || (s.testBit n && decide (clo h n a)))
          simp [g]
    exact this T
  · show pm_rn d kX9_dresses 18 [.ref 0, .int (nI s), .int x, .int (nI i)] [] h = pm_rn d kX9_dresses 18 [.ref 0, .int (nI s), .int _, .int (nI (i + 1))] [] h
    rw [b_X9_dresses_18, P.2.2.2.1, if_pos (nI_lt hi (by omega)), c_has (by omega) h (by omega) (by omega), pm_bd_s, b2_if0, c_dressedBy (by omega) P Q (W i hi) hi, pm_bd_s, nI_1]
    by_cases g : s.testBit i = true
    · rw [if_pos g, if_pos g]
    · rw [if_neg g, if_neg g]
theorem m_dresses {d T R A s : Nat} {h : pm_Hp} (hd : 6 ≤ d) (P : Pl T R h) (Q : AC A h) (W : ∀ t, t < T → WT h t) (hs : s < 2 ^ T) : pm_ev d 269 [.ref 169, .int (nI s)] h = some (nI (sof (fun a => exb (fun t => s.testBit t && decide (clo h t a)) T) A), h) := by
  obtain ⟨d, rfl, -⟩ := dpos hd
  have hT := P.1
  have hA := Q.1
  have hp : 2 ^ T ≤ 2 ^ 16 := Nat.pow_le_pow_right (by omega) hT
  rw [e_X10_dresses, m_isIn (by omega), pm_bd_s, P.2.2.1, shl1 T (by omega), b2_t ⟨nI_pos (by omega), by rw [le_prd _ (by omega)]; exact nI_lt hs (by omega)⟩, if_neg (by decide)]
  have inner : ∀ a, a < A → ∀ (n i x : Nat), i + n = T → pm_rn d kX10_dresses 41 [.ref 169, .int (nI s), .int (nI (if exb (fun t => s.testBit t && decide (clo h t a)) i = true then x ||| 2 ^ a else x)), .int (nI a), .int (nI i)] [] h = pm_rn d kX10_dresses 26 [.ref 169, .int (nI s), .int (nI (if exb (fun t => s.testBit t && decide (clo h t a)) T = true then x ||| 2 ^ a else x)), .int (nI (a + 1)), .int (nI T)] [] h := by
    intro a ha n
    induction n with
    | zero =>
      intro i x hi
      have hi : i = T := by omega
      subst hi
      rw [b_X10_dresses_41, P.2.2.1, if_neg (nI_nlt (by omega) (by omega)), nI_1]
    | succ n ih =>
      intro i x hi
      have hi' : i < T := by omega
      rw [← ih (i + 1) x (by omega), b_X10_dresses_41, P.2.2.1, if_pos (nI_lt hi' (by omega)), shr_bit (by omega) (by omega), m_isTrunk_y (by omega) P hi', pm_bd_s, b2_if0, m_isOut (by omega) P hi', pm_bd_s, b2_if0, m_fitsTo (by omega) Q (W i hi') (by omega) ha, pm_bd_s, nI_1, shl1 a (by omega), nI_or]
      have ex : exb (fun t => s.testBit t && decide (clo h t a)) (i + 1) = (exb (fun t => s.testBit t && decide (clo h t a)) i || (s.testBit i && decide (clo h i a))) := rfl
      have oo : ∀ y : Nat, (y ||| 2 ^ a) ||| 2 ^ a = y ||| 2 ^ a := fun y => by rw [Nat.or_assoc, Nat.or_self]
      rw [ex]
      by_cases g : s.testBit i = true
      · rw [if_pos g, if_pos rfl]
        by_cases c1 : wq h i 0 = nI 5
        · rw [if_pos c1, show decide (clo h i a) = false from decide_eq_false (fun q => q.1 c1), Bool.and_false, Bool.or_false]
        · rw [if_neg c1]
          by_cases c2 : aw h i
          · rw [if_pos c2, show decide (clo h i a) = false from decide_eq_false (fun q => q.2.1 c2), Bool.and_false, Bool.or_false]
          · rw [if_neg c2]
            by_cases c3 : fit (h 170) i a = 1
            · rw [if_pos c3, show decide (clo h i a) = true from decide_eq_true ⟨c1, c2, c3⟩, g, Bool.and_true, Bool.or_true, if_pos rfl]
              by_cases c4 : exb (fun t => s.testBit t && decide (clo h t a)) i = true
              · rw [if_pos c4, oo]
              · rw [if_neg c4]
            · rw [if_neg c3, show decide (clo h i a) = false from decide_eq_false (fun q => c3 q.2.2), Bool.and_false, Bool.or_false]
      · rw [if_neg g, if_neg (by decide)]
        simp [g]
  have key := itr_lp (fun i (x : Nat) => pm_rn d kX10_dresses 26 [.ref 169, .int (nI s), .int (nI x), .int (nI i), if i = 0 then .null else .int (nI T)] [] h) (fun a x => if exb (fun t => s.testBit t && decide (clo h t a)) T = true then x ||| 2 ^ a else x) A (fun _ _ => True) (fun i x hi _ => ⟨?_, trivial⟩) A 0 0 (by omega) trivial
  · refine key.1.trans ?_
    rw [b_X10_dresses_26, Q.2.1, if_neg (nI_nlt (by omega) (by omega))]
    congr 3
    clear key
    have : ∀ n, itr (fun a x => if exb (fun t => s.testBit t && decide (clo h t a)) T = true then x ||| 2 ^ a else x) 0 n 0 = sof (fun a => exb (fun t => s.testBit t && decide (clo h t a)) T) n := by
      intro n
      induction n with
      | zero => rfl
      | succ n ih => rw [itr_add _ n 1 0 0, ih, Nat.zero_add]; rfl
    exact this A
  · show pm_rn d kX10_dresses 26 [.ref 169, .int (nI s), .int (nI x), .int (nI i), _] [] h = pm_rn d kX10_dresses 26 [.ref 169, .int (nI s), .int (nI _), .int (nI (i + 1)), .int (nI T)] [] h
    rw [b_X10_dresses_26, Q.2.1, if_pos (nI_lt hi (by omega))]
    exact inner i hi T 0 x (by omega)
