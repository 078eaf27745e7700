def ern (wr : Nat → Int32) (s : Nat) (m : Int32 × Nat) : Int32 × Nat := if wr s ≤ m.1 then m else (wr s, s)
theorem wor_0 (cl : Nat → Nat → Bool) (pay : Nat → Int32) : ∀ (n i : Nat) (a : Int32), wor cl pay 0 i n a = a := by
  intro n
  induction n with
  | zero => intro i a; rfl
  | succ n ih =>
    intro i a
    unfold wor
    rw [Nat.zero_testBit, if_neg (by decide)]
    exact ih (i + 1) a
theorem c_findE {d q : Nat} {h : pm_Hp} (hd : 4 ≤ d) (S : WS q h) : ∃ h', pm_ev d 1 [.ref 165, .ref 1] h = some (0, h') ∧ eqi [165, 166] h h' ∧ h' 165 1 = (itr (ern (wrt (h 170) q)) 1 (2 ^ q - 1) (0, 0)).1 ∧ h' 165 2 = nI (itr (ern (wrt (h 170) q)) 1 (2 ^ q - 1) (0, 0)).2 := by
  obtain ⟨d, rfl, -⟩ := dpos hd
  have hq := S.1
  have l2 : 2 ^ q ≤ 2 ^ 10 := Nat.pow_le_pow_right (by omega) hq
  have l1 : 0 < 2 ^ q := Nat.two_pow_pos q
  rw [e_X0_find]
  have inner : ∀ i, i < q → ∀ (n j : Nat) (g : pm_Hp), j + n = i → eqi [165, 166] h g → g 166 i = nI (sof (clb (h 170) i) j) → ∃ g', pm_rn d kX0_find 19 [.ref 165, .ref 1, .int (nI i), .int (nI j)] [] g = pm_rn d kX0_find 2 [.ref 165, .ref 1, .int (nI (i + 1)), .int (nI i)] [] g' ∧ eqi [165, 166] h g' ∧ g' 166 i = nI (sof (clb (h 170) i) i) ∧ ∀ k, k ≠ i → g' 166 k = g 166 k := by
    intro i hi n
    induction n with
    | zero =>
      intro j g hj hg hv
      have hj : j = i := by omega
      subst hj
      refine ⟨g, ?_, hg, hv, fun _ _ => rfl⟩
      rw [b_X0_find_19, if_neg (nI_nlt (by omega) (by omega)), nI_1]
    | succ n ih =>
      intro j g hj hg hv
      have Sg : WS q g := S.eq (hg 170 (by decide)) (hg 1 (by decide)) (hg 17 (by decide))
      have e170 : g 170 = h 170 := hg 170 (by decide)
      rw [b_X0_find_19, if_pos (nI_lt (by omega) (by omega)), c_clash (by omega) Sg hi (by omega), pm_bd_s, b2_if0, pm_at_c (by omega) (by omega), pm_at_c (by omega) (by omega), hv, shl1 j (by omega), nI_or, nI_1]
      have sf : sof (clb (h 170) i) (j + 1) = if clb (h 170) i j = true then sof (clb (h 170) i) j ||| 2 ^ j else sof (clb (h 170) i) j := rfl
      have ec : clh (g 170) i j ↔ clh (h 170) i j := by rw [e170]
      by_cases c : clh (h 170) i j
      · rw [if_pos (ec.mpr c)]
        obtain ⟨g', f1, f2, f3, f4⟩ := ih (j + 1) (pm_up g 166 i (nI (sof (clb (h 170) i) j ||| 2 ^ j))) (by omega) (hg.up (by decide)) (by rw [pm_up_s, sf, if_pos (decide_eq_true c)])
        exact ⟨g', f1, f2, f3, fun k hk => (f4 k hk).trans (pm_up_j hk)⟩
      · rw [if_neg (fun z => c (ec.mp z))]
        exact ih (j + 1) g (by omega) hg (by rw [hv, sf, if_neg (by simp only [decide_eq_true_eq]; exact c)])
  have last : ∀ (n i : Nat) (m : Int32 × Nat) (u : Value) (g : pm_Hp), i + n = 2 ^ q → eqi [165, 166] h g → (∀ k, k < q → g 166 k = nI (sof (clb (h 170) k) k)) → g 165 1 = m.1 → g 165 2 = nI m.2 → ∃ h', pm_rn d kX0_find 76 [.ref 165, .ref 1, .int (nI i), u] [] g = some (0, h') ∧ eqi [165, 166] h h' ∧ h' 165 1 = (itr (ern (wrt (h 170) q)) i n m).1 ∧ h' 165 2 = nI (itr (ern (wrt (h 170) q)) i n m).2 := by
    intro n
    induction n with
    | zero =>
      intro i m u g hi hg hr h1 h2
      refine ⟨g, ?_, hg, h1, h2⟩
      rw [b_X0_find_76, hg 1 (by decide), S.2.1, shl1 q (by omega), if_neg (nI_nlt (by omega) (by omega))]
    | succ n ih =>
      intro i m u g hi hg hr h1 h2
      have Sg : WS q g := S.eq (hg 170 (by decide)) (hg 1 (by decide)) (hg 17 (by decide))
      have e170 : g 170 = h 170 := hg 170 (by decide)
      rw [b_X0_find_76, hg 1 (by decide), S.2.1, shl1 q (by omega), if_pos (nI_lt (by omega) (by omega)), c_worth (by omega) Sg (by rw [e170]; exact hr) (by omega), pm_bd_s, h1, nI_1, e170]
      show ∃ h' : pm_Hp, _ ∧ _ ∧ h' 165 1 = (itr (ern (wrt (h 170) q)) (i + 1) n (ern (wrt (h 170) q) i m)).1 ∧ h' 165 2 = nI (itr (ern (wrt (h 170) q)) (i + 1) n (ern (wrt (h 170) q) i m)).2
      have er : ern (wrt (h 170) q) i m = if wrt (h 170) q i ≤ m.1 then m else (wrt (h 170) q i, i) := rfl
      rw [er]
      by_cases c : wrt (h 170) q i ≤ m.1
      · rw [if_pos c, if_pos c]
        exact ih (i + 1) m _ g (by omega) hg hr h1 h2
      · rw [if_neg c, if_neg c]
        exact ih (i + 1) (wrt (h 170) q i, i) _ _ (by omega) ((hg.up (by decide)).up (by decide)) (fun k hk => by rw [pm_up_k (by decide), pm_up_k (by decide)]; exact hr k hk) (by rw [pm_up_j (by decide), pm_up_s]) (by rw [pm_up_s])
  have outer : ∀ (n i : Nat) (u : Value) (g : pm_Hp), i + n = q → eqi [165, 166] h g → (∀ k, k < i → g 166 k = nI (sof (clb (h 170) k) k)) → ∃ h', pm_rn d kX0_find 2 [.ref 165, .ref 1, .int (nI i), u] [] g = some (0, h') ∧ eqi [165, 166] h h' ∧ h' 165 1 = (itr (ern (wrt (h 170) q)) 1 (2 ^ q - 1) (0, 0)).1 ∧ h' 165 2 = nI (itr (ern (wrt (h 170) q)) 1 (2 ^ q - 1) (0, 0)).2 := by
    intro n
    induction n with
    | zero =>
      intro i u g hi hg hr
      have hi : i = q := by omega
      subst hi
      rw [b_X0_find_2, hg 1 (by decide), S.2.1, if_neg (nI_nlt (by omega) (by omega))]
      exact last (2 ^ i - 1) 1 (0, 0) u _ (by omega) ((hg.up (by decide)).up (by decide)) (fun k hk => by rw [pm_up_k (by decide), pm_up_k (by decide)]; exact hr k hk) (by rw [pm_up_j (by decide), pm_up_s]) (by rw [pm_up_s]; rfl)
    | succ n ih =>
      intro i u g hi hg hr
      rw [b_X0_find_2, hg 1 (by decide), S.2.1, if_pos (nI_lt (by omega) (by omega)), pm_at_c (by omega) (by omega)]
      obtain ⟨g', f1, f2, f3, f4⟩ := inner i (by omega) i 0 (pm_up g 166 i 0) (by omega) (hg.up (by decide)) (by rw [pm_up_s]; rfl)
      have f1 : pm_rn d kX0_find 19 [.ref 165, .ref 1, .int (nI i), .int 0] [] (pm_up g 166 i 0) = _ := f1
      rw [f1]
      refine ih (i + 1) _ g' (by omega) f2 (fun k hk => ?_)
      by_cases e : k = i
      · subst e; exact f3
      · rw [f4 k e, pm_up_j e]; exact hr k (by omega)
  exact outer q 0 .null h (by omega) eqi.rf (fun k hk => absurd hk (Nat.not_lt_zero k))
theorem q_earns {d q : Nat} {h : pm_Hp} (hd : 6 ≤ d) (S : WS q h) (x : Int32) : QE d 148 288 [.int x] h := by
  obtain ⟨d, rfl, -⟩ := dpos hd
  have hq := S.1
  have l2 : 2 ^ q ≤ 2 ^ 10 := Nat.pow_le_pow_right (by omega) hq
  have l1 : 0 < 2 ^ q := Nat.two_pow_pos q
  obtain ⟨h1, e1, e2, e3, e4⟩ := c_findE (d := d) (by omega) S
  have Sg : WS q h1 := S.eq (e2 170 (by decide)) (e2 1 (by decide)) (e2 17 (by decide))
  have e170 : h1 170 = h 170 := e2 170 (by decide)
  have key := itr_lp (fun i (m : Int32 × Nat) => pm_rn d kX10_earns 18 [.ref 169, .int x, .int (nI m.2), .int m.1, .int (nI i), if i = 0 then .null else .int (wrt (h 170) q (i - 1))] [] h1) (ern (wrt (h 170) q)) (2 ^ q) (fun _ _ => True) (fun i m hi _ => ⟨?_, trivial⟩) (2 ^ q) 0 (0, 0) (by omega) trivial
  · have same : itr (ern (wrt (h 170) q)) 0 (2 ^ q) (0, 0) = itr (ern (wrt (h 170) q)) 1 (2 ^ q - 1) (0, 0) := by
      rw [show 2 ^ q = 1 + (2 ^ q - 1) by omega, itr_add, show 1 + (2 ^ q - 1) - 1 = 2 ^ q - 1 by omega]
      congr 1
      show ern (wrt (h 170) q) 0 (0, 0) = (0, 0)
      unfold ern
      rw [if_pos]
      show wrt (h 170) q 0 ≤ 0
      rw [show wrt (h 170) q 0 = 0 from wor_0 _ _ q 0 0]
      decide
    have fin : pm_rn d kX10_earns 18 [.ref 169, .int x, .int 0, .int 0, .int 0, .null] [] h1 = if x = 0 then some (h1 165 1, h1) else some (h1 165 2, h1) := by
      refine key.1.trans ?_
      rw [b_X10_earns_18, Sg.2.2.1, shl1 q (by omega), if_neg (nI_nlt (by omega) (by omega)), same, e3, e4]
    clear key
    have isx : (¬ x < 0 ∧ x ≤ 1) ↔ (x = 0 ∨ x = 1) := by
      constructor
      · intro g
        obtain ⟨k, hk, rfl⟩ := kd_ex (n := 1) (by omega) g
        have : k = 0 ∨ k = 1 := by omega
        rcases this with rfl | rfl
        · exact Or.inl rfl
        · exact Or.inr rfl
      · rintro (rfl | rfl) <;> decide
    by_cases x0 : x = 0
    · subst x0
      refine ⟨h1 165 1, h1, h1, ?_, ?_, e2.mono (by decide)⟩
      · rw [e_X9_earns, if_pos rfl, e1, pm_bd_s, if_pos rfl]
      · rw [e_X10_earns, m_isIn (by omega), pm_bd_s, b2_t (by decide), if_neg (by decide), fin, if_pos rfl]
    · by_cases x1 : x = 1
      · subst x1
        refine ⟨h1 165 2, h1, h1, ?_, ?_, e2.mono (by decide)⟩
        · rw [e_X9_earns, if_neg x0, if_pos rfl, e1, pm_bd_s, if_neg x0]
        · rw [e_X10_earns, m_isIn (by omega), pm_bd_s, b2_t (by decide), if_neg (by decide), fin, if_neg x0]
      · refine QE.mk (r := -1) ?_ ?_
        · rw [e_X9_earns, if_neg x0, if_neg x1]
        · rw [e_X10_earns, m_isIn (by omega), pm_bd_s, b2_f (fun z => by rcases isx.mp z with z | z <;> contradiction), if_pos rfl]
  · show pm_rn d kX10_earns 18 [.ref 169, .int x, .int (nI m.2), .int m.1, .int (nI i), _] [] h1 = pm_rn d kX10_earns 18 [.ref 169, .int x, .int (nI (ern (wrt (h 170) q) i m).2), .int (ern (wrt (h 170) q) i m).1, .int (nI (i + 1)), .int (wrt (h 170) q i)] [] h1
    rw [b_X10_earns_18, Sg.2.2.1, shl1 q (by omega), if_pos (nI_lt (by omega) (by omega)), m_paysFor (by omega) Sg (by omega), pm_bd_s, nI_1, e170]
    unfold ern
    by_cases c : wrt (h 170) q i ≤ m.1
    · rw [if_pos c, if_pos c]
    · rw [if_neg c, if_neg c]
