theorem nw_i : ∀ a, a < 64 → ∀ u, u < 64 → ((nI a &&& (nI u ^^^ (-1)) = 0) ↔ u ||| a = u) := by decide +kernel
theorem e_bitCount {d a : Nat} {h : pm_Hp} (hd : 1 ≤ d) (ha : a < 64) : pm_ev d 293 [.int (nI a)] h = some (nI (pcn a 16), h) := by
  obtain ⟨d, rfl, -⟩ := dpos hd
  rw [e_J6_bitCount_0f7a4]
  congr 2
  revert a
  decide +kernel
def TB (D : Nat → Nat) (T : Nat) (g : pm_Hp) (b : Nat) : Prop := g 167 3 = nI (pcn (un D b T) 16) ∧ g 167 2 = nI (pcn b 16) ∧ g 167 4 = nI b
def CX (D : Nat → Nat) (T : Nat) (g : pm_Hp) : Prop := g 167 1 = nI T ∧ ∀ t, t < T → g 168 t = nI (D t)
theorem ltn_ite {α : Type} {a b : Nat} {x y : α} (ha : a < 2 ^ 31) (hb : b < 2 ^ 31) : (if nI a < nI b then x else y) = if a < b then x else y := by
  by_cases g : a < b
  · rw [if_pos g, if_pos (nI_lt g hb)]
  · rw [if_neg g, if_neg (fun q => g ((nI_ltI ha hb).mp q))]
theorem len_ite {α : Type} {a b : Nat} {x y : α} (ha : a < 2 ^ 31) (hb : b < 2 ^ 31) : (if nI a ≤ nI b then x else y) = if a ≤ b then x else y := by
  by_cases g : a ≤ b
  · rw [if_pos g, if_pos (nI_le g hb)]
  · rw [if_neg g, if_neg (fun q => g ((nI_leI ha hb).mp q))]
theorem c_consider {d T s b : Nat} {D : Nat → Nat} {g : pm_Hp} (hd : 1 ≤ d) (hs : s < 2 ^ 16) (hb : b < 2 ^ 16) (C : CX D T g) (B : TB D T g b) : ∃ g' b', pm_ev d 104 [.ref 167, .int (nI (pcn s 16)), .int (nI s), .int (nI (pcn (un D s T) 16))] g = some (0, g') ∧ eqi [167] g g' ∧ CX D T g' ∧ TB D T g' b' ∧ (b' = b ∨ b' = s) ∧ ky D T b ≤ ky D T b' ∧ ky D T s ≤ ky D T b' := by
  obtain ⟨d, rfl, -⟩ := dpos hd
  obtain ⟨B1, B2, B3⟩ := B
  have l1 := pcn_le (un D s T) 16
  have l2 := pcn_le (un D b T) 16
  have l3 := pcn_le s 16
  have l4 := pcn_le b 16
  rw [e_X8_consider, B1, B2, B3, nI_ite (by omega) (by omega), nI_ite (by omega) (by omega), ltn_ite (by omega) (by omega), ltn_ite (by omega) (by omega), len_ite (by omega) (by omega)]
  have same : (ky D T s ≤ ky D T b) → ∃ g' b', some ((0 : Int32), g) = some (0, g') ∧ eqi [167] g g' ∧ CX D T g' ∧ TB D T g' b' ∧ (b' = b ∨ b' = s) ∧ ky D T b ≤ ky D T b' ∧ ky D T s ≤ ky D T b' := fun k => ⟨g, b, rfl, eqi.rf, C, ⟨B1, B2, B3⟩, Or.inl rfl, Nat.le_refl _, k⟩
  have take : (ky D T b ≤ ky D T s) → ∃ g' b', some ((0 : Int32), (pm_up (pm_up (pm_up g 167 3 (nI (pcn (un D s T) 16))) 167 2 (nI (pcn s 16))) 167 4 (nI s))) = some (0, g') ∧ eqi [167] g g' ∧ CX D T g' ∧ TB D T g' b' ∧ (b' = b ∨ b' = s) ∧ ky D T b ≤ ky D T b' ∧ ky D T s ≤ ky D T b' := fun k => by
    refine ⟨_, s, rfl, ((eqi.rf.up (by decide)).up (by decide)).up (by decide), ⟨?_, fun t ht => ?_⟩, ⟨?_, ?_, ?_⟩, Or.inr rfl, k, Nat.le_refl _⟩
    · rw [pm_up_j (by decide), pm_up_j (by decide), pm_up_j (by decide)]; exact C.1
    · rw [pm_up_k (by decide), pm_up_k (by decide), pm_up_k (by decide)]; exact C.2 t ht
    · rw [pm_up_j (by decide), pm_up_j (by decide), pm_up_s]
    · rw [pm_up_j (by decide), pm_up_s]
    · rw [pm_up_s]
  unfold ky at same take ⊢
  by_cases c1 : pcn (un D s T) 16 = pcn (un D b T) 16
  · rw [if_pos c1]
    by_cases c2 : pcn s 16 = pcn b 16
    · rw [if_pos c2]
      by_cases c3 : s < b
      · rw [if_pos c3]; exact take (by omega)
      · rw [if_neg c3]; exact same (by omega)
    · rw [if_neg c2]
      by_cases c3 : pcn s 16 < pcn b 16
      · rw [if_pos c3]; exact take (by omega)
      · rw [if_neg c3]; exact same (by omega)
  · rw [if_neg c1]
    by_cases c2 : pcn (un D s T) 16 ≤ pcn (un D b T) 16
    · rw [if_pos c2]; exact same (by omega)
    · rw [if_neg c2]; exact take (by omega)
theorem c_extend {T : Nat} {D : Nat → Nat} {ok : Nat → Prop} (hT : T ≤ 16) (hD : ∀ t, D t < 64) (hok : ∀ t, t < T → D t ≠ 0 → ok t) : ∀ (n d f s b : Nat) (g : pm_Hp), n + 3 ≤ d → pcn s 16 + n = 4 → s < 2 ^ f → f ≤ T → Gd T ok s → Gd T ok b → CX D T g → TB D T g b → ∃ g' b', pm_ev d 103 [.ref 167, .int (nI f), .int (nI (pcn s 16)), .int (nI s), .int (nI (un D s T))] g = some (0, g') ∧ eqi [167] g g' ∧ CX D T g' ∧ TB D T g' b' ∧ Gd T ok b' ∧ ky D T b ≤ ky D T b' ∧ ∀ x, Cs T D n f s x → ky D T x ≤ ky D T b' := by
  have hp : 2 ^ T ≤ 2 ^ 16 := Nat.pow_le_pow_right (by omega) hT
  intro n
  induction n with
  | zero =>
    intro d f s b g hd hn hf hfT Gs Gb C B
    obtain ⟨d, rfl, -⟩ := dpos (show 2 + 1 ≤ d by omega)
    have g1 := Gs.1
    have g2 := Gb.1
    obtain ⟨g', b', e1, e2, e3, e4, e5, e6, e7⟩ := c_consider (d := d) (s := s) (b := b) (by omega) (by omega) (by omega) C B
    refine ⟨g', b', ?_, e2, e3, e4, ?_, e6, fun x hx => ?_⟩
    · rw [e_X8_extend, e_bitCount (by omega) (un_lt hD s T), pm_bd_s, e1, pm_bd_s, if_neg (nI_nlt (by omega) (by omega))]
    · rcases e5 with rfl | rfl
      · exact Gb
      · exact Gs
    · have : x = s := hx
      rw [this]; exact e7
  | succ n ih =>
    intro d f s b g hd hn hf hfT Gs Gb C B
    obtain ⟨d, rfl, -⟩ := dpos (show n + 1 + 2 + 1 ≤ d by omega)
    have g1 := Gs.1
    have g2 := Gb.1
    obtain ⟨g0, b0, e1, e2, e3, e4, e5, e6, e7⟩ := c_consider (d := d) (s := s) (b := b) (by omega) (by omega) (by omega) C B
    have Gb0 : Gd T ok b0 := by
      rcases e5 with rfl | rfl
      · exact Gb
      · exact Gs
    have loop : ∀ (m i b : Nat) (g : pm_Hp), i + m = T → f ≤ i → Gd T ok b → CX D T g → TB D T g b → ∃ g' b', pm_rn d kX8_extend 20 [.ref 167, .int (nI f), .int (nI (pcn s 16)), .int (nI s), .int (nI (un D s T)), .int (nI i)] [] g = some (0, g') ∧ eqi [167] g g' ∧ CX D T g' ∧ TB D T g' b' ∧ Gd T ok b' ∧ ky D T b ≤ ky D T b' ∧ ∀ t x, i ≤ t → t < T → ¬ un D s T ||| D t = un D s T → Cs T D n (t + 1) (s ||| 2 ^ t) x → ky D T x ≤ ky D T b' := by
      intro m
      induction m with
      | zero =>
        intro i b g hi hfi Gb C B
        refine ⟨g, b, ?_, eqi.rf, C, B, Gb, Nat.le_refl _, fun t x h1 h2 => by omega⟩
        rw [b_X8_extend_20, C.1, if_neg (nI_nlt (by omega) (by omega))]
      | succ m ihm =>
        intro i b g hi hfi Gb C B
        have hi' : i < T := by omega
        have si : s < 2 ^ i := Nat.lt_of_lt_of_le hf (Nat.pow_le_pow_right (by omega) hfi)
        have bi : s.testBit i = false := Nat.testBit_lt_two_pow si
        rw [b_X8_extend_20, C.1, if_pos (nI_lt hi' (by omega)), pm_at_c (by omega) (by omega), pm_at_c (by omega) (by omega), C.2 i hi', nI_1, nI_1, shl1 i (by omega), nI_or, nI_or]
        have nw := nw_i (D i) (hD i) (un D s T) (un_lt hD s T)
        by_cases c : un D s T ||| D i = un D s T
        · rw [if_pos (nw.mpr c)]
          obtain ⟨g', b', f1, f2, f3, f4, f5, f6, f7⟩ := ihm (i + 1) b g (by omega) (by omega) Gb C B
          refine ⟨g', b', f1, f2, f3, f4, f5, f6, fun t x h1 h2 h3 h4 => ?_⟩
          by_cases e : t = i
          · subst e; exact absurd c h3
          · exact f7 t x (by omega) h2 h3 h4
        · rw [if_neg (fun q => c (nw.mp q))]
          have Gs2 : Gd T ok (s ||| 2 ^ i) := ⟨add_lt Gs.1 hi', by rw [pcn_add bi, if_pos (show i < 16 by omega)]; omega, fun t ht => by
            rw [bit_add, Bool.or_eq_true, decide_eq_true_eq] at ht
            rcases ht with ht | rfl
            · exact Gs.2.2 t ht
            · exact hok i hi' (fun z => c (by rw [z, Nat.or_zero]))⟩
          have pc2 : pcn (s ||| 2 ^ i) 16 = pcn s 16 + 1 := by rw [pcn_add bi, if_pos (show i < 16 by omega)]
          have un2 : un D (s ||| 2 ^ i) T = un D s T ||| D i := by rw [un_add, if_pos hi']
          obtain ⟨g1, b1, k1, k2, k3, k4, k5, k6, k7⟩ := ih d (i + 1) (s ||| 2 ^ i) b g (by omega) (by omega) (Nat.or_lt_two_pow (Nat.lt_of_lt_of_le si (Nat.pow_le_pow_right (by omega) (by omega))) (Nat.pow_lt_pow_right (by omega) (by omega))) (by omega) Gs2 Gb C B
          rw [pc2, un2] at k1
          rw [k1, pm_bd_s]
          obtain ⟨g', b', f1, f2, f3, f4, f5, f6, f7⟩ := ihm (i + 1) b1 g1 (by omega) (by omega) k5 k3 k4
          refine ⟨g', b', f1, k2.tr f2, f3, f4, f5, Nat.le_trans k6 f6, fun t x h1 h2 h3 h4 => ?_⟩
          by_cases e : t = i
          · subst e; exact Nat.le_trans (k7 x h4) f6
          · exact f7 t x (by omega) h2 h3 h4
    obtain ⟨g', b', f1, f2, f3, f4, f5, f6, f7⟩ := loop (T - f) f b0 g0 (by omega) (Nat.le_refl _) Gb0 e3 e4
    refine ⟨g', b', ?_, e2.tr f2, f3, f4, f5, Nat.le_trans e6 f6, fun x hx => ?_⟩
    · rw [e_X8_extend, e_bitCount (by omega) (un_lt hD s T), pm_bd_s, e1, pm_bd_s, if_pos (nI_lt (by omega) (by omega))]
      exact f1
    · rcases hx with rfl | ⟨t, h1, h2, h3, h4⟩
      · exact Nat.le_trans e7 f6
      · exact f7 t x h1 h2 h3 h4
