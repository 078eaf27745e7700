/-! BEST -/
abbrev okd (h : pm_Hp) (t k : Nat) : Prop := wq h t 0 = nI k ∨ (wq h t 0 < nI 3 ∧ nI k < wq h t 0)
def bst (c : Nat → Bool) (p : Nat → Int32) (t : Nat) (b : Option Nat) : Option Nat := if c t = true then (match b with
  | none => some t
  | some u => if p t < p u then some t else some u) else b
theorem bst_lt {c : Nat → Bool} {p : Nat → Int32} {t T : Nat} {b : Option Nat} (ht : t < T) (hb : ∀ u, b = some u → u < T) : ∀ u, bst c p t b = some u → u < T := by
  intro u hu
  unfold bst at hu
  by_cases hc : c t = true
  · rw [if_pos hc] at hu
    cases b with
    | none => cases hu; exact ht
    | some w =>
      have hu : (if p t < p w then some t else some w) = some u := hu
      by_cases g : p t < p w
      · rw [if_pos g] at hu; cases hu; exact ht
      · rw [if_neg g] at hu; exact hb u hu
  · rw [if_neg hc] at hu
    exact hb u hu
abbrev prA (w : Nat → Int32) (n0 : Nat) (L0 : Nat → Ln) (a t : Nat) : Int32 := prc w n0 L0 t (too w t (some a))
theorem q_best {d T R A n0 n1 : Nat} {L0 L1 : Nat → Ln} {h : pm_Hp} (hd : 12 ≤ d) (S : St T R A n0 n1 L0 L1 h) (v x : Int32) : QE d 141 268 [.int v, .int x] h := by
  obtain ⟨d, rfl, -⟩ := dpos hd
  have P := S.1
  have Q := S.2.1
  have hT := P.1
  have hA := Q.1
  by_cases hv : isT A v
  · by_cases hx : ¬ x < 0 ∧ x ≤ nI 5
    · obtain ⟨a, ha, rfl⟩ := isT_ex (by omega) hv
      obtain ⟨k, hk, rfl⟩ := kd_ex (by omega) hx
      have ck : ∀ (n i : Nat) (b : Option Nat) (x4 : Int32) (u : Value) (g : pm_Hp), i + n = T → eqi [24, 37] h g → (∀ u, b = some u → u < T ∧ x4 = prA (h 170) n0 L0 a u) → ∃ g', pm_rn d kX9_best 28 [.ref 0, .int (nI a), .int (nI k), .int (o2 b), .int x4, .int (nI i), u] [] g = some (o2 (itr (bst (fun t => decide (okd h t k ∧ clo h t a)) (prA (h 170) n0 L0 a)) i n b), g') ∧ eqi [24, 37] h g' := by
        intro n
        induction n with
        | zero =>
          intro i b x4 u g hi hg hb
          have hi : i = T := by omega
          subst hi
          refine ⟨g, ?_, hg⟩
          rw [b_X9_best_28, hg 1 (by decide), P.2.2.2.1, if_neg (nI_nlt (by omega) (by omega))]
          rfl
        | succ n ih =>
          intro i b x4 u g hi hg hb
          have hi' : i < T := by omega
          have S' := S.scr (hg.mono (by decide) : eqi SCR h g)
          have e170 : g 170 = h 170 := hg 170 (by decide)
          have eo : okd g i k ↔ okd h i k := by show (wq g i 0 = nI k ∨ _) ↔ _; simp only [wq_eq e170]
          have ec : clo g i a ↔ clo h i a := iff_of_eq (clo_eq e170 i a)
          rw [b_X9_best_28, S'.1.2.2.2.1, if_pos (nI_lt hi' (by omega)), c_isOfKind (by omega) S'.1 (S'.2.2.1 i hi') hi' hk, pm_bd_s, b2_if0, c_clothes (by omega) S'.1 S'.2.1 (S'.2.2.1 i hi') hi' ha, pm_bd_s, b2_if0, nI_1]
          show ∃ g', _ = some (o2 (itr _ (i + 1) n (bst _ _ i b)), g') ∧ _
          unfold bst
          by_cases c1 : okd h i k
          · rw [if_pos (eo.mpr c1)]
            by_cases c2 : clo h i a
            · rw [if_pos (ec.mpr c2), if_pos (by simp only [decide_eq_true_eq]; exact ⟨c1, c2⟩)]
              obtain ⟨g1, e1, e2⟩ := c_priceA (d := d) (by omega) S' hi' ha
              rw [e1, pm_bd_s, e170]
              have hg1 := hg.tr e2
              cases b with
              | none =>
                rw [if_pos (show o2 none = -1 from rfl)]
                exact ih (i + 1) (some i) _ _ g1 (by omega) hg1 (fun u hu => by cases hu; exact ⟨hi', rfl⟩)
              | some w =>
                obtain ⟨hw, rfl⟩ := hb w rfl
                rw [if_neg (show ¬ o2 (some w) = -1 by show ¬ nI w = -1; rw [nI_m1 (by omega)]; exact id)]
                show ∃ g', _ = some (o2 (itr _ (i + 1) n (if prA (h 170) n0 L0 a i < prA (h 170) n0 L0 a w then some i else some w)), g') ∧ _
                by_cases c3 : prA (h 170) n0 L0 a i < prA (h 170) n0 L0 a w
                · rw [if_pos c3, if_pos c3]
                  exact ih (i + 1) (some i) _ _ g1 (by omega) hg1 (fun u hu => by cases hu; exact ⟨hi', rfl⟩)
                · rw [if_neg c3, if_neg c3]
                  exact ih (i + 1) (some w) _ _ g1 (by omega) hg1 (fun u hu => by cases hu; exact ⟨hw, rfl⟩)
            · rw [if_neg (fun q => c2 (ec.mp q)), if_neg (by simp only [decide_eq_true_eq]; exact fun q => c2 q.2)]
              exact ih (i + 1) b x4 u g (by omega) hg hb
          · rw [if_neg (fun q => c1 (eo.mp q)), if_neg (by simp only [decide_eq_true_eq]; exact fun q => c1 q.1)]
            exact ih (i + 1) b x4 u g (by omega) hg hb
      have mk : ∀ (n i : Nat) (b : Option Nat) (g : pm_Hp), i + n = T → eqi SCR h g → (∀ u, b = some u → u < T) → ∃ g', pm_rn d kX10_best 24 [.ref 169, .int (nI a), .int (nI k), .int (o2 b), .int (nI i)] [] g = some (o2 (itr (bst (fun t => decide (okd h t k ∧ clo h t a)) (prA (h 170) n0 L0 a)) i n b), g') ∧ eqi SCR h g' := by
        intro n
        induction n with
        | zero =>
          intro i b g hi hg hb
          have hi : i = T := by omega
          subst hi
          refine ⟨g, ?_, hg⟩
          rw [b_X10_best_24, hg 170 (by decide), P.2.2.1, if_neg (nI_nlt (by omega) (by omega))]
          rfl
        | succ n ih =>
          intro i b g hi hg hb
          have hi' : i < T := by omega
          have S' := S.scr hg
          have e170 : g 170 = h 170 := hg 170 (by decide)
          have hb2 := bst_lt (c := fun t => decide (okd h t k ∧ clo h t a)) (p := prA (h 170) n0 L0 a) hi' hb
          have eo : okd g i k ↔ okd h i k := by show (wq g i 0 = nI k ∨ _) ↔ _; simp only [wq_eq e170]
          have e5 : wq g i 0 = nI 5 ↔ wq h i 0 = nI 5 := by rw [wq_eq e170]
          have ea : aw g i ↔ aw h i := by rw [aw_eq e170]
          rw [b_X10_best_24, S'.1.2.2.1, if_pos (nI_lt hi' (by omega)), m_isTrunk_y (by omega) S'.1 hi', pm_bd_s, b2_if0, m_isOfKind (by omega) (S'.2.2.1 i hi') (by omega) hk, pm_bd_s, b2_if0, m_isOut (by omega) S'.1 hi', pm_bd_s, b2_if0, m_fitsTo (by omega) S'.2.1 (S'.2.2.1 i hi') (by omega) ha, pm_bd_s, nI_1, e170]
          show ∃ g', _ = some (o2 (itr _ (i + 1) n (bst _ _ i b)), g') ∧ _
          have no : ¬ (okd h i k ∧ clo h i a) → bst (fun t => decide (okd h t k ∧ clo h t a)) (prA (h 170) n0 L0 a) i b = b := fun hn => by
            unfold bst
            rw [if_neg (by simp only [decide_eq_true_eq]; exact hn)]
          by_cases c0 : wq h i 0 = nI 5
          · rw [if_pos (e5.mpr c0), no (fun q => q.2.1 c0)]
            exact ih (i + 1) b g (by omega) hg hb
          · rw [if_neg (fun q => c0 (e5.mp q))]
            by_cases c1 : okd h i k
            · rw [if_pos (eo.mpr c1)]
              by_cases c2 : aw h i
              · rw [if_pos (ea.mpr c2), no (fun q => q.2.2.1 c2)]
                exact ih (i + 1) b g (by omega) hg hb
              · rw [if_neg (fun q => c2 (ea.mp q))]
                by_cases c3 : fit (h 170) i a = 1
                · rw [if_pos c3]
                  have yes : bst (fun t => decide (okd h t k ∧ clo h t a)) (prA (h 170) n0 L0 a) i b = (match b with
                    | none => some i
                    | some u => if prA (h 170) n0 L0 a i < prA (h 170) n0 L0 a u then some i else some u) := by
                    unfold bst
                    rw [if_pos (by simp only [decide_eq_true_eq]; exact ⟨c1, c0, c2, c3⟩)]
                    cases b <;> rfl
                  rw [yes] at hb2 ⊢
                  cases b with
                  | none =>
                    rw [if_pos (show o2 none = -1 from rfl)]
                    exact ih (i + 1) (some i) g (by omega) hg hb2
                  | some w =>
                    rw [if_neg (show ¬ o2 (some w) = -1 by show ¬ nI w = -1; rw [nI_m1 (by have := hb w rfl; omega)]; exact id)]
                    obtain ⟨g1, e1, e2⟩ := m_priceA (d := d) (by omega) S' hi' ha
                    have hg1 := hg.tr (e2.mono (by decide))
                    obtain ⟨g2, f1, f2⟩ := m_priceA (d := d) (by omega) (S.scr hg1) (hb w rfl) ha
                    have hg2 := hg1.tr (f2.mono (by decide))
                    rw [hg1 170 (by decide)] at f1
                    have f1 : pm_ev d 235 [.ref 169, .int (o2 (some w)), .int (nI a)] g1 = _ := f1
                    rw [e1, pm_bd_s, f1, pm_bd_s, e170]
                    show ∃ g', _ = some (o2 (itr _ (i + 1) n (if prA (h 170) n0 L0 a i < prA (h 170) n0 L0 a w then some i else some w)), g') ∧ _
                    by_cases c4 : prA (h 170) n0 L0 a i < prA (h 170) n0 L0 a w
                    · rw [if_pos c4, if_pos c4]
                      exact ih (i + 1) (some i) g2 (by omega) hg2 (fun u hu => by cases hu; exact hi')
                    · rw [if_neg c4, if_neg c4]
                      exact ih (i + 1) (some w) g2 (by omega) hg2 hb
                · rw [if_neg c3, no (fun q => c3 q.2.2.2)]
                  exact ih (i + 1) b g (by omega) hg hb
            · rw [if_neg (fun q => c1 (eo.mp q)), no (fun q => c1 q.1)]
              exact ih (i + 1) b g (by omega) hg hb
      obtain ⟨g1, e1, e2⟩ := ck T 0 none 0 .null h (by omega) eqi.rf (fun u hu => by cases hu)
      have s1 : eqi SCR h g1 := e2.mono (by decide)
      obtain ⟨g2, f1, f2⟩ := mk T 0 none g1 (by omega) s1 (fun u hu => by cases hu)
      have S1 := S.scr s1
      refine ⟨o2 (itr (bst (fun t => decide (okd h t k ∧ clo h t a)) (prA (h 170) n0 L0 a)) 0 T none), g1, g2, ?_, ?_, f2⟩
      · rw [e_X9_best, c_isActor (by omega) Q, pm_bd_s, b2_t hv, if_neg (by decide), c_isKind (by omega), pm_bd_s, b2_t hx, if_neg (by decide)]
        exact e1
      · rw [e_X10_best, m_isActor (by omega) S1.2.1, pm_bd_s, b2_t hv, if_neg (by decide), m_isIn (by omega), pm_bd_s, b2_t hx, if_neg (by decide)]
        exact f1
    · refine QE.mk (r := -1) ?_ ?_
      · rw [e_X9_best, c_isActor (by omega) Q, pm_bd_s, b2_t hv, if_neg (by decide), c_isKind (by omega), pm_bd_s, b2_f hx, if_pos rfl]
      · rw [e_X10_best, m_isActor (by omega) Q, pm_bd_s, b2_t hv, if_neg (by decide), m_isIn (by omega), pm_bd_s, b2_f hx, if_pos rfl]
  · refine QE.mk (r := -1) ?_ ?_
    · rw [e_X9_best, c_isActor (by omega) Q, pm_bd_s, b2_f hv, if_pos rfl]
    · rw [e_X10_best, m_isActor (by omega) Q, pm_bd_s, b2_f hv, if_pos rfl]
