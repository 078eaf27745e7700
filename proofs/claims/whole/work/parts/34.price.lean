theorem m_costOf {d n t m : Nat} {Ls : Nat → Ln} {h : pm_Hp} {bq oq : Int32} (hd : 6 ≤ d) (L : LW 0 n Ls h) (ht : t < 16) (ho : oq = 0 ∨ oq = 1) : ∃ h', pm_ev d 213 [.ref 169, .int (nI t), .int (nI m), .int bq, .int oq] h = some (tlw (fct (h 170) t bq oq (nI m) 0 (wq h t 3)) Ls 0 bq (nI 9999) 0 n, h') ∧ eqi [178, 179] h h' := by
  obtain ⟨d, rfl, -⟩ := dpos hd
  obtain ⟨h1, e1, e2, e3⟩ := m_lays (d := d) (h := h) (by omega) ht 0
  have go : ∀ oq : Int32, ∃ h', (pm_bd (pm_ev d 211 [.ref 169, .int 0, .int (nI 20), .int bq, .int (nI 9999)] (pm_up (pm_up (pm_up h1 179 1 bq) 179 2 oq) 179 3 (nI m))) fun r2 y2 => some (r2, y2)) = some (tlw (fct (h 170) t bq oq (nI m) 0 (wq h t 3)) Ls 0 bq (nI 9999) 0 n, h') ∧ eqi [178, 179] h h' := fun oq => by
    have hg : eqi [178, 179] h (pm_up (pm_up (pm_up h1 179 1 bq) 179 2 oq) 179 3 (nI m)) := (((e2.mono (by decide)).up (by decide)).up (by decide)).up (by decide)
    have hf : ∀ j, 1 ≤ j → j ≤ 9 → (pm_up (pm_up (pm_up h1 179 1 bq) 179 2 oq) 179 3 (nI m)) 179 j = fct (h 170) t bq oq (nI m) 0 (wq h t 3) j := by
      intro j j1 j9
      have : j = 1 ∨ j = 2 ∨ j = 3 ∨ (4 ≤ j ∧ j ≤ 9) := by omega
      rcases this with rfl | rfl | rfl | ⟨j4, -⟩
      · rfl
      · rfl
      · rfl
      · rw [pm_up_j (by omega), pm_up_j (by omega), pm_up_j (by omega), e3 j j1 j9]
        unfold fct
        simp [show j ≠ 1 by omega, show j ≠ 2 by omega, show j ≠ 3 by omega]
    obtain ⟨y, f1, f2⟩ := m_says (d := d) (k := 0) (w := 0) (by omega) (by omega) (by omega) (L.eq (by omega) (hg.mono (by decide))) hf bq (nI 9999)
    refine ⟨y, ?_, hg.tr (f2.mono (by decide))⟩
    have f1 : pm_ev d 211 [.ref 169, .int 0, .int (nI 20), .int bq, .int (nI 9999)] _ = _ := f1
    rw [f1, pm_bd_s]
  rw [e_X10_costOf, e1, pm_bd_s]
  rcases ho with rfl | rfl
  · rw [if_pos rfl]; exact go 0
  · rw [if_neg (by decide)]; exact go 1
/-- the measures wanted: an actor's, or as made -/
def too (w : Nat → Int32) (t : Nat) (a : Option Nat) (m : Nat) : Int32 := match a with
  | none => w (4 + 20 * t + (10 + m))
  | some k => w (332 + 5 * k + m)
theorem m_bodyOf {d a m : Nat} {h : pm_Hp} (hd : 1 ≤ d) (ha : a < 6) (hm : m < 5) : pm_ev d 165 [.ref 169, .int (nI a), .int (nI m)] h = some (h 170 (332 + 5 * a + m), h) := by
  obtain ⟨d, rfl, -⟩ := dpos hd
  rw [e_X10_bodyOf, pm_at_n (j := 332 + 5 * a + m) (by simp only [pk_mul, nI_add]) (by omega) (by omega)]
theorem m_goalOf {d t m : Nat} {h : pm_Hp} {a : Option Nat} (hd : 2 ≤ d) (ht : t < 16) (ha : ∀ k, a = some k → k < 6) (hm : m < 5) : pm_ev d 234 [.ref 169, .int (nI t), .int (o2 a), .int (nI m)] h = some (if wq h t (10 + m) = 0 then 0 else too (h 170) t a m, h) := by
  obtain ⟨d, rfl, -⟩ := dpos hd
  rw [e_X10_goalOf, m_of0 (by omega) h (nI t) _ t (10 + m) rfl (by rw [nI_add]) ht (by omega), pm_bd_s]
  by_cases c : wq h t (10 + m) = 0
  · rw [if_pos c, if_pos c]
  · rw [if_neg c, if_neg c]
    cases a with
    | none => rw [if_pos (show o2 none = -1 from rfl), m_of0 (by omega) h (nI t) _ t (10 + m) rfl (by rw [nI_add]) ht (by omega), pm_bd_s]; rfl
    | some k =>
      have := ha k rfl
      rw [if_neg (by show ¬ nI k = -1; rw [nI_m1 (by omega)]; exact id)]
      show pm_bd (pm_ev d 165 [.ref 169, .int (nI k), .int (nI m)] h) _ = _
      rw [m_bodyOf (by omega) this hm, pm_bd_s]
      rfl
theorem m_costBy {d n t : Nat} {Ls : Nat → Ln} {h : pm_Hp} {a : Option Nat} (hd : 8 ≤ d) (L : LW 0 n Ls h) (W : WT h t) (ht : t < 16) (ha : ∀ k, a = some k → k < 6) : ∃ h', pm_ev d 235 [.ref 169, .int (nI t), .int (o2 a)] h = some (prc (h 170) n Ls t (too (h 170) t a), h') ∧ eqi [178, 179] h h' := by
  obtain ⟨d, rfl, -⟩ := dpos hd
  rw [e_X10_costBy]
  have key : ∀ (m i : Nat) (s : Int32) (g : pm_Hp) (u5 u6 : Value), i + m = 5 → eqi [178, 179] h g → ∃ h', pm_rn d kX10_costBy 5 [.ref 169, .int (nI t), .int (o2 a), .int s, .int (nI i), u5, u6] [] g = some (itr (prg (h 170) n Ls t (too (h 170) t a)) i m s, h') ∧ eqi [178, 179] h h' := by
    intro m
    induction m with
    | zero =>
      intro i s g u5 u6 hi hg
      refine ⟨g, ?_, hg⟩
      rw [b_X10_costBy_5, if_neg (nI_nlt (by omega) (by omega))]
      rfl
    | succ m ih =>
      intro i s g u5 u6 hi hg
      have e170 : g 170 = h 170 := hg 170 (by decide)
      have ew : ∀ f, wq g t f = wq h t f := fun f => by show g 170 _ = h 170 _; rw [e170]
      have w3 := (W.2.2.2.2.2.2 i (by omega)).2.2
      rw [b_X10_costBy_5, if_pos (nI_lt (by omega) (by omega)), m_goalOf (by omega) ht ha (by omega), pm_bd_s, m_of0 (by omega) g (nI t) _ t (15 + i) rfl (by rw [nI_add]) ht (by omega), pm_bd_s, nI_1, ew, ew, e170]
      show ∃ h', _ = some (itr (prg (h 170) n Ls t (too (h 170) t a)) (i + 1) m (prg (h 170) n Ls t (too (h 170) t a) i s), h') ∧ _
      unfold prg
      by_cases c1 : wq h t (15 + i) = 0
      · rw [if_pos (w3.mpr c1), if_pos rfl, if_pos c1]
        exact ih (i + 1) s g _ _ (by omega) hg
      · rw [if_neg (fun q => c1 (w3.mp q)), if_neg c1]
        by_cases c2 : too (h 170) t a i = 0
        · rw [if_pos c2, if_pos c2]
          exact ih (i + 1) s g _ _ (by omega) hg
        · rw [if_neg c2, if_neg c2]
          by_cases c3 : too (h 170) t a i = wq h t (15 + i)
          · rw [if_pos c3, if_pos c3.symm]
            exact ih (i + 1) s g _ _ (by omega) hg
          · rw [if_neg c3, if_neg (fun q => c3 q.symm), m_apart (by omega), pm_bd_s]
            have fin : ∀ oq : Int32, oq = b2 (wq h t (15 + i) < too (h 170) t a i) → ∃ h', (pm_bd (pm_ev d 213 [.ref 169, .int (nI t), .int (nI i), .int (ds (too (h 170) t a i) (wq h t (15 + i))), .int oq] g) fun r4 y4 => pm_rn d kX10_costBy 5 [.ref 169, .int (nI t), .int (o2 a), .int (s + r4), .int (nI (i + 1)), .int (too (h 170) t a i), .int (wq h t (15 + i))] [] y4) = some (itr (prg (h 170) n Ls t (too (h 170) t a)) (i + 1) m (s + pr1 (h 170) n Ls t (too (h 170) t a) i), h') ∧ eqi [178, 179] h h' := fun oq ho => by
              obtain ⟨y, f1, f2⟩ := m_costOf (d := d) (n := n) (t := t) (m := i) (Ls := Ls) (h := g) (bq := ds (too (h 170) t a i) (wq h t (15 + i))) (oq := oq) (by omega) (L.eq (by omega) (hg.mono (by decide))) ht (by rw [ho]; exact b2_01)
              rw [f1, pm_bd_s, ew, e170, ho]
              exact ih (i + 1) _ y _ _ (by omega) (hg.tr f2)
            by_cases c4 : too (h 170) t a i ≤ wq h t (15 + i)
            · rw [if_pos c4]
              exact fin 0 (b2_f (Int32.not_lt.mpr c4)).symm
            · rw [if_neg c4]
              exact fin 1 (b2_t (Int32.not_le.mp c4)).symm
  exact key 5 0 0 h _ _ (by omega) eqi.rf
/-! mending, changing -/
theorem c_mendPrice {d T R n t : Nat} {Ls : Nat → Ln} {h : pm_Hp} (hd : 5 ≤ d) (P : Pl T R h) (L : LW 0 n Ls h) (ht : t < T) (tq : Int32) : ∃ h', pm_ev d 33 [.ref 1, .int (nI t), .int tq] h = some (tlw (fct (h 170) t 0 0 0 0 tq) Ls 1 (nI 5) (nI 9999) 0 n, h') ∧ eqi [24, 37] h h' := by
  obtain ⟨d, rfl, -⟩ := dpos hd
  obtain ⟨h1, e1, e2, e3, a0, a1, a2⟩ := c_askAbout (d := d) (by omega) P ht
  rw [e_X1_mendPrice, e1, pm_bd_s]
  have hg : eqi [24, 37] h (pm_up h1 37 5 tq) := (e2.mono (by decide)).up (by decide)
  obtain ⟨b3, b4, b5, b6, b7, b8⟩ := e3
  have hF : FP (pm_up h1 37 5 tq) (h 170) t 0 tq := ⟨b3, b4, rfl, b6, b7, b8⟩
  obtain ⟨y, f1, f2⟩ := c_tellE_0 (d := d) (w := 1) (by omega) (by omega) (L.eq (by omega) (hg.mono (by decide))) (hF.full a0 a1 a2) (nI 5) (nI 9999)
  have f1 : pm_ev d 49 [.ref 18, .int (nI 201), .ref 37, .int (nI 5), .int (nI 9999)] _ = _ := f1
  refine ⟨y, ?_, hg.tr (f2.mono (by decide))⟩
  rw [f1, pm_bd_s]
theorem c_changeMinutes {d T R n t : Nat} {Ls : Nat → Ln} {h : pm_Hp} (hd : 5 ≤ d) (P : Pl T R h) (L : LW 1 n Ls h) (ht : t < T) (nx : Int32) : ∃ h', pm_ev d 36 [.ref 1, .int (nI t), .int nx] h = some (tlw (fct (h 170) t 0 0 0 nx (wq h t 3)) Ls 4 (nI 3) (nI 999) 0 n, h') ∧ eqi [31, 37] h h' := by
  obtain ⟨d, rfl, -⟩ := dpos hd
  obtain ⟨h1, e1, e2, e3, a0, a1, a2⟩ := c_askAbout (d := d) (by omega) P ht
  rw [e_X1_changeMinutes, e1, pm_bd_s]
  have hg : eqi [31, 37] h (pm_up h1 37 7 nx) := (e2.mono (by decide)).up (by decide)
  obtain ⟨b3, b4, b5, b6, b7, b8⟩ := e3
  have hF : FP (pm_up h1 37 7 nx) (h 170) t nx (wq h t 3) := ⟨b3, b4, b5, b6, rfl, b8⟩
  obtain ⟨y, f1, f2⟩ := c_tellE_1 (d := d) (w := 4) (by omega) (by omega) (L.eq (by omega) (hg.mono (by decide))) (hF.full a0 a1 a2) (nI 3) (nI 999)
  have f1 : pm_ev d 49 [.ref 25, .int (nI 204), .ref 37, .int (nI 3), .int (nI 999)] _ = _ := f1
  refine ⟨y, ?_, hg.tr (f2.mono (by decide))⟩
  rw [f1, pm_bd_s]
theorem m_change {d n t : Nat} {Ls : Nat → Ln} {h : pm_Hp} (hd : 6 ≤ d) (L : LW 1 n Ls h) (ht : t < 16) (nx : Int32) : ∃ h', pm_ev d 214 [.ref 169, .int (nI t), .int nx] h = some (tlw (fct (h 170) t 0 0 0 nx (wq h t 3)) Ls 4 (nI 3) (nI 999) 0 n, h') ∧ eqi [178, 179] h h' := by
  obtain ⟨d, rfl, -⟩ := dpos hd
  obtain ⟨h1, e1, e2, e3⟩ := m_lays (d := d) (h := h) (by omega) ht nx
  rw [e_X10_change, e1, pm_bd_s]
  obtain ⟨y, f1, f2⟩ := m_says (d := d) (k := 1) (w := 4) (by omega) (by omega) (by omega) (L.eq (by omega) (e2.mono (by decide))) e3 (nI 3) (nI 999)
  have f1 : pm_ev d 211 [.ref 169, .int 1, .int (nI 24), .int (nI 3), .int (nI 999)] _ = _ := f1
  refine ⟨y, ?_, (e2.mono (by decide)).tr (f2.mono (by decide))⟩
  rw [f1, pm_bd_s]
