/-! facts, prices -/
def nb (v : Int32) (k : Nat) : Prop := ∃ j, j ≤ k ∧ v = nI j
/-- of a thing: what a law is asked about, as the model numbers it -/
def fct (w : Nat → Int32) (t : Nat) (bq oq mq nx tq : Int32) : Nat → Int32 := fun k => if k = 1 then bq else if k = 2 then oq else if k = 3 then mq else if k = 4 then w (4 + 20 * t + 0) else if k = 5 then w (4 + 20 * t + 1) else if k = 6 then tq else if k = 7 then w (4 + 20 * t + 4) else if k = 8 then w (4 + 20 * t + 2) else nx
def LW (k n : Nat) (Ls : Nat → Ln) (h : pm_Hp) : Prop := h (18 + 7 * k) 6 = nI n ∧ h 170 (329 + k) = nI n ∧ n ≤ 16 ∧ ∀ j, j < n → clsL h (19 + 7 * k) j (Ls j) ∧ modL h k j (Ls j) ∧ okLn (Ls j)
abbrev SC : List Nat := [24, 31, 37, 178, 179]
theorem LW.eq {k n : Nat} {Ls : Nat → Ln} {h h' : pm_Hp} (hk : k < 2) (e : eqi SC h h') (a : LW k n Ls h) : LW k n Ls h' := by
  obtain ⟨a1, a2, a3, a4⟩ := a
  have hk2 : k = 0 ∨ k = 1 := by omega
  refine ⟨?_, by rw [e 170 (by decide)]; exact a2, a3, fun j hj => ⟨?_, modL_eq (e 170 (by decide)) (a4 j hj).2.1, (a4 j hj).2.2⟩⟩
  · rcases hk2 with rfl | rfl
    · rw [e 18 (by decide)]; exact a1
    · rw [e 25 (by decide)]; exact a1
  · refine clsL_eq (fun i hi => e _ ?_) (a4 j hj).1
    rcases hk2 with rfl | rfl
    · simp; omega
    · simp; omega
/-- the rows of things, of actors, that prices stand on -/
def WT (h : pm_Hp) (t : Nat) : Prop := nb (wq h t 0) 5 ∧ nb (wq h t 1) 20 ∧ nb (wq h t 2) 9 ∧ nb (wq h t 3) 9 ∧ nb (wq h t 4) 999 ∧ nb (wq h t 8) 9999 ∧ ∀ m, m < 5 → nb (wq h t (10 + m)) 99 ∧ nb (wq h t (15 + m)) 99 ∧ (wq h t (10 + m) = 0 ↔ wq h t (15 + m) = 0)
/-- the facts that stay while prices are asked -/
def FP (h : pm_Hp) (w : Nat → Int32) (t : Nat) (nx tq : Int32) : Prop := h 37 3 = w (4 + 20 * t + 0) ∧ h 37 4 = w (4 + 20 * t + 1) ∧ h 37 5 = tq ∧ h 37 6 = w (4 + 20 * t + 4) ∧ h 37 7 = nx ∧ h 37 8 = w (4 + 20 * t + 2)
theorem FP.full {h : pm_Hp} {w : Nat → Int32} {t : Nat} {nx tq bq oq mq : Int32} (a : FP h w t nx tq) (a0 : h 37 0 = bq) (a1 : h 37 1 = oq) (a2 : h 37 2 = mq) : ∀ k, 1 ≤ k → k ≤ 9 → h 37 (cfi k) = fct w t bq oq mq nx tq k := by
  intro k h1 h2
  obtain ⟨b3, b4, b5, b6, b7, b8⟩ := a
  have : k = 1 ∨ k = 2 ∨ k = 3 ∨ k = 4 ∨ k = 5 ∨ k = 6 ∨ k = 7 ∨ k = 8 ∨ k = 9 := by omega
  rcases this with rfl | rfl | rfl | rfl | rfl | rfl | rfl | rfl | rfl
  · exact a0
  · exact a1
  · exact a2
  · exact b3
  · exact b4
  · exact b5
  · exact b6
  · exact b8
  · exact b7
theorem c_askAbout {d T R t : Nat} {h : pm_Hp} (hd : 1 ≤ d) (P : Pl T R h) (ht : t < T) : ∃ h', pm_ev d 30 [.ref 1, .int (nI t)] h = some (0, h') ∧ eqi [37] h h' ∧ FP h' (h 170) t 0 (wq h t 3) ∧ h' 37 0 = 0 ∧ h' 37 1 = 0 ∧ h' 37 2 = 0 := by
  obtain ⟨d, rfl, -⟩ := dpos hd
  have hT := P.1
  have m37 : 37 ∈ [37] := List.mem_singleton.mpr rfl
  have r1 : h 12 t = wq h t 1 := P.2.2.2.2.2.2.1 t 1 ht (by omega) (by omega)
  have r3 : h 4 t = wq h t 3 := P.2.2.2.2.2.2.1 t 3 ht (by omega) (by omega)
  have r4 : h 5 t = wq h t 4 := P.2.2.2.2.2.2.1 t 4 ht (by omega) (by omega)
  have r2 : h 3 t = wq h t 2 := P.2.2.2.2.2.2.1 t 2 ht (by omega) (by omega)
  rw [e_X1_askAbout, pm_at_c (by omega) (by omega), pm_at_c (by omega) (by omega), pm_at_c (by omega) (by omega), pm_at_c (by omega) (by omega), pm_at_c (by omega) (by omega), P.r0 ht, r1, r2, r3, r4]
  exact ⟨_, rfl, ((((((((eqi.rf.up m37).up m37).up m37).up m37).up m37).up m37).up m37).up m37).up m37, ⟨rfl, rfl, rfl, rfl, rfl, rfl⟩, rfl, rfl, rfl⟩
theorem m_lays {d t : Nat} {h : pm_Hp} (hd : 2 ≤ d) (ht : t < 16) (nx : Int32) : ∃ h', pm_ev d 212 [.ref 169, .int (nI t), .int nx] h = some (0, h') ∧ eqi [179] h h' ∧ ∀ k, 1 ≤ k → k ≤ 9 → h' 179 k = fct (h 170) t 0 0 0 nx (wq h t 3) k := by
  obtain ⟨d, rfl, -⟩ := dpos hd
  have m : 179 ∈ [179] := List.mem_singleton.mpr rfl
  rw [e_X10_lays, m_of0 (by omega) _ (nI t) 0 t 0 rfl rfl ht (by omega), pm_bd_s, m_of0 (by omega) _ (nI t) 1 t 1 rfl rfl ht (by omega), pm_bd_s, m_of0 (by omega) _ (nI t) (nI 3) t 3 rfl rfl ht (by omega), pm_bd_s, m_of0 (by omega) _ (nI t) (nI 4) t 4 rfl rfl ht (by omega), pm_bd_s, m_of0 (by omega) _ (nI t) (nI 2) t 2 rfl rfl ht (by omega), pm_bd_s]
  refine ⟨_, rfl, ((((((((eqi.rf.up m).up m).up m).up m).up m).up m).up m).up m).up m, ?_⟩
  intro k h1 h2
  have : k = 1 ∨ k = 2 ∨ k = 3 ∨ k = 4 ∨ k = 5 ∨ k = 6 ∨ k = 7 ∨ k = 8 ∨ k = 9 := by omega
  rcases this with rfl | rfl | rfl | rfl | rfl | rfl | rfl | rfl | rfl <;> rfl
theorem c_tellE_0 {d n w : Nat} {fa : Nat → Int32} {Ls : Nat → Ln} {h : pm_Hp} (hd : 4 ≤ d) (hw : w < 5) (L : LW 0 n Ls h) (hf : ∀ k, 1 ≤ k → k ≤ 9 → h 37 (cfi k) = fa k) (oth most : Int32) : ∃ h', pm_ev d 49 [.ref 18, .int (nI (200 + w)), .ref 37, .int oth, .int most] h = some (tlw fa Ls w oth most 0 n, h') ∧ eqi [24] h h' := by
  obtain ⟨d, rfl, -⟩ := dpos hd
  rw [e_X3_tell_0]
  exact c_tell_0 (by omega) hw oth most n 0 h (by omega) L.2.2.1 L.1 (fun j hj => ⟨(L.2.2.2 j hj).1, (L.2.2.2 j hj).2.2⟩) hf
theorem c_tellE_1 {d n w : Nat} {fa : Nat → Int32} {Ls : Nat → Ln} {h : pm_Hp} (hd : 4 ≤ d) (hw : w < 5) (L : LW 1 n Ls h) (hf : ∀ k, 1 ≤ k → k ≤ 9 → h 37 (cfi k) = fa k) (oth most : Int32) : ∃ h', pm_ev d 49 [.ref 25, .int (nI (200 + w)), .ref 37, .int oth, .int most] h = some (tlw fa Ls w oth most 0 n, h') ∧ eqi [31] h h' := by
  obtain ⟨d, rfl, -⟩ := dpos hd
  rw [e_X3_tell_1]
  exact c_tell_1 (by omega) hw oth most n 0 h (by omega) L.2.2.1 L.1 (fun j hj => ⟨(L.2.2.2 j hj).1, (L.2.2.2 j hj).2.2⟩) hf
theorem m_says {d k n w : Nat} {fa : Nat → Int32} {Ls : Nat → Ln} {h : pm_Hp} (hd : 5 ≤ d) (hk : k < 2) (hw : w < 5) (L : LW k n Ls h) (hf : ∀ j, 1 ≤ j → j ≤ 9 → h 179 j = fa j) (oth most : Int32) : ∃ h', pm_ev d 211 [.ref 169, .int (nI k), .int (nI (20 + w)), .int oth, .int most] h = some (tlw fa Ls w oth most 0 n, h') ∧ eqi [178] h h' := by
  obtain ⟨d, rfl, -⟩ := dpos hd
  rw [e_X10_says, pk_mul]
  exact m_saysL (by omega) hk hw oth most n 0 h (by omega) L.2.2.1 L.2.1 (fun j hj => (L.2.2.2 j hj).2) hf
/-- apart -/
def ds (a b : Int32) : Int32 := if a < b then b - a else a - b
theorem m_apart {d : Nat} (hd : 1 ≤ d) (h : pm_Hp) (a b : Int32) : pm_ev d 160 [.int a, .int b] h = some (ds a b, h) := by
  obtain ⟨d, rfl, -⟩ := dpos hd
  rw [e_X10_apart]
  unfold ds
  by_cases e : a < b <;> simp [e]
theorem ds_nI {a b : Nat} (ha : a ≤ 9999) (hb : b ≤ 9999) : ds (nI a) (nI b) = nI (if a < b then b - a else a - b) := by
  unfold ds
  by_cases e : a < b
  · rw [if_pos (nI_lt e (by omega)), if_pos e, pk_sub (by omega)]
  · rw [if_neg (nI_nlt (by omega) (by omega)), if_neg e, pk_sub (by omega)]
theorem e_abs {d : Nat} (hd : 1 ≤ d) (h : pm_Hp) {x y : Int32} (hx : nb x 9999) (hy : nb y 9999) : pm_ev d 296 [.int (x - y)] h = some (ds x y, h) := by
  obtain ⟨d, rfl, -⟩ := dpos hd
  obtain ⟨a, ha, rfl⟩ := hx
  obtain ⟨b, hb, rfl⟩ := hy
  rw [e_J9_abs_0f7a4]
  unfold ds
  by_cases e : a < b
  · rw [if_pos (pk_sneg (by omega) e), if_pos (nI_lt e (by omega)), Int32.neg_sub]
  · rw [pk_sub (by omega), if_neg (nI_pos (by omega)), if_neg (nI_nlt (by omega) (by omega))]
/-- the price of one measure, and of all -/
def pr1 (w : Nat → Int32) (n : Nat) (Ls : Nat → Ln) (t : Nat) (to : Nat → Int32) (m : Nat) : Int32 := tlw (fct w t (ds (to m) (w (4 + 20 * t + (15 + m)))) (b2 (w (4 + 20 * t + (15 + m)) < to m)) (nI m) 0 (w (4 + 20 * t + 3))) Ls 0 (ds (to m) (w (4 + 20 * t + (15 + m)))) (nI 9999) 0 n
def prg (w : Nat → Int32) (n : Nat) (Ls : Nat → Ln) (t : Nat) (to : Nat → Int32) (m : Nat) (a : Int32) : Int32 := if w (4 + 20 * t + (15 + m)) = 0 then a else if to m = 0 then a else if w (4 + 20 * t + (15 + m)) = to m then a else a + pr1 w n Ls t to m
def prc (w : Nat → Int32) (n : Nat) (Ls : Nat → Ln) (t : Nat) (to : Nat → Int32) : Int32 := itr (prg w n Ls t to) 0 5 0
theorem c_price_b {d T R n t bs : Nat} {Ls : Nat → Ln} {h : pm_Hp} {to : Nat → Int32} (hd : 5 ≤ d) (P : Pl T R h) (L : LW 0 n Ls h) (W : WT h t) (ht : t < T) (hto : ∀ m, m < 5 → h 14 (bs + m) = to m ∧ nb (to m) 99) (hbs : bs + 5 ≤ 30) : ∃ h', pm_ev d 31 [.ref 1, .int (nI t), .ref 14, .int (nI bs)] h = some (prc (h 170) n Ls t to, h') ∧ eqi [24, 37] h h' := by
  obtain ⟨d, rfl, -⟩ := dpos hd
  have hT := P.1
  obtain ⟨h1, e1, e2, e3, -⟩ := c_askAbout (d := d) (by omega) P ht
  rw [e_X1_price_b, e1, pm_bd_s]
  have key : ∀ (m i : Nat) (a : Int32) (g : pm_Hp) (u6 u7 u8 : Value), i + m = 5 → eqi [24, 37] h g → FP g (h 170) t 0 (wq h t 3) → ∃ h', pm_rn d kX1_price 11 [.ref 1, .int (nI t), .ref 14, .int (nI bs), .int a, .int (nI i), u6, u7, u8] [] g = some (itr (prg (h 170) n Ls t to) i m a, h') ∧ eqi [24, 37] h h' := by
    intro m
    induction m with
    | zero =>
      intro i a g u6 u7 u8 hi hg hF
      refine ⟨g, ?_, hg⟩
      rw [b_X1_price_b_11, if_neg (nI_nlt (by omega) (by omega))]
      rfl
    | succ m ih =>
      intro i a g u6 u7 u8 hi hg hF
      have rn : g 10 (t * 5 + i) = wq h t (15 + i) := by
        rw [hg 10 (by decide)]
        have := P.2.2.2.2.2.2.1 t (15 + i) ht (by omega) (by omega)
        unfold ta tj at this
        rw [if_neg (by omega), if_neg (by omega), if_neg (by omega), if_neg (by omega), if_neg (by omega), if_neg (by omega), show 15 + i - 15 = i by omega] at this
        exact this
      have rt : g 14 (bs + i) = to i := by rw [hg 14 (by decide)]; exact (hto i (by omega)).1
      have n1 := (hto i (by omega)).2
      have n2 := (W.2.2.2.2.2.2 i (by omega)).2.1
      rw [b_X1_price_b_11, if_pos (nI_lt (by omega) (by omega)), pm_at_n (j := t * 5 + i) (by rw [pk_mul, nI_add]) (by omega) (by omega), pm_at_n (j := bs + i) (by rw [nI_add]) (by omega) (by omega), rn, rt, nI_1]
      show ∃ h', _ = some (itr (prg (h 170) n Ls t to) (i + 1) m (prg (h 170) n Ls t to i a), h') ∧ _
      unfold prg
      by_cases c1 : wq h t (15 + i) = 0
      · rw [if_pos c1, if_pos c1]
        exact ih (i + 1) a g _ _ _ (by omega) hg hF
      · rw [if_neg c1, if_neg c1]
        by_cases c2 : to i = 0
        · rw [if_pos c2, if_pos c2]
          exact ih (i + 1) a g _ _ _ (by omega) hg hF
        · rw [if_neg c2, if_neg c2]
          by_cases c3 : wq h t (15 + i) = to i
          · rw [if_pos c3, if_pos c3]
            exact ih (i + 1) a g _ _ _ (by omega) hg hF
          · rw [if_neg c3, if_neg c3, e_abs (by omega) g (show nb (to i) 9999 from by obtain ⟨j, hj, e⟩ := n1; exact ⟨j, by omega, e⟩) (show nb (wq h t (15 + i)) 9999 from by obtain ⟨j, hj, e⟩ := n2; exact ⟨j, by omega, e⟩), pm_bd_s]
            have fin : ∀ oq : Int32, oq = b2 (wq h t (15 + i) < to i) → ∃ h', (pm_bd (pm_ev d 49 [.ref 18, .int (nI 200), .ref 37, .int (ds (to i) (wq h t (15 + i))), .int (nI 9999)] (pm_up (pm_up (pm_up g 37 0 (ds (to i) (wq h t (15 + i)))) 37 1 oq) 37 2 (nI i))) fun r2 y2 => pm_rn d kX1_price 11 [.ref 1, .int (nI t), .ref 14, .int (nI bs), .int (a + r2), .int (nI (i + 1)), .int (wq h t (15 + i)), .int (to i), .int (ds (to i) (wq h t (15 + i)))] [] y2) = some (itr (prg (h 170) n Ls t to) (i + 1) m (a + pr1 (h 170) n Ls t to i), h') ∧ eqi [24, 37] h h' := fun oq ho => by
              subst ho
              have hg2 : eqi [24, 37] h (pm_up (pm_up (pm_up g 37 0 (ds (to i) (wq h t (15 + i)))) 37 1 (b2 (wq h t (15 + i) < to i))) 37 2 (nI i)) := ((hg.up (by decide)).up (by decide)).up (by decide)
              have hF2 : FP (pm_up (pm_up (pm_up g 37 0 (ds (to i) (wq h t (15 + i)))) 37 1 (b2 (wq h t (15 + i) < to i))) 37 2 (nI i)) (h 170) t 0 (wq h t 3) := hF
              obtain ⟨y, f1, f2⟩ := c_tellE_0 (d := d) (w := 0) (by omega) (by omega) (L.eq (by omega) (hg2.mono (by decide))) (hF2.full rfl rfl rfl) (ds (to i) (wq h t (15 + i))) (nI 9999)
              have f1 : pm_ev d 49 [.ref 18, .int (nI 200), .ref 37, .int (ds (to i) (wq h t (15 + i))), .int (nI 9999)] _ = some (pr1 (h 170) n Ls t to i, y) := f1
              rw [f1, pm_bd_s]
              refine ih (i + 1) _ y _ _ _ (by omega) (hg2.tr (f2.mono (by decide))) ?_
              have e37 : y 37 = _ := f2 37 (by decide)
              unfold FP
              rw [e37]
              exact hF2
            by_cases c4 : to i ≤ wq h t (15 + i)
            · rw [if_pos c4]
              exact fin 0 (b2_f (Int32.not_lt.mpr c4)).symm
            · rw [if_neg c4]
              exact fin 1 (b2_t (Int32.not_le.mp c4)).symm
  exact key 5 0 0 h1 _ _ _ (by omega) (e2.mono (by decide)) e3
theorem c_price_m {d T R n t bs : Nat} {Ls : Nat → Ln} {h : pm_Hp} {to : Nat → Int32} (hd : 5 ≤ d) (P : Pl T R h) (L : LW 0 n Ls h) (W : WT h t) (ht : t < T) (hto : ∀ m, m < 5 → h 13 (bs + m) = to m ∧ nb (to m) 99) (hbs : bs + 5 ≤ 80) : ∃ h', pm_ev d 31 [.ref 1, .int (nI t), .ref 13, .int (nI bs)] h = some (prc (h 170) n Ls t to, h') ∧ eqi [24, 37] h h' := by
  obtain ⟨d, rfl, -⟩ := dpos hd
  have hT := P.1
  obtain ⟨h1, e1, e2, e3, -⟩ := c_askAbout (d := d) (by omega) P ht
  rw [e_X1_price_m, e1, pm_bd_s]
  have key : ∀ (m i : Nat) (a : Int32) (g : pm_Hp) (u6 u7 u8 : Value), i + m = 5 → eqi [24, 37] h g → FP g (h 170) t 0 (wq h t 3) → ∃ h', pm_rn d kX1_price 11 [.ref 1, .int (nI t), .ref 13, .int (nI bs), .int a, .int (nI i), u6, u7, u8] [] g = some (itr (prg (h 170) n Ls t to) i m a, h') ∧ eqi [24, 37] h h' := by
    intro m
    induction m with
    | zero =>
      intro i a g u6 u7 u8 hi hg hF
      refine ⟨g, ?_, hg⟩
      rw [b_X1_price_m_11, if_neg (nI_nlt (by omega) (by omega))]
      rfl
    | succ m ih =>
      intro i a g u6 u7 u8 hi hg hF
      have rn : g 10 (t * 5 + i) = wq h t (15 + i) := by
        rw [hg 10 (by decide)]
        have := P.2.2.2.2.2.2.1 t (15 + i) ht (by omega) (by omega)
        unfold ta tj at this
        rw [if_neg (by omega), if_neg (by omega), if_neg (by omega), if_neg (by omega), if_neg (by omega), if_neg (by omega), show 15 + i - 15 = i by omega] at this
        exact this
      have rt : g 13 (bs + i) = to i := by rw [hg 13 (by decide)]; exact (hto i (by omega)).1
      have n1 := (hto i (by omega)).2
      have n2 := (W.2.2.2.2.2.2 i (by omega)).2.1
      rw [b_X1_price_m_11, if_pos (nI_lt (by omega) (by omega)), pm_at_n (j := t * 5 + i) (by rw [pk_mul, nI_add]) (by omega) (by omega), pm_at_n (j := bs + i) (by rw [nI_add]) (by omega) (by omega), rn, rt, nI_1]
      show ∃ h', _ = some (itr (prg (h 170) n Ls t to) (i + 1) m (prg (h 170) n Ls t to i a), h') ∧ _
      unfold prg
      by_cases c1 : wq h t (15 + i) = 0
      · rw [if_pos c1, if_pos c1]
        exact ih (i + 1) a g _ _ _ (by omega) hg hF
      · rw [if_neg c1, if_neg c1]
        by_cases c2 : to i = 0
        · rw [if_pos c2, if_pos c2]
          exact ih (i + 1) a g _ _ _ (by omega) hg hF
        · rw [if_neg c2, if_neg c2]
          by_cases c3 : wq h t (15 + i) = to i
          · rw [if_pos c3, if_pos c3]
            exact ih (i + 1) a g _ _ _ (by omega) hg hF
          · rw [if_neg c3, if_neg c3, e_abs (by omega) g (show nb (to i) 9999 from by obtain ⟨j, hj, e⟩ := n1; exact ⟨j, by omega, e⟩) (show nb (wq h t (15 + i)) 9999 from by obtain ⟨j, hj, e⟩ := n2; exact ⟨j, by omega, e⟩), pm_bd_s]
            have fin : ∀ oq : Int32, oq = b2 (wq h t (15 + i) < to i) → ∃ h', (pm_bd (pm_ev d 49 [.ref 18, .int (nI 200), .ref 37, .int (ds (to i) (wq h t (15 + i))), .int (nI 9999)] (pm_up (pm_up (pm_up g 37 0 (ds (to i) (wq h t (15 + i)))) 37 1 oq) 37 2 (nI i))) fun r2 y2 => pm_rn d kX1_price 11 [.ref 1, .int (nI t), .ref 13, .int (nI bs), .int (a + r2), .int (nI (i + 1)), .int (wq h t (15 + i)), .int (to i), .int (ds (to i) (wq h t (15 + i)))] [] y2) = some (itr (prg (h 170) n Ls t to) (i + 1) m (a + pr1 (h 170) n Ls t to i), h') ∧ eqi [24, 37] h h' := fun oq ho => by
              subst ho
              have hg2 : eqi [24, 37] h (pm_up (pm_up (pm_up g 37 0 (ds (to i) (wq h t (15 + i)))) 37 1 (b2 (wq h t (15 + i) < to i))) 37 2 (nI i)) := ((hg.up (by decide)).up (by decide)).up (by decide)
              have hF2 : FP (pm_up (pm_up (pm_up g 37 0 (ds (to i) (wq h t (15 + i)))) 37 1 (b2 (wq h t (15 + i) < to i))) 37 2 (nI i)) (h 170) t 0 (wq h t 3) := hF
              obtain ⟨y, f1, f2⟩ := c_tellE_0 (d := d) (w := 0) (by omega) (by omega) (L.eq (by omega) (hg2.mono (by decide))) (hF2.full rfl rfl rfl) (ds (to i) (wq h t (15 + i))) (nI 9999)
              have f1 : pm_ev d 49 [.ref 18, .int (nI 200), .ref 37, .int (ds (to i) (wq h t (15 + i))), .int (nI 9999)] _ = some (pr1 (h 170) n Ls t to i, y) := f1
              rw [f1, pm_bd_s]
              refine ih (i + 1) _ y _ _ _ (by omega) (hg2.tr (f2.mono (by decide))) ?_
              have e37 : y 37 = _ := f2 37 (by decide)
              unfold FP
              rw [e37]
              exact hF2
            by_cases c4 : to i ≤ wq h t (15 + i)
            · rw [if_pos c4]
              exact fin 0 (b2_f (Int32.not_lt.mpr c4)).symm
            · rw [if_neg c4]
              exact fin 1 (b2_t (Int32.not_le.mp c4)).symm
  exact key 5 0 0 h1 _ _ _ (by omega) (e2.mono (by decide)) e3
