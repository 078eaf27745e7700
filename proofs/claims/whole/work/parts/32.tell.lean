/-! what a law tells for a word: a line is its word (0 cost, 1 mend, 2 tear, 3 dirt, 4 change), its E, its B -/
abbrev Ln : Type := Nat × List Op × List Op
abbrev z0 : (Nat → Bool) × Nat := (fun _ => false, 0)
def okLn (x : Ln) : Prop := x.1 < 5 ∧ okL x.2.1 z0 ∧ (tyL x.2.1 z0).2 = 1 ∧ (x.2.2 = [] ∨ (okL x.2.2 z0 ∧ (tyL x.2.2 z0).2 = 1 ∧ (tyL x.2.2 z0).1 0 = true))
def evv (fa : Nat → Int32) (l : List Op) : Int32 := (evs fa l (fun _ => 0, 0)).1 0
/-- a line in the class's rows: code c, then word, from, when, until -/
def clsL (h : pm_Hp) (c i : Nat) (x : Ln) : Prop := ∃ p0 p1 p2, h (c + 1) i = nI (200 + x.1) ∧ h (c + 2) i = nI p0 ∧ h (c + 3) i = nI p1 ∧ h (c + 4) i = nI p2 ∧ p0 + cln x.2.1 = p1 ∧ p1 + cln x.2.2 = p2 ∧ p2 ≤ 400 ∧ cseg h c p0 x.2.1 ∧ cseg h c p1 x.2.2
def modL (h : pm_Hp) (k i : Nat) (x : Ln) : Prop := ∃ m0 m1 m2, h 170 (972 + 16 * k + i) = nI (20 + x.1) ∧ h 170 (876 + 16 * k + i) = nI m0 ∧ h 170 (908 + 16 * k + i) = nI m1 ∧ h 170 (940 + 16 * k + i) = nI m2 ∧ m0 + x.2.1.length = m1 ∧ m1 + x.2.2.length = m2 ∧ m2 ≤ 410 ∧ mseg h k m0 x.2.1 ∧ mseg h k m1 x.2.2
theorem clsL_eq {h h' : pm_Hp} {c i : Nat} {x : Ln} (e : ∀ j, j < 5 → h' (c + j) = h (c + j)) (a : clsL h c i x) : clsL h' c i x := by
  obtain ⟨p0, p1, p2, a1, a2, a3, a4, a5, a6, a7, a8, a9⟩ := a
  refine ⟨p0, p1, p2, ?_, ?_, ?_, ?_, a5, a6, a7, cseg_eq (e 0 (by omega)) _ _ a8, cseg_eq (e 0 (by omega)) _ _ a9⟩
  · rw [e 1 (by omega)]; exact a1
  · rw [e 2 (by omega)]; exact a2
  · rw [e 3 (by omega)]; exact a3
  · rw [e 4 (by omega)]; exact a4
theorem modL_eq {h h' : pm_Hp} {k i : Nat} {x : Ln} (e : h' 170 = h 170) (a : modL h k i x) : modL h' k i x := by
  obtain ⟨p0, p1, p2, a1, a2, a3, a4, a5, a6, a7, a8, a9⟩ := a
  exact ⟨p0, p1, p2, by rw [e]; exact a1, by rw [e]; exact a2, by rw [e]; exact a3, by rw [e]; exact a4, a5, a6, a7, mseg_eq e _ _ a8, mseg_eq e _ _ a9⟩
theorem cln_0 {l : List Op} (h : cln l = 0) : l = [] := by
  cases l with
  | nil => rfl
  | cons o l =>
    have : eln o + cln l = 0 := h
    unfold eln at this
    split at this <;> omega
def clp (most x : Int32) : Int32 := if 0 < (if x < most then x else most) then (if x < most then x else most) else 0
def tlw (fa : Nat → Int32) (Ls : Nat → Ln) (w : Nat) (oth most : Int32) : Nat → Nat → Int32
  | _, 0 => oth
  | i, n + 1 => if (Ls i).1 = w ∧ ((Ls i).2.2 = [] ∨ evv fa (Ls i).2.2 = 1) then clp most (evv fa (Ls i).2.1) else tlw fa Ls w oth most (i + 1) n
theorem evv_01 {fa : Nat → Int32} {l : List Op} (hv : vty (tyL l z0) (evs fa l (fun _ => 0, 0)).1) (h1 : (tyL l z0).2 = 1) (h2 : (tyL l z0).1 0 = true) : evv fa l = 0 ∨ evv fa l = 1 := hv 0 (by omega) h2
theorem clp_m {a b : Int32} : (if 0 ≤ (if a < b then a else b) then (if a < b then a else b) else 0) = clp a b := by
  have e : (if a < b then a else b) = (if b < a then b else a) := by
    by_cases h1 : a < b
    · rw [if_pos h1, if_neg (Int32.not_lt.mpr (Int32.le_of_lt h1))]
    · rw [if_neg h1]
      by_cases h2 : b < a
      · rw [if_pos h2]
      · rw [if_neg h2]
        exact Int32.le_antisymm (Int32.not_lt.mp h2) (Int32.not_lt.mp h1) |>.symm
  unfold clp
  rw [e]
  generalize (if b < a then b else a) = y
  by_cases h1 : 0 < y
  · rw [if_pos (Int32.le_of_lt h1), if_pos h1]
  · rw [if_neg h1]
    by_cases h2 : (0 : Int32) ≤ y
    · rw [if_pos h2]
      exact Int32.le_antisymm (Int32.not_lt.mp h1) h2
    · rw [if_neg h2]
theorem evs_vty (fa : Nat → Int32) : ∀ (l : List Op) (ty : Nat → Bool) (f : Nat → Int32) (n : Nat), okL l (ty, n) → vty (ty, n) f → vty (tyL l (ty, n)) (evs fa l (f, n)).1 := by
  intro l
  induction l with
  | nil => intro ty f n _ hv; exact hv
  | cons o l ih =>
    intro ty f n hok hv
    have hty := evo_n fa o f ty n
    have h1 := vty_o (fa := fa) hok.1 hv
    have h2 := ih (tyO o (ty, n)).1 (evo fa o (f, n)).1 (tyO o (ty, n)).2 hok.2 h1
    have h3 : evo fa o (f, n) = ((evo fa o (f, n)).1, (tyO o (ty, n)).2) := by rw [← hty]
    show vty (tyL l ((tyO o (ty, n)).1, (tyO o (ty, n)).2)) (evs fa l (evo fa o (f, n))).1
    rw [h3]
    exact h2
theorem c_tell_0 {d n w : Nat} {fa : Nat → Int32} {Ls : Nat → Ln} (hd : 3 ≤ d) (hw : w < 5) (oth most : Int32) : ∀ (m i : Nat) (h : pm_Hp), i + m = n → n ≤ 16 → h 18 6 = nI n → (∀ j, j < n → clsL h 19 j (Ls j) ∧ okLn (Ls j)) → (∀ k, 1 ≤ k → k ≤ 9 → h 37 (cfi k) = fa k) → ∃ h', pm_rn d kX3_tell 3 [.ref 18, .int (nI (200 + w)), .ref 37, .int oth, .int most, .int (nI i)] [] h = some (tlw fa Ls w oth most i m, h') ∧ eqi [24] h h' := by
  intro m
  induction m with
  | zero =>
    intro i h hi hn hr hl hf
    refine ⟨h, ?_, eqi.rf⟩
    rw [b_X3_tell_0_3, hr, if_neg (nI_nlt (by omega) (by omega))]
    rfl
  | succ m ih =>
    intro i h hi hn hr hl hf
    obtain ⟨⟨p0, p1, p2, a1, a2, a3, a4, a5, a6, a7, a8, a9⟩, k1, k2, k3, k4⟩ := hl i (by omega)
    have a1 : h 20 i = nI (200 + (Ls i).1) := a1
    have a2 : h 21 i = nI p0 := a2
    have a3 : h 22 i = nI p1 := a3
    have a4 : h 23 i = nI p2 := a4
    have x1 : ∀ g : pm_Hp, eqi [24] h g → g 21 i = nI p0 ∧ g 22 i = nI p1 := fun g eg => ⟨by rw [eg 21 (by decide)]; exact a2, by rw [eg 22 (by decide)]; exact a3⟩
    have runE : ∀ g : pm_Hp, eqi [24] h g → ∃ h', (pm_bd (pm_ev d 50 [.ref 18, .int (nI p0), .int (nI p1), .ref 37] g) fun r5 y5 => pm_bd (pm_ev d 298 [.int most, .int r5] y5) fun r6 y6 => pm_bd (pm_ev d 297 [.int 0, .int r6] y6) fun r7 y7 => some (r7, y7)) = some (clp most (evv fa (Ls i).2.1), h') ∧ eqi [24] h h' := fun g eg => by
      obtain ⟨h', e1, -, e3⟩ := c_run_0 (d := d) (p := p0) (q := p1) (fa := fa) (l := (Ls i).2.1) (h := g) (by omega) (by omega) k2 (cseg_eq (eg 19 (by decide)) _ _ a8) a5 (fun k a b => by rw [eg 37 (by decide)]; exact hf k a b) (by rw [k3]; omega)
      refine ⟨h', ?_, eg.tr e3⟩
      rw [e1, pm_bd_s, e_min (by omega), pm_bd_s, e_max (by omega), pm_bd_s]
      rfl
    have next : ∀ g : pm_Hp, eqi [24] h g → ∃ h', pm_rn d kX3_tell 3 [.ref 18, .int (nI (200 + w)), .ref 37, .int oth, .int most, .int (nI (i + 1))] [] g = some (tlw fa Ls w oth most (i + 1) m, h') ∧ eqi [24] h h' := fun g eg => by
      obtain ⟨h', e1, e2⟩ := ih (i + 1) g (by omega) hn (by rw [eg 18 (by decide)]; exact hr) (fun j hj => ⟨clsL_eq (fun j hj => eg (19 + j) (by simp; omega)) (hl j hj).1, (hl j hj).2⟩) (fun k a b => by rw [eg 37 (by decide)]; exact hf k a b)
      exact ⟨h', e1, eg.tr e2⟩
    rw [b_X3_tell_0_3, hr, if_pos (nI_lt (by omega) (by omega)), pm_at_c (by omega) (by omega), a1, nI_1, tlw]
    by_cases g1 : (Ls i).1 = w
    · rw [if_pos (by rw [g1]), pm_at_c (by omega) (by omega), pm_at_c (by omega) (by omega), a3, a4]
      by_cases g2 : (Ls i).2.2 = []
      · have : p1 = p2 := by rw [← a6, g2]; rfl
        rw [if_pos (by rw [this]), pm_at_c (by omega) (by omega), pm_at_c (by omega) (by omega), a2, a3, if_pos ⟨g1, Or.inl g2⟩]
        exact runE h eqi.rf
      · have hne : ¬ p1 = p2 := fun q => g2 (cln_0 (by omega))
        obtain ⟨o1, o2', o3⟩ := k4.resolve_left g2
        obtain ⟨h2, e1, e2, e3⟩ := c_run_0 (d := d) (p := p1) (q := p2) (fa := fa) (l := (Ls i).2.2) (h := h) (by omega) a7 o1 a9 a6 hf (by rw [o2']; omega)
        have e1 : pm_ev d 50 [.ref 18, .int (nI p1), .int (nI p2), .ref 37] h = some (evv fa (Ls i).2.2, h2) := e1
        rw [if_neg (fun q => hne ((nI_eq (by omega) (by omega)).mp q)), pm_at_c (by omega) (by omega), pm_at_c (by omega) (by omega), a3, a4, e1, pm_bd_s, pm_at_c (by omega) (by omega), pm_at_c (by omega) (by omega), (x1 h2 e3).1, (x1 h2 e3).2]
        rcases evv_01 e2 o2' o3 with g3 | g3
        · rw [if_pos g3, if_neg (fun q => by rcases q.2 with q | q; exact g2 q; rw [g3] at q; exact absurd q (by decide))]
          exact next h2 e3
        · rw [if_neg (by rw [g3]; decide), if_pos ⟨g1, Or.inr g3⟩]
          exact runE h2 e3
    · rw [if_neg (fun q => g1 (by have := (nI_eq (by omega) (by omega)).mp q; omega)), if_neg (fun q => g1 q.1)]
      exact next h eqi.rf
theorem c_tell_1 {d n w : Nat} {fa : Nat → Int32} {Ls : Nat → Ln} (hd : 3 ≤ d) (hw : w < 5) (oth most : Int32) : ∀ (m i : Nat) (h : pm_Hp), i + m = n → n ≤ 16 → h 25 6 = nI n → (∀ j, j < n → clsL h 26 j (Ls j) ∧ okLn (Ls j)) → (∀ k, 1 ≤ k → k ≤ 9 → h 37 (cfi k) = fa k) → ∃ h', pm_rn d kX3_tell 3 [.ref 25, .int (nI (200 + w)), .ref 37, .int oth, .int most, .int (nI i)] [] h = some (tlw fa Ls w oth most i m, h') ∧ eqi [31] h h' := by
  intro m
  induction m with
  | zero =>
    intro i h hi hn hr hl hf
    refine ⟨h, ?_, eqi.rf⟩
    rw [b_X3_tell_1_3, hr, if_neg (nI_nlt (by omega) (by omega))]
    rfl
  | succ m ih =>
    intro i h hi hn hr hl hf
    obtain ⟨⟨p0, p1, p2, a1, a2, a3, a4, a5, a6, a7, a8, a9⟩, k1, k2, k3, k4⟩ := hl i (by omega)
    have a1 : h 27 i = nI (200 + (Ls i).1) := a1
    have a2 : h 28 i = nI p0 := a2
    have a3 : h 29 i = nI p1 := a3
    have a4 : h 30 i = nI p2 := a4
    have x1 : ∀ g : pm_Hp, eqi [31] h g → g 28 i = nI p0 ∧ g 29 i = nI p1 := fun g eg => ⟨by rw [eg 28 (by decide)]; exact a2, by rw [eg 29 (by decide)]; exact a3⟩
    have runE : ∀ g : pm_Hp, eqi [31] h g → ∃ h', (pm_bd (pm_ev d 50 [.ref 25, .int (nI p0), .int (nI p1), .ref 37] g) fun r5 y5 => pm_bd (pm_ev d 298 [.int most, .int r5] y5) fun r6 y6 => pm_bd (pm_ev d 297 [.int 0, .int r6] y6) fun r7 y7 => some (r7, y7)) = some (clp most (evv fa (Ls i).2.1), h') ∧ eqi [31] h h' := fun g eg => by
      obtain ⟨h', e1, -, e3⟩ := c_run_1 (d := d) (p := p0) (q := p1) (fa := fa) (l := (Ls i).2.1) (h := g) (by omega) (by omega) k2 (cseg_eq (eg 26 (by decide)) _ _ a8) a5 (fun k a b => by rw [eg 37 (by decide)]; exact hf k a b) (by rw [k3]; omega)
      refine ⟨h', ?_, eg.tr e3⟩
      rw [e1, pm_bd_s, e_min (by omega), pm_bd_s, e_max (by omega), pm_bd_s]
      rfl
    have next : ∀ g : pm_Hp, eqi [31] h g → ∃ h', pm_rn d kX3_tell 3 [.ref 25, .int (nI (200 + w)), .ref 37, .int oth, .int most, .int (nI (i + 1))] [] g = some (tlw fa Ls w oth most (i + 1) m, h') ∧ eqi [31] h h' := fun g eg => by
      obtain ⟨h', e1, e2⟩ := ih (i + 1) g (by omega) hn (by rw [eg 25 (by decide)]; exact hr) (fun j hj => ⟨clsL_eq (fun j hj => eg (26 + j) (by simp; omega)) (hl j hj).1, (hl j hj).2⟩) (fun k a b => by rw [eg 37 (by decide)]; exact hf k a b)
      exact ⟨h', e1, eg.tr e2⟩
    rw [b_X3_tell_1_3, hr, if_pos (nI_lt (by omega) (by omega)), pm_at_c (by omega) (by omega), a1, nI_1, tlw]
    by_cases g1 : (Ls i).1 = w
    · rw [if_pos (by rw [g1]), pm_at_c (by omega) (by omega), pm_at_c (by omega) (by omega), a3, a4]
      by_cases g2 : (Ls i).2.2 = []
      · have : p1 = p2 := by rw [← a6, g2]; rfl
        rw [if_pos (by rw [this]), pm_at_c (by omega) (by omega), pm_at_c (by omega) (by omega), a2, a3, if_pos ⟨g1, Or.inl g2⟩]
        exact runE h eqi.rf
      · have hne : ¬ p1 = p2 := fun q => g2 (cln_0 (by omega))
        obtain ⟨o1, o2', o3⟩ := k4.resolve_left g2
        obtain ⟨h2, e1, e2, e3⟩ := c_run_1 (d := d) (p := p1) (q := p2) (fa := fa) (l := (Ls i).2.2) (h := h) (by omega) a7 o1 a9 a6 hf (by rw [o2']; omega)
        have e1 : pm_ev d 50 [.ref 25, .int (nI p1), .int (nI p2), .ref 37] h = some (evv fa (Ls i).2.2, h2) := e1
        rw [if_neg (fun q => hne ((nI_eq (by omega) (by omega)).mp q)), pm_at_c (by omega) (by omega), pm_at_c (by omega) (by omega), a3, a4, e1, pm_bd_s, pm_at_c (by omega) (by omega), pm_at_c (by omega) (by omega), (x1 h2 e3).1, (x1 h2 e3).2]
        rcases evv_01 e2 o2' o3 with g3 | g3
        · rw [if_pos g3, if_neg (fun q => by rcases q.2 with q | q; exact g2 q; rw [g3] at q; exact absurd q (by decide))]
          exact next h2 e3
        · rw [if_neg (by rw [g3]; decide), if_pos ⟨g1, Or.inr g3⟩]
          exact runE h2 e3
    · rw [if_neg (fun q => g1 (by have := (nI_eq (by omega) (by omega)).mp q; omega)), if_neg (fun q => g1 q.1)]
      exact next h eqi.rf
theorem m_isSo {d k i : Nat} {fa : Nat → Int32} {x : Ln} {h : pm_Hp} (hd : 3 ≤ d) (hk2 : k < 2) (hi : i < 16) (hm : modL h k i x) (ho : okLn x) (h01 : x.2.2 = [] ∨ evv fa x.2.2 = 0 ∨ evv fa x.2.2 = 1) (hf : ∀ j, 1 ≤ j → j ≤ 9 → h 179 j = fa j) : ∃ h', pm_ev d 210 [.ref 169, .int (nI k), .int (nI i)] h = some (b2 (x.2.2 = [] ∨ evv fa x.2.2 = 1), h') ∧ eqi [178] h h' := by
  obtain ⟨d, rfl, -⟩ := dpos hd
  obtain ⟨m0, m1, m2, a1, a2, a3, a4, a5, a6, a7, a8, a9⟩ := hm
  obtain ⟨k1, k2, k3, k4⟩ := ho
  rw [e_X10_isSo, pm_at_n (j := 940 + 16 * k + i) (by simp only [pk_mul, nI_add]) (by omega) (by omega), pm_at_n (j := 908 + 16 * k + i) (by simp only [pk_mul, nI_add]) (by omega) (by omega), pm_at_n (j := 908 + 16 * k + i) (by simp only [pk_mul, nI_add]) (by omega) (by omega), pm_at_n (j := 940 + 16 * k + i) (by simp only [pk_mul, nI_add]) (by omega) (by omega), a3, a4]
  by_cases g2 : x.2.2 = []
  · have : m1 = m2 := by rw [← a6, g2]; rfl
    refine ⟨h, ?_, eqi.rf⟩
    rw [if_pos (by rw [this]), b2_t (Or.inl g2)]
  · have hne : ¬ m2 = m1 := fun q => g2 (List.length_eq_zero_iff.mp (by omega))
    obtain ⟨o1, o2', o3⟩ := k4.resolve_left g2
    obtain ⟨h2, e1, e3⟩ := m_comesTo (d := d) (p := m1) (q := m2) (k := k) (fa := fa) (l := x.2.2) (h := h) (by omega) hk2 a7 o1 a9 a6 hf (by rw [o2']; omega)
    have e1 : pm_ev d 209 [.ref 169, .int (nI k), .int (nI m1), .int (nI m2)] h = some (evv fa x.2.2, h2) := e1
    refine ⟨h2, ?_, e3⟩
    rw [if_neg (fun q => hne ((nI_eq (by omega) (by omega)).mp q)), e1, pm_bd_s]
    by_cases g3 : evv fa x.2.2 = 1
    · rw [if_pos g3, b2_t (Or.inr g3)]
    · rw [if_neg g3, b2_f (fun q => q.elim g2 g3)]
theorem m_saysL {d n w k : Nat} {fa : Nat → Int32} {Ls : Nat → Ln} (hd : 4 ≤ d) (hk2 : k < 2) (hw : w < 5) (oth most : Int32) : ∀ (m i : Nat) (h : pm_Hp), i + m = n → n ≤ 16 → h 170 (329 + k) = nI n → (∀ j, j < n → modL h k j (Ls j) ∧ okLn (Ls j)) → (∀ j, 1 ≤ j → j ≤ 9 → h 179 j = fa j) → ∃ h', pm_rn d kX10_says 6 [.ref 169, .int (nI k), .int (nI (20 + w)), .int oth, .int most, .int (nI (16 * k + i))] [] h = some (tlw fa Ls w oth most i m, h') ∧ eqi [178] h h' := by
  intro m
  induction m with
  | zero =>
    intro i h hi hn hr hl hf
    refine ⟨h, ?_, eqi.rf⟩
    rw [b_X10_says_6, pm_at_n (j := 329 + k) (by rw [nI_add]) (by omega) (by omega), hr, pk_mul, nI_add, if_neg (nI_nlt (by omega) (by omega))]
    rfl
  | succ m ih =>
    intro i h hi hn hr hl hf
    obtain ⟨hm, ho⟩ := hl i (by omega)
    have hm0 := hm
    obtain ⟨m0, m1, m2, a1, a2, a3, a4, a5, a6, a7, a8, a9⟩ := hm
    have hko := ho
    obtain ⟨k1, k2, k3, k4⟩ := ho
    have next : ∀ g : pm_Hp, eqi [178] h g → ∃ h', pm_rn d kX10_says 6 [.ref 169, .int (nI k), .int (nI (20 + w)), .int oth, .int most, .int (nI (16 * k + i + 1))] [] g = some (tlw fa Ls w oth most (i + 1) m, h') ∧ eqi [178] h h' := fun g eg => by
      obtain ⟨h', e1, e2⟩ := ih (i + 1) g (by omega) hn (by rw [eg 170 (by decide)]; exact hr) (fun j hj => ⟨modL_eq (eg 170 (by decide)) (hl j hj).1, (hl j hj).2⟩) (fun j a b => by rw [eg 179 (by decide)]; exact hf j a b)
      exact ⟨h', e1, eg.tr e2⟩
    rw [b_X10_says_6, pm_at_n (j := 329 + k) (by rw [nI_add]) (by omega) (by omega), hr, pk_mul, nI_add, if_pos (nI_lt (by omega) (by omega)), pm_at_n (j := 972 + 16 * k + i) (by rw [nI_add]; congr 1; omega) (by omega) (by omega), a1, nI_1, pk_sub (by omega), show 16 * k + i - 16 * k = i by omega, tlw]
    by_cases g1 : (Ls i).1 = w
    · rw [if_pos (by rw [g1])]
      have h01 : (Ls i).2.2 = [] ∨ evv fa (Ls i).2.2 = 0 ∨ evv fa (Ls i).2.2 = 1 := by
        rcases k4 with k4 | ⟨o1, o2', o3⟩
        · exact Or.inl k4
        · exact Or.inr (evv_01 (evs_vty fa _ _ _ _ o1 (fun i hi => absurd hi (Nat.not_lt_zero i))) o2' o3)
      obtain ⟨h2, e1, e2⟩ := m_isSo (d := d) (fa := fa) (by omega) hk2 (by omega) hm0 hko h01 hf
      rw [e1, pm_bd_s, b2_if0]
      by_cases g2 : (Ls i).2.2 = [] ∨ evv fa (Ls i).2.2 = 1
      · rw [if_pos g2, if_pos ⟨g1, g2⟩, pm_at_n (j := 876 + 16 * k + i) (by rw [nI_add]; congr 1; omega) (by omega) (by omega), pm_at_n (j := 908 + 16 * k + i) (by rw [nI_add]; congr 1; omega) (by omega) (by omega), e2 170 (by decide), a2, a3]
        obtain ⟨h3, f1, f3⟩ := m_comesTo (d := d) (p := m0) (q := m1) (k := k) (fa := fa) (l := (Ls i).2.1) (h := h2) (by omega) hk2 (by omega) k2 (mseg_eq (e2 170 (by decide)) _ _ a8) a5 (fun j a b => by rw [e2 179 (by decide)]; exact hf j a b) (by rw [k3]; omega)
        have f1 : pm_ev d 209 [.ref 169, .int (nI k), .int (nI m0), .int (nI m1)] h2 = some (evv fa (Ls i).2.1, h3) := f1
        refine ⟨h3, ?_, e2.tr f3⟩
        rw [f1, pm_bd_s, m_lesser (by omega), pm_bd_s, m_greater (by omega), pm_bd_s, clp_m]
      · rw [if_neg g2, if_neg (fun q => g2 q.2)]
        exact next h2 e2
    · rw [if_neg (fun q => g1 (by have := (nI_eq (by omega) (by omega)).mp q; omega)), if_neg (fun q => g1 q.1)]
      exact next h eqi.rf
