/-! MENDING -/
theorem clp_nb {m : Nat} (hm : m < 2 ^ 29) (x : Int32) : nb (clp (nI m) x) m := by
  unfold clp
  by_cases g : x < nI m
  · rw [if_pos g]
    by_cases g0 : 0 < x
    · rw [if_pos g0]; exact kd_ex hm ⟨Int32.not_lt.mpr (Int32.le_of_lt g0), Int32.le_of_lt g⟩
    · rw [if_neg g0]; exact ⟨0, Nat.zero_le _, rfl⟩
  · rw [if_neg g]
    by_cases g0 : 0 < nI m
    · rw [if_pos g0]; exact ⟨m, Nat.le_refl _, rfl⟩
    · rw [if_neg g0]; exact ⟨0, Nat.zero_le _, rfl⟩
theorem tlw_nb {fa : Nat → Int32} {Ls : Nat → Ln} {w m : Nat} {oth : Int32} (hm : m < 2 ^ 29) (ho : nb oth m) : ∀ (n i : Nat), nb (tlw fa Ls w oth (nI m) i n) m := by
  intro n
  induction n with
  | zero => intro i; exact ho
  | succ n ih =>
    intro i
    unfold tlw
    by_cases g : (Ls i).1 = w ∧ ((Ls i).2.2 = [] ∨ evv fa (Ls i).2.2 = 1)
    · rw [if_pos g]; exact clp_nb hm _
    · rw [if_neg g]; exact ih (i + 1)
def msm (f : Nat → Int32) : Nat → Int32 → Int32
  | 0, s => s
  | k + 1, s => msm f k (s + f (k + 1))
theorem msm_nb {f : Nat → Int32} (hf : ∀ k, nb (f k) 9999) : ∀ (k c : Nat) (s : Int32), nb s c → nb (msm f k s) (c + k * 9999) := by
  intro k
  induction k with
  | zero => intro c s hs; exact nb_le hs (by omega)
  | succ k ih =>
    intro c s hs
    obtain ⟨a, ha, rfl⟩ := hs
    obtain ⟨b, hb, e⟩ := hf (k + 1)
    show nb (msm f k (nI a + f (k + 1))) _
    rw [e, nI_add]
    exact nb_le (ih (a + b) _ ⟨a + b, Nat.le_refl _, rfl⟩) (by omega)
theorem nI_prd (k : Nat) : nI (k + 1) + -1 = nI k := by
  rw [← nI_1, Int32.add_assoc, show (1 : Int32) + -1 = 0 from rfl, Int32.add_zero]
theorem nI_le0 {k : Nat} (hk : k < 2 ^ 31) : nI k ≤ 0 ↔ k = 0 := by
  have := nI_leI (a := k) (b := 0) hk (by omega)
  rw [show nI 0 = 0 from rfl] at this
  rw [this]
  omega
/-- a step of mending, and all -/
abbrev mst (w : Nat → Int32) (n0 : Nat) (L0 : Nat → Ln) (t : Nat) (k : Nat) : Int32 := tlw (fct w t 0 0 0 0 (nI k)) L0 1 (nI 5) (nI 9999) 0 n0
def mal (w : Nat → Int32) (n0 : Nat) (L0 : Nat → Ln) (t : Nat) : Int32 := msm (mst w n0 L0 t) (w (4 + 20 * t + 3)).toNatClampNeg 0
abbrev mb (h : pm_Hp) (t : Nat) : Prop := ¬ wq h t 3 ≤ 0 ∧ ¬ aw h t
theorem mal_at {h : pm_Hp} {n0 : Nat} {L0 : Nat → Ln} {t k : Nat} (e : wq h t 3 = nI k) (hk : k ≤ 9) : mal (h 170) n0 L0 t = msm (mst (h 170) n0 L0 t) k 0 := by
  unfold mal
  rw [show h 170 (4 + 20 * t + 3) = nI k from e, nI_clamp (by omega)]
theorem mal_m1 {h : pm_Hp} {n0 : Nat} {L0 : Nat → Ln} {t : Nat} (W : WT h t) : ¬ mal (h 170) n0 L0 t = -1 ∧ nb (mal (h 170) n0 L0 t) 99999 := by
  obtain ⟨k, hk, e⟩ := W.2.2.2.1
  rw [mal_at e hk]
  have := msm_nb (f := mst (h 170) n0 L0 t) (fun j => tlw_nb (by omega) ⟨5, by omega, rfl⟩ n0 0) k 0 0 ⟨0, by omega, rfl⟩
  obtain ⟨b, hb, e2⟩ := this
  rw [e2, nI_m1 (by omega)]
  exact ⟨id, b, by omega, rfl⟩
theorem c_pmIn {d T R A n0 n1 : Nat} {L0 L1 : Nat → Ln} {h : pm_Hp} (hd : 5 ≤ d) (S : St T R A n0 n1 L0 L1 h) {t : Nat} (ht : t < T) : ∀ (k : Nat) (s : Int32) (g : pm_Hp), k ≤ 9 → eqi [24, 37, 38] h g → ∃ g', pm_rn d kX1_priceMending 49 [.ref 1, .int (nI t), .int s, .int (nI k)] [] g = pm_rn d kX1_priceMending 2 [.ref 1, .int (nI (t + 1)), .int (msm (mst (h 170) n0 L0 t) k s), .int 0] [] (pm_up g' 38 t (msm (mst (h 170) n0 L0 t) k s)) ∧ eqi [24, 37] g g' := by
  have hT := S.1.1
  intro k
  induction k with
  | zero =>
    intro s g _ hg
    refine ⟨g, ?_, eqi.rf⟩
    rw [b_X1_priceMending_49, if_pos (by decide), pm_at_c (by omega) (by omega), nI_1]
    rfl
  | succ k ih =>
    intro s g hk hg
    have S' := S.scr (hg.mono (by decide) : eqi SCR h g)
    obtain ⟨y, e1, e2⟩ := c_mendPrice (d := d) hd S'.1 S'.2.2.2.1 ht (nI (k + 1))
    rw [b_X1_priceMending_49, if_neg (fun q => by have := (nI_le0 (by omega)).mp q; omega), e1, pm_bd_s, nI_prd, hg 170 (by decide)]
    obtain ⟨g', f1, f2⟩ := ih (s + mst (h 170) n0 L0 t (k + 1)) y (by omega) (hg.tr (e2.mono (by decide)))
    exact ⟨g', f1, e2.tr f2⟩
theorem c_priceMending {d T R A n0 n1 : Nat} {L0 L1 : Nat → Ln} {h : pm_Hp} (hd : 7 ≤ d) (S : St T R A n0 n1 L0 L1 h) : ∃ h', pm_ev d 34 [.ref 1] h = some (0, h') ∧ eqi [24, 37, 38] h h' ∧ ∀ t, t < T → h' 38 t = if mb h t then mal (h 170) n0 L0 t else -1 := by
  obtain ⟨d, rfl, -⟩ := dpos hd
  have hT := S.1.1
  rw [e_X1_priceMending]
  have key : ∀ (n i : Nat) (u v : Value) (g : pm_Hp), i + n = T → eqi [24, 37, 38] h g → (∀ t, t < i → g 38 t = if mb h t then mal (h 170) n0 L0 t else -1) → ∃ h', pm_rn d kX1_priceMending 2 [.ref 1, .int (nI i), u, v] [] g = some (0, h') ∧ eqi [24, 37, 38] h h' ∧ ∀ t, t < T → h' 38 t = if mb h t then mal (h 170) n0 L0 t else -1 := by
    intro n
    induction n with
    | zero =>
      intro i u v g hi hg hv
      have hi : i = T := by omega
      subst hi
      refine ⟨g, ?_, hg, hv⟩
      rw [b_X1_priceMending_2, hg 1 (by decide), S.1.2.2.2.1, if_neg (nI_nlt (by omega) (by omega))]
    | succ n ih =>
      intro i u v g hi hg hv
      have hi' : i < T := by omega
      have S' := S.scr (hg.mono (by decide) : eqi SCR h g)
      have e170 : g 170 = h 170 := hg 170 (by decide)
      have r3 : g 4 i = wq h i 3 := by rw [hg 4 (by decide)]; exact S.1.2.2.2.2.2.2.1 i 3 hi' (by omega) (by omega)
      obtain ⟨k, hk, ek⟩ := (S.2.2.1 i hi').2.2.2.1
      rw [b_X1_priceMending_2, S'.1.2.2.2.1, if_pos (nI_lt hi' (by omega)), pm_at_c (by omega) (by omega), pm_at_c (by omega) (by omega), r3, nI_1]
      have hg1 : eqi [24, 37, 38] h (pm_up g 38 i (-1)) := hg.up (by decide)
      have S1 := S.scr (hg1.mono (by decide) : eqi SCR h _)
      have v1 : ¬ mb h i → ∀ t, t < i + 1 → pm_up g 38 i (-1) 38 t = if mb h t then mal (h 170) n0 L0 t else -1 := fun hm t ht => by
        by_cases e : t = i
        · subst e; rw [pm_up_s, if_neg hm]
        · rw [pm_up_j e]; exact hv t (by omega)
      by_cases c1 : wq h i 3 ≤ 0
      · rw [if_pos c1]
        exact ih (i + 1) _ _ _ (by omega) hg1 (v1 (fun q => q.1 c1))
      · rw [if_neg c1, c_isAway (by omega) S1.1 hi', pm_bd_s, b2_if0]
        have ea : aw (pm_up g 38 i (-1)) i ↔ aw h i := by rw [aw_eq (hg1 170 (by decide))]
        by_cases c2 : aw h i
        · rw [if_pos (ea.mpr c2)]
          exact ih (i + 1) _ _ _ (by omega) hg1 (v1 (fun q => q.2 c2))
        · rw [if_neg (fun q => c2 (ea.mp q)), pm_at_c (by omega) (by omega)]
          have : pm_up g 38 i (-1) 4 i = nI k := by rw [pm_up_k (by decide), r3, ek]
          rw [this]
          obtain ⟨g', f1, f2⟩ := c_pmIn (d := d) (by omega) S hi' k 0 _ hk hg1
          rw [f1]
          refine ih (i + 1) _ _ _ (by omega) ((hg1.tr (f2.mono (by decide))).up (by decide)) (fun t ht => ?_)
          by_cases e : t = i
          · subst e; rw [pm_up_s, if_pos ⟨c1, c2⟩, mal_at ek hk]
          · rw [pm_up_j e, f2 38 (by decide), pm_up_j e]; exact hv t (by omega)
  exact key T 0 _ _ h (by omega) eqi.rf (fun t ht => absurd ht (Nat.not_lt_zero t))
theorem m_maIn {d T R A n0 n1 : Nat} {L0 L1 : Nat → Ln} {h : pm_Hp} (hd : 5 ≤ d) (S : St T R A n0 n1 L0 L1 h) {t : Nat} : ∀ (k : Nat) (s : Int32) (u : Value) (g : pm_Hp), k ≤ 9 → eqi SCR h g → (∀ j, 1 ≤ j → j ≤ 9 → j ≠ 6 → g 179 j = fct (h 170) t 0 0 0 0 0 j) → ∃ g', pm_rn d kX10_mendAll 15 [.ref 169, u, .int s, .int (nI k)] [] g = some (msm (mst (h 170) n0 L0 t) k s, g') ∧ eqi [178, 179] g g' := by
  intro k
  induction k with
  | zero =>
    intro s u g _ hg hf
    refine ⟨g, ?_, eqi.rf⟩
    rw [b_X10_mendAll_15, if_pos (by decide)]
    rfl
  | succ k ih =>
    intro s u g hk hg hf
    have hg1 : eqi SCR h (pm_up g 179 6 (nI (k + 1))) := hg.up (by decide)
    have S' := S.scr hg1
    obtain ⟨y, e1, e2⟩ := m_says (d := d) (k := 0) (w := 1) (fa := fct (h 170) t 0 0 0 0 (nI (k + 1))) (by omega) (by omega) (by omega) S'.2.2.2.1 (fun j h1 h9 => by
      by_cases e : j = 6
      · subst e; rw [pm_up_s]; rfl
      · rw [pm_up_j e, hf j h1 h9 e]
        unfold fct
        simp [e]) (nI 5) (nI 9999)
    have e1 : pm_ev d 211 [.ref 169, .int 0, .int (nI 21), .int (nI 5), .int (nI 9999)] _ = _ := e1
    rw [b_X10_mendAll_15, if_neg (fun q => by have := (nI_le0 (by omega)).mp q; omega), e1, pm_bd_s, nI_prd]
    obtain ⟨g', f1, f2⟩ := ih (s + mst (h 170) n0 L0 t (k + 1)) u y (by omega) (hg1.tr (e2.mono (by decide))) (fun j h1 h9 h6 => by rw [e2 179 (by decide), pm_up_j h6]; exact hf j h1 h9 h6)
    exact ⟨g', f1, (((eqi.rf.up (by decide)).tr (e2.mono (by decide)) : eqi [178, 179] g y)).tr f2⟩
theorem m_mendAll {d T R A n0 n1 : Nat} {L0 L1 : Nat → Ln} {h : pm_Hp} (hd : 7 ≤ d) (S : St T R A n0 n1 L0 L1 h) {t : Nat} (ht : t < T) : ∃ h', pm_ev d 278 [.ref 169, .int (nI t)] h = some (mal (h 170) n0 L0 t, h') ∧ eqi [178, 179] h h' := by
  obtain ⟨d, rfl, -⟩ := dpos hd
  have hT := S.1.1
  obtain ⟨k, hk, ek⟩ := (S.2.2.1 t ht).2.2.2.1
  obtain ⟨h1, e1, e2, e3⟩ := m_lays (d := d) (h := h) (by omega) (show t < 16 by omega) 0
  have s1 : eqi SCR h h1 := e2.mono (by decide)
  rw [e_X10_mendAll, e1, pm_bd_s, m_of0 (by omega) h1 (nI t) (nI 3) t 3 rfl rfl (by omega) (by omega), pm_bd_s, wq_eq (e2 170 (by decide)), ek, mal_at ek hk]
  obtain ⟨g', f1, f2⟩ := m_maIn (d := d) (t := t) (by omega) S k 0 (.int (nI t)) h1 hk s1 (fun j h1 h9 h6 => by
    rw [e3 j h1 h9]
    unfold fct
    simp [h6])
  exact ⟨g', f1, (e2.mono (by decide)).tr f2⟩
