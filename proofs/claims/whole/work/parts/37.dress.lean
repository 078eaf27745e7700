/-! nothing of the state is in the scratch rows -/
theorem wq_eq {h h' : pm_Hp} (e : h' 170 = h 170) (t f : Nat) : wq h' t f = wq h t f := by show h' 170 _ = h 170 _; rw [e]
theorem pa_eq {h h' : pm_Hp} (e : h' 170 = h 170) (t : Nat) : pa h' t = pa h t := by
  unfold pa
  simp only [wq_eq e]
theorem ou_eq {h h' : pm_Hp} (e : h' 170 = h 170) : ∀ (n t : Nat), ou h' n t = ou h n t := by
  intro n
  induction n with
  | zero => intro t; rfl
  | succ n ih =>
    intro t
    unfold ou
    rw [pa_eq e]
    cases pa h t with
    | none => rfl
    | some p => exact ih p
theorem aw_eq {h h' : pm_Hp} (e : h' 170 = h 170) (t : Nat) : aw h' t = aw h t := by
  unfold aw
  rw [ou_eq e, wq_eq e]
theorem inH_eq {h h' : pm_Hp} (e : h' 170 = h 170) (v : Int32) : ∀ (n t : Nat), inH h' v n t = inH h v n t := by
  intro n
  induction n with
  | zero => intro t; rfl
  | succ n ih =>
    intro t
    rw [inH, inH, pa_eq e, wq_eq e]
    cases pa h t with
    | none => rfl
    | some p => simp only [ih p]
theorem clo_eq {h h' : pm_Hp} (e : h' 170 = h 170) (t a : Nat) : clo h' t a = clo h t a := by
  unfold clo
  rw [wq_eq e, aw_eq e, e]
theorem WT.eq {h h' : pm_Hp} {t : Nat} (e : h' 170 = h 170) (W : WT h t) : WT h' t := by
  unfold WT at W ⊢
  simp only [wq_eq e]
  exact W
theorem AC.eq {A : Nat} {h h' : pm_Hp} (e : h' 170 = h 170) (e1 : h' 1 = h 1) (e14 : h' 14 = h 14) (Q : AC A h) : AC A h' := by
  unfold AC at Q ⊢
  rw [e, e1, e14]
  exact Q
theorem Pl.eq {T R : Nat} {h h' : pm_Hp} (e : h' 170 = h 170) (e1 : h' 1 = h 1) (e15 : h' 15 = h 15) (ef : ∀ f, f < 20 → f ≠ 9 → h' (ta f) = h (ta f)) (P : Pl T R h) : Pl T R h' := by
  obtain ⟨p1, p2, p3, p4, p5, p6, p7, p8, p9, rk, p10⟩ := P
  refine ⟨p1, p2, by rw [e]; exact p3, by rw [e1]; exact p4, by rw [e]; exact p5, by rw [e1]; exact p6, fun t f ht hf h9 => ?_, by rw [e, e15]; exact p8, fun t ht => ?_, rk, ?_⟩
  · rw [wq_eq e, ef f hf h9]; exact p7 t f ht hf h9
  · unfold HD
    simp only [wq_eq e]
    exact p9 t ht
  · unfold RK at p10 ⊢
    simp only [wq_eq e]
    exact p10
theorem ta_in : ∀ f, f < 20 → f ≠ 9 → ta f ∈ [3, 4, 5, 6, 7, 8, 9, 10, 11, 12, 13] := by decide +kernel
/-- ids that hold no state -/
abbrev SCR : List Nat := [24, 31, 37, 38, 165, 166, 167, 168, 178, 179, 183, 184]
theorem Pl.scr {T R : Nat} {h h' : pm_Hp} (e : eqi SCR h h') (P : Pl T R h) : Pl T R h' := P.eq (e 170 (by decide)) (e 1 (by decide)) (e 15 (by decide)) (fun f hf h9 => e _ ((by decide : ∀ k ∈ [3, 4, 5, 6, 7, 8, 9, 10, 11, 12, 13], k ∉ SCR) _ (ta_in f hf h9)))
theorem AC.scr {A : Nat} {h h' : pm_Hp} (e : eqi SCR h h') (Q : AC A h) : AC A h' := Q.eq (e 170 (by decide)) (e 1 (by decide)) (e 14 (by decide))
theorem WT.scr {t : Nat} {h h' : pm_Hp} (e : eqi SCR h h') (W : WT h t) : WT h' t := W.eq (e 170 (by decide))
theorem Pl.eq183 {T R : Nat} {h h' : pm_Hp} (P : Pl T R h) (e : eqi [183] h h') : Pl T R h' := P.scr (e.mono (by decide))
theorem AC.eq183 {A : Nat} {h h' : pm_Hp} (Q : AC A h) (e : eqi [183] h h') : AC A h' := Q.scr (e.mono (by decide))
theorem WT.eq183 {t : Nat} {h h' : pm_Hp} (W : WT h t) (e : eqi [183] h h') : WT h' t := W.scr (e.mono (by decide))
theorem drb_eq (h : pm_Hp) (t : Nat) {A : Nat} (hA : A ≤ 30) : drb h A t = nI (sof (fun a => decide (clo h t a)) A) := by
  rw [← itr_sof _ A hA]
  unfold drb
  apply itr_cg
  intro j a _ _
  by_cases g : clo h t j
  · rw [if_pos g, if_pos (by simp [g])]
  · rw [if_neg g, if_neg (by simp [g])]
theorem sof_or (p q : Nat → Bool) (n : Nat) : sof p n ||| sof q n = sof (fun a => p a || q a) n := by
  apply Nat.eq_of_testBit_eq
  intro i
  rw [Nat.testBit_or, sof_bit, sof_bit, sof_bit]
  cases decide (i < n) <;> simp
theorem sof_cg {p q : Nat → Bool} {n : Nat} (h : ∀ a, a < n → p a = q a) : sof p n = sof q n := by
  apply Nat.eq_of_testBit_eq
  intro i
  rw [sof_bit, sof_bit]
  by_cases g : i < n
  · simp [g, h i g]
  · simp [g]
/-- the model's row of who is dressed -/
theorem m_ldIn {d T R A t : Nat} {h : pm_Hp} (hd : 5 ≤ d) (P : Pl T R h) (Q : AC A h) (W : WT h t) (ht : t < T) : ∀ (n i : Nat) (g : pm_Hp), i + n = A → eqi [183] h g → g 183 t = itr (fun a s => if clo h t a then s ||| pm_shl 1 (nI a) else s) 0 i 0 → ∃ g', pm_rn d kX10_laysDressed 23 [.ref 169, .int (nI t), .int (nI i)] [] g = pm_rn d kX10_laysDressed 2 [.ref 169, .int (nI (t + 1)), .int (nI A)] [] g' ∧ eqi [183] h g' ∧ g' 183 t = drb h A t ∧ ∀ k, k ≠ t → g' 183 k = g 183 k := by
  have hT := P.1
  have hA := Q.1
  intro n
  induction n with
  | zero =>
    intro i g hi hg hv
    have hi : i = A := by omega
    subst hi
    refine ⟨g, ?_, hg, hv, fun _ _ => rfl⟩
    rw [b_X10_laysDressed_23, hg 170 (by decide), Q.2.1, if_neg (nI_nlt (by omega) (by omega)), nI_1]
  | succ n ih =>
    intro i g hi hg hv
    have e170 : g 170 = h 170 := hg 170 (by decide)
    have Pg : Pl T R g := P.eq183 hg
    have Qg : AC A g := Q.eq183 hg
    have Wg : WT g t := W.eq183 hg
    have eaw : aw g t = aw h t := aw_eq e170 t
    rw [b_X10_laysDressed_23, e170, Q.2.1, if_pos (nI_lt (by omega) (by omega)), pm_at_c (by omega) (by omega), m_isTrunk_y (by omega) Pg ht, pm_bd_s, b2_if0, m_isOut (by omega) Pg ht, pm_bd_s, b2_if0, m_fitsTo (by omega) Qg Wg (by omega) (by omega), pm_bd_s, pm_at_c (by omega) (by omega), pm_at_c (by omega) (by omega), nI_1, hv, e170, Int32.or_zero]
    have fin : ∀ x : Int32, x = (if clo h t i then (itr (fun a s => if clo h t a then s ||| pm_shl 1 (nI a) else s) 0 i 0) ||| pm_shl 1 (nI i) else itr (fun a s => if clo h t a then s ||| pm_shl 1 (nI a) else s) 0 i 0) → ∃ g', pm_rn d kX10_laysDressed 23 [.ref 169, .int (nI t), .int (nI (i + 1))] [] (pm_up g 183 t x) = pm_rn d kX10_laysDressed 2 [.ref 169, .int (nI (t + 1)), .int (nI A)] [] g' ∧ eqi [183] h g' ∧ g' 183 t = drb h A t ∧ ∀ k, k ≠ t → g' 183 k = g 183 k := fun x hx => by
      obtain ⟨g', f1, f2, f3, f4⟩ := ih (i + 1) (pm_up g 183 t x) (by omega) (hg.up (by decide)) (by rw [pm_up_s, hx, itr_add _ i 1 0 0, Nat.zero_add]; rfl)
      exact ⟨g', f1, f2, f3, fun k hk => (f4 k hk).trans (pm_up_j hk)⟩
    have k0 : (wq g t 0 = nI 5) = (wq h t 0 = nI 5) := by show (g 170 _ = _) = _; rw [e170]
    by_cases c1 : wq h t 0 = nI 5
    · rw [if_pos (by rw [k0]; exact c1)]
      exact fin _ (by rw [if_neg (fun q => q.1 c1)])
    · rw [if_neg (by rw [k0]; exact c1)]
      by_cases c2 : aw h t
      · rw [if_pos (by rw [eaw]; exact c2)]
        exact fin _ (by rw [if_neg (fun q => q.2.1 c2)])
      · rw [if_neg (by rw [eaw]; exact c2)]
        by_cases c3 : fit (h 170) t i = 1
        · rw [if_pos c3]
          exact fin _ (by rw [if_pos ⟨c1, c2, c3⟩])
        · rw [if_neg c3]
          exact fin _ (by rw [if_neg (fun q => c3 q.2.2)])
theorem m_laysDressed {d T R A : Nat} {h : pm_Hp} (hd : 6 ≤ d) (P : Pl T R h) (Q : AC A h) (W : ∀ t, t < T → WT h t) : ∃ h', pm_ev d 273 [.ref 169] h = some (0, h') ∧ eqi [183] h h' ∧ ∀ t, t < T → h' 183 t = drb h A t := by
  obtain ⟨d, rfl, -⟩ := dpos hd
  have hT := P.1
  rw [e_X10_laysDressed]
  have key : ∀ (n i : Nat) (g : pm_Hp) (u : Value), i + n = T → eqi [183] h g → (∀ t, t < i → g 183 t = drb h A t) → ∃ g', pm_rn d kX10_laysDressed 2 [.ref 169, .int (nI i), u] [] g = some (0, g') ∧ eqi [183] h g' ∧ ∀ t, t < T → g' 183 t = drb h A t := by
    intro n
    induction n with
    | zero =>
      intro i g u hi hg hv
      have hi : i = T := by omega
      subst hi
      refine ⟨g, ?_, hg, hv⟩
      rw [b_X10_laysDressed_2, hg 170 (by decide), P.2.2.1, if_neg (nI_nlt (by omega) (by omega))]
    | succ n ih =>
      intro i g u hi hg hv
      rw [b_X10_laysDressed_2, hg 170 (by decide), P.2.2.1, if_pos (nI_lt (by omega) (by omega)), pm_at_c (by omega) (by omega)]
      obtain ⟨g', f1, f2, f3, f4⟩ := m_ldIn (d := d) (by omega) P Q (W i (by omega)) (by omega) A 0 (pm_up g 183 i 0) (by omega) (hg.up (by decide)) pm_up_s
      have f1 : pm_rn d kX10_laysDressed 23 [.ref 169, .int (nI i), .int 0] [] (pm_up g 183 i 0) = _ := f1
      rw [f1]
      refine ih (i + 1) g' _ (by omega) f2 (fun t ht => ?_)
      by_cases e : t = i
      · subst e; exact f3
      · rw [f4 t e, pm_up_j e]
        exact hv t (by omega)
  exact key T 0 h _ (by omega) eqi.rf (fun t ht => absurd ht (Nat.not_lt_zero t))
