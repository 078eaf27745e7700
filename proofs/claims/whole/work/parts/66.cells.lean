/-! the cells that the state stands on -/
def cel (k j : Nat) : Bool := if k = 170 then decide (j < 2684) else if k = 1 then decide (11 ≤ j ∧ j < 15) else if k = 2 then decide (8 ≤ j ∧ j < 12) else if k = 10 ∨ k = 13 then decide (j < 80) else if 3 ≤ k ∧ k ≤ 12 then decide (j < 16) else if k = 14 then decide (j < 30) else if k = 15 then decide (j < 4) else if k = 16 then decide (j < 480) else if k = 17 then decide (j < 40) else if k = 18 ∨ k = 25 then decide (j = 6) else if k = 19 ∨ k = 26 then decide (j < 400) else if (20 ≤ k ∧ k ≤ 23) ∨ (27 ≤ k ∧ k ≤ 30) then decide (j < 16) else if k = 32 then decide (j = 4 ∨ j = 5) else if 33 ≤ k ∧ k ≤ 36 then decide (j < 6) else false
def agF (h h' : pm_Hp) : Prop := ∀ k j, cel k j = true → h' k j = h k j
theorem agF.w {h h' : pm_Hp} (a : agF h h') {j : Nat} (hj : j < 2684) : h' 170 j = h 170 j := a 170 j (by simp [cel, hj])
theorem agF.s {h h' : pm_Hp} (a : agF h h') : agS h h' := by
  refine ⟨fun j hj => a.w (by omega), ⟨a.w (by omega), a.w (by omega)⟩, fun r hr => a.w (by omega), ⟨a 1 11 (by decide), a 1 13 (by decide)⟩, fun r hr => a 15 r (by simp [cel, hr]), fun j h1 h2 => a 2 j (by simp [cel, h1, h2]), fun k j h1 h2 h3 h4 => a k j ?_, fun j hj => ⟨a 10 j (by simp [cel, hj]), a 13 j (by simp [cel, hj])⟩, fun j hj => a 14 j (by simp [cel, hj])⟩
  unfold cel
  rw [if_neg (by omega), if_neg (by omega), if_neg (by omega), if_neg (by omega), if_pos (by omega)]
  exact decide_eq_true h4
theorem cseg_cg {h h' : pm_Hp} {c : Nat} (e : ∀ j, j < 400 → h' c j = h c j) : ∀ (l : List Op) (p : Nat), p + cln l ≤ 400 → cseg h c p l → cseg h' c p l
  | [], _, _, _ => trivial
  | o :: l, p, hp, q => by
    have hp : p + (eln o + cln l) ≤ 400 := hp
    exact ⟨fun i hi => by rw [e _ (by omega)]; exact q.1 i hi, cseg_cg e l _ (by omega) q.2⟩
theorem LW.cg {k n : Nat} {Ls : Nat → Ln} {h h' : pm_Hp} (hk : k < 2) (e : ∀ j, j < 2684 → h' 170 j = h 170 j) (e2 : h' (18 + 7 * k) 6 = h (18 + 7 * k) 6) (e3 : ∀ j, j < 400 → h' (19 + 7 * k) j = h (19 + 7 * k) j) (e4 : ∀ r j, 1 ≤ r → r ≤ 4 → j < 16 → h' (19 + 7 * k + r) j = h (19 + 7 * k + r) j) (a : LW k n Ls h) : LW k n Ls h' := by
  obtain ⟨a1, a2, a3, a4⟩ := a
  refine ⟨by rw [e2]; exact a1, by rw [e _ (by omega)]; exact a2, a3, fun j hj => ⟨?_, modL_rg hk (by omega) (fun i h1 h2 => e i (by omega)) (a4 j hj).2.1, (a4 j hj).2.2⟩⟩
  obtain ⟨p0, p1, p2, b1, b2, b3, b4, b5, b6, b7, b8, b9⟩ := (a4 j hj).1
  exact ⟨p0, p1, p2, by rw [e4 1 j (by omega) (by omega) (by omega)]; exact b1, by rw [e4 2 j (by omega) (by omega) (by omega)]; exact b2, by rw [e4 3 j (by omega) (by omega) (by omega)]; exact b3, by rw [e4 4 j (by omega) (by omega) (by omega)]; exact b4, b5, b6, b7, cseg_cg e3 _ _ (by omega) b8, cseg_cg e3 _ _ (by omega) b9⟩
theorem FS.ag {T R A n0 n1 q N M : Nat} {L0 L1 : Nat → Ln} {h h' : pm_Hp} (a : agF h h') (F : FS T R A n0 n1 q N M L0 L1 h) : FS T R A n0 n1 q N M L0 L1 h' := by
  obtain ⟨f1, f2, f3, f4, f5, f6, f7⟩ := F
  have w := fun j hj => agF.w a (j := j) hj
  refine ⟨f1.ag a.s, f2.rg (fun j h1 h2 => w j (by omega)) (w _ (by omega)) (a 1 12 (by decide)) (fun j hj => a 14 j (by simp [cel, hj])), f3.cg (by omega) w (a 18 6 (by decide)) (fun j hj => a 19 j (by simp [cel, hj])) (fun r j h1 h2 hj => a _ j ?_), f4.cg (by omega) w (a 25 6 (by decide)) (fun j hj => a 26 j (by simp [cel, hj])) (fun r j h1 h2 hj => a _ j ?_), ?_, f6.rg (fun j h1 h2 => w j h2) (w _ (by omega)) (a 1 14 (by decide)) (fun j hj => a 17 j (by simp [cel, hj])), fun i hi => ?_⟩
  · have : r = 1 ∨ r = 2 ∨ r = 3 ∨ r = 4 := by omega
    rcases this with rfl | rfl | rfl | rfl <;> simp [cel, hj]
  · have : r = 1 ∨ r = 2 ∨ r = 3 ∨ r = 4 := by omega
    rcases this with rfl | rfl | rfl | rfl <;> simp [cel, hj]
  · obtain ⟨a1, a2, a3, a4, a5, a6, a7, a8⟩ := f5
    have c3 : ∀ k i, 33 ≤ k → k ≤ 36 → i < 6 → h' k i = h k i := fun k i h1 h2 hi => a k i (by
      have : k = 33 ∨ k = 34 ∨ k = 35 ∨ k = 36 := by omega
      rcases this with rfl | rfl | rfl | rfl <;> simp [cel, hi])
    refine ⟨a1, a2, by rw [a 32 4 (by decide)]; exact a3, by rw [w _ (by omega)]; exact a4, by rw [a 32 5 (by decide)]; exact a5, by rw [w _ (by omega)]; exact a6, fun i hi => ?_, fun i hi => ?_⟩
    · rw [c3 33 i (by omega) (by omega) (by omega), w _ (by omega)]; exact a7 i hi
    · have ew : ∀ f, f < 3 → ww (h' 170) i f = ww (h 170) i f := fun f hf => w _ (by omega)
      rw [c3 34 i (by omega) (by omega) (by omega), c3 35 i (by omega) (by omega) (by omega), c3 36 i (by omega) (by omega) (by omega), ew 0 (by omega), ew 1 (by omega), ew 2 (by omega)]
      exact a8 i hi
  · rw [a 16 i (by simp [cel, hi]), w _ (by omega)]
    exact f7 i hi
