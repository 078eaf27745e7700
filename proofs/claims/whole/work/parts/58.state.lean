/-- what acts and days may change, with what it stands on -/
def FK (T R A : Nat) (h : pm_Hp) : Prop := Pl T R h ∧ (∀ t, t < T → WT h t) ∧ SL h ∧ DF T A h ∧ DU T h
def agS (h h' : pm_Hp) : Prop := (∀ j, j < 324 → h' 170 j = h 170 j) ∧ (h' 170 324 = h 170 324 ∧ h' 170 326 = h 170 326) ∧ (∀ r, r < 4 → h' 170 (362 + r) = h 170 (362 + r)) ∧ (h' 1 11 = h 1 11 ∧ h' 1 13 = h 1 13) ∧ (∀ r, r < 4 → h' 15 r = h 15 r) ∧ (∀ j, 8 ≤ j → j < 12 → h' 2 j = h 2 j) ∧ (∀ k j, 3 ≤ k → k ≤ 12 → k ≠ 10 → j < 16 → h' k j = h k j) ∧ (∀ j, j < 80 → h' 10 j = h 10 j ∧ h' 13 j = h 13 j) ∧ ∀ j, j < 30 → h' 14 j = h 14 j
theorem agS.cell {h h' : pm_Hp} (a : agS h h') {t f : Nat} (ht : t < 16) (hf : f < 20) (h9 : f ≠ 9) : h' (ta f) (tj f t) = h (ta f) (tj f t) := by
  obtain ⟨-, -, -, -, -, -, a7, a8, -⟩ := a
  unfold ta tj
  by_cases f0 : f = 0
  · rw [if_pos f0, if_pos (by omega)]; exact a7 11 t (by omega) (by omega) (by omega) ht
  · rw [if_neg f0]
    by_cases f1 : f = 1
    · rw [if_pos f1, if_pos (by omega)]; exact a7 12 t (by omega) (by omega) (by omega) ht
    · rw [if_neg f1]
      by_cases f8 : f < 9
      · rw [if_pos f8, if_pos f8]; exact a7 (f + 1) t (by omega) (by omega) (by omega) ht
      · rw [if_neg f8, if_neg f8]
        by_cases f15 : f < 15
        · rw [if_pos f15, if_pos f15]; exact (a8 _ (by omega)).2
        · rw [if_neg f15, if_neg f15]; exact (a8 _ (by omega)).1
theorem FK.ag {T R A : Nat} {h h' : pm_Hp} (a : agS h h') (K : FK T R A h) : FK T R A h' := by
  obtain ⟨P, W, S, F, U⟩ := K
  have ac := fun {t f : Nat} => agS.cell a (t := t) (f := f)
  obtain ⟨a1, ⟨a2, a3⟩, a4, ⟨a5, a6⟩, a7, a8, a9, a10, a11⟩ := a
  have hT := P.1
  refine ⟨?_, fun t ht => (W t ht).rg (by omega) a1, S.rg (fun j hj => a1 j (by omega)) a8, ?_, U.rg hT a1⟩
  · obtain ⟨p1, p2, p3, p4, p5, p6, p7, p8, p9, rk, p10⟩ := P
    have ew : ∀ t f, t < T → f < 20 → wq h' t f = wq h t f := fun t f ht hf => a1 _ (by omega)
    refine ⟨p1, p2, by rw [a2]; exact p3, by rw [a5]; exact p4, by rw [a3]; exact p5, by rw [a6]; exact p6, fun t f ht hf h9 => ?_, fun r hr => ?_, fun t ht => ?_, rk, fun t ht => ?_⟩
    · rw [ew t f ht hf, ac (by omega) hf h9]; exact p7 t f ht hf h9
    · rw [a4 r (by omega), a7 r (by omega)]; exact p8 r hr
    · have := p9 t ht
      unfold HD at this ⊢
      rw [ew t 5 ht (by omega)]
      rcases this with a | a | ⟨p, hp, b, c⟩ | a
      · exact Or.inl a
      · exact Or.inr (Or.inl a)
      · exact Or.inr (Or.inr (Or.inl ⟨p, hp, b, by rw [ew p 0 hp (by omega)]; exact c⟩))
      · exact Or.inr (Or.inr (Or.inr a))
    · have := p10 t ht
      rw [ew t 0 ht (by omega), ew t 5 ht (by omega)]
      exact this
  · refine ⟨fun t h1 h2 => ?_, fun x h1 h2 m hm => ?_⟩
    · have := F.1 t h1 h2
      rw [a9 3 t (by omega) (by omega) (by omega) h2, a9 4 t (by omega) (by omega) (by omega) h2, a9 5 t (by omega) (by omega) (by omega) h2, a9 6 t (by omega) (by omega) (by omega) h2, a9 7 t (by omega) (by omega) (by omega) h2, a9 8 t (by omega) (by omega) (by omega) h2, a9 9 t (by omega) (by omega) (by omega) h2]
      refine ⟨this.1, this.2.1, this.2.2.1, this.2.2.2.1, this.2.2.2.2.1, this.2.2.2.2.2.1, this.2.2.2.2.2.2.1, fun m hm => ?_⟩
      rw [(a10 (t * 5 + m) (by omega)).1, (a10 (t * 5 + m) (by omega)).2]
      exact this.2.2.2.2.2.2.2 m hm
    · rw [a11 _ (by omega)]
      exact F.2 x h1 h2 m hm
theorem agS.rf {h : pm_Hp} : agS h h := ⟨fun _ _ => rfl, ⟨rfl, rfl⟩, fun _ _ => rfl, ⟨rfl, rfl⟩, fun _ _ => rfl, fun _ _ _ => rfl, fun _ _ _ _ _ _ => rfl, fun _ _ => ⟨rfl, rfl⟩, fun _ _ => rfl⟩
theorem agS.tr {h h' h'' : pm_Hp} (a : agS h h') (b : agS h' h'') : agS h h'' := by
  obtain ⟨a1, ⟨a2, a3⟩, a4, ⟨a5, a6⟩, a7, a8, a9, a10, a11⟩ := a
  obtain ⟨b1, ⟨b2, b3⟩, b4, ⟨b5, b6⟩, b7, b8, b9, b10, b11⟩ := b
  exact ⟨fun j hj => (b1 j hj).trans (a1 j hj), ⟨b2.trans a2, b3.trans a3⟩, fun j hj => (b4 j hj).trans (a4 j hj), ⟨b5.trans a5, b6.trans a6⟩, fun j hj => (b7 j hj).trans (a7 j hj), fun j h1 h2 => (b8 j h1 h2).trans (a8 j h1 h2), fun k j h1 h2 h3 h4 => (b9 k j h1 h2 h3 h4).trans (a9 k j h1 h2 h3 h4), fun j hj => ⟨(b10 j hj).1.trans (a10 j hj).1, (b10 j hj).2.trans (a10 j hj).2⟩, fun j hj => (b11 j hj).trans (a11 j hj)⟩
/-- the heap as seen with the i-th stock kept, the j-th of the model -/
def kh (i j : Nat) (h : pm_Hp) : pm_Hp := fun k x => if 2 ≤ k ∧ k ≤ 10 then h (79 + 9 * i + (k - 2)) x else if k = 170 ∧ x < 324 then h 172 (324 * j + x) else h k x
/-- the heap as seen with the image -/
def ih (h : pm_Hp) : pm_Hp := fun k x => if 1 ≤ k ∧ k ≤ 36 then h (k + 38) x else if k = 170 then h 171 x else h k x
/-- all of a state -/
def FS (T R A n0 n1 q N M : Nat) (L0 L1 : Nat → Ln) (h : pm_Hp) : Prop := FK T R A h ∧ AC A h ∧ LW 0 n0 L0 h ∧ LW 1 n1 L1 h ∧ SN A N M h ∧ WS q h ∧ BK h
theorem FS.st {T R A n0 n1 q N M : Nat} {L0 L1 : Nat → Ln} {h : pm_Hp} (F : FS T R A n0 n1 q N M L0 L1 h) : St T R A n0 n1 L0 L1 h := ⟨F.1.1, F.2.1, F.1.2.1, F.2.2.1, F.2.2.2.1⟩
/-- acts kept: the class's ring and the model's rows -/
def KP (T R A : Nat) (h : pm_Hp) : Prop := ∃ c nx, c ≤ 6 ∧ nx < 6 ∧ h 77 1 = nI nx ∧ h 77 2 = nI c ∧ h 169 3 = nI c ∧ ∀ x, x < c → FK T R A (kh ((nx + 5 - x) % 6) (c - 1 - x) h)
def IM (h : pm_Hp) : Prop := (h 0 7 = 0 ∧ h 169 4 = 0) ∨ (h 0 7 = 1 ∧ h 169 4 = 1 ∧ ∃ T R A n0 n1 q N M L0 L1, FS T R A n0 n1 q N M L0 L1 (ih h))
