/-! the state, piece by piece: which cells each piece stands on -/
theorem mseg_rg {h h' : pm_Hp} {k : Nat} (hk : k < 2) (e : ∀ j, 876 ≤ j → j < 2644 → h' 170 j = h 170 j) : ∀ (l : List Op) (p : Nat), p + l.length ≤ 410 → mseg h k p l → mseg h' k p l
  | [], _, _, _ => trivial
  | o :: l, p, hp, q => by
    have hp : p + (l.length + 1) ≤ 410 := hp
    have hk2 : k = 0 ∨ k = 1 := by omega
    refine ⟨⟨?_, fun z => ?_⟩, mseg_rg hk e l (p + 1) (by omega) q.2⟩
    · rw [e _ (by omega) (by omega)]; exact q.1.1
    · rw [e _ (by omega) (by omega)]; exact q.1.2 z
theorem modL_rg {h h' : pm_Hp} {k i : Nat} {x : Ln} (hk : k < 2) (hi : i < 16) (e : ∀ j, 876 ≤ j → j < 2644 → h' 170 j = h 170 j) (a : modL h k i x) : modL h' k i x := by
  obtain ⟨p0, p1, p2, a1, a2, a3, a4, a5, a6, a7, a8, a9⟩ := a
  have hk2 : k = 0 ∨ k = 1 := by omega
  exact ⟨p0, p1, p2, by rw [e _ (by omega) (by omega)]; exact a1, by rw [e _ (by omega) (by omega)]; exact a2, by rw [e _ (by omega) (by omega)]; exact a3, by rw [e _ (by omega) (by omega)]; exact a4, a5, a6, a7, mseg_rg hk e _ _ (by omega) a8, mseg_rg hk e _ _ (by omega) a9⟩
theorem LW.rg {k n : Nat} {Ls : Nat → Ln} {h h' : pm_Hp} (hk : k < 2) (e : ∀ j, 876 ≤ j → j < 2644 → h' 170 j = h 170 j) (e1 : h' 170 (329 + k) = h 170 (329 + k)) (e2 : h' (18 + 7 * k) 6 = h (18 + 7 * k) 6) (e3 : ∀ j, j < 5 → h' (19 + 7 * k + j) = h (19 + 7 * k + j)) (a : LW k n Ls h) : LW k n Ls h' := by
  obtain ⟨a1, a2, a3, a4⟩ := a
  exact ⟨by rw [e2]; exact a1, by rw [e1]; exact a2, a3, fun j hj => ⟨clsL_eq e3 (a4 j hj).1, modL_rg hk (by omega) e (a4 j hj).2.1, (a4 j hj).2.2⟩⟩
theorem Pl.rg {T R : Nat} {h h' : pm_Hp} (e : ∀ j, j < 324 → h' 170 j = h 170 j) (e1 : h' 170 324 = h 170 324) (e2 : h' 170 326 = h 170 326) (e3 : ∀ r, r < 4 → h' 170 (362 + r) = h 170 (362 + r)) (e4 : h' 1 11 = h 1 11) (e5 : h' 1 13 = h 1 13) (e6 : ∀ r, r < 4 → h' 15 r = h 15 r) (e7 : ∀ f, f < 20 → f ≠ 9 → h' (ta f) = h (ta f)) (P : Pl T R h) : Pl T R h' := by
  obtain ⟨p1, p2, p3, p4, p5, p6, p7, p8, p9, rk, p10⟩ := P
  have ew : ∀ t f, t < T → f < 20 → wq h' t f = wq h t f := fun t f ht hf => e _ (by omega)
  refine ⟨p1, p2, by rw [e1]; exact p3, by rw [e4]; exact p4, by rw [e2]; exact p5, by rw [e5]; exact p6, fun t f ht hf h9 => ?_, fun r hr => ?_, fun t ht => ?_, rk, fun t ht => ?_⟩
  · rw [ew t f ht hf, e7 f hf h9]; exact p7 t f ht hf h9
  · rw [e3 r (by omega), e6 r (by omega)]; exact p8 r hr
  · have := p9 t ht
    unfold HD at this ⊢
    rw [ew t 5 ht (by omega)]
    rcases this with a | a | ⟨p, hp, b, c⟩ | a
    · exact Or.inl a
    · exact Or.inr (Or.inl a)
    · exact Or.inr (Or.inr (Or.inl ⟨p, hp, b, by rw [ew p 0 hp (by omega)]; exact c⟩))
    · exact Or.inr (Or.inr (Or.inr a))
  · have := p10 t ht
    rw [ew t 0 ht (by omega), ew t 5 ht (by omega)]
    exact this
theorem AC.rg {A : Nat} {h h' : pm_Hp} (e : ∀ j, 332 ≤ j → j < 362 → h' 170 j = h 170 j) (e1 : h' 170 325 = h 170 325) (e2 : h' 1 12 = h 1 12) (e3 : ∀ j, j < 30 → h' 14 j = h 14 j) (Q : AC A h) : AC A h' := by
  obtain ⟨q1, q2, q3, q4⟩ := Q
  refine ⟨q1, by rw [e1]; exact q2, by rw [e2]; exact q3, fun a m ha hm => ?_⟩
  rw [e _ (by omega) (by omega), e3 _ (by omega)]
  exact q4 a m ha hm
theorem WT.rg {t : Nat} {h h' : pm_Hp} (ht : t < 16) (e : ∀ j, j < 324 → h' 170 j = h 170 j) (W : WT h t) : WT h' t := by
  have ew : ∀ f, f < 20 → wq h' t f = wq h t f := fun f hf => e _ (by omega)
  obtain ⟨w1, w2, w3, w4, w5, w6, w7⟩ := W
  refine ⟨by rw [ew 0 (by omega)]; exact w1, by rw [ew 1 (by omega)]; exact w2, by rw [ew 2 (by omega)]; exact w3, by rw [ew 3 (by omega)]; exact w4, by rw [ew 4 (by omega)]; exact w5, by rw [ew 8 (by omega)]; exact w6, fun m hm => ?_⟩
  rw [ew (10 + m) (by omega), ew (15 + m) (by omega)]
  exact w7 m hm
theorem SL.rg {h h' : pm_Hp} (e : ∀ j, j < 4 → h' 170 j = h 170 j) (e2 : ∀ j, 8 ≤ j → j < 12 → h' 2 j = h 2 j) (a : SL h) : SL h' := by
  unfold SL at a ⊢
  rw [e 0 (by omega), e 1 (by omega), e 2 (by omega), e 3 (by omega), e2 8 (by omega) (by omega), e2 9 (by omega) (by omega), e2 10 (by omega) (by omega), e2 11 (by omega) (by omega)]
  exact a
theorem BK.rg {h h' : pm_Hp} (e : ∀ j, 396 ≤ j → j < 876 → h' 170 j = h 170 j) (e1 : h' 16 = h 16) (a : BK h) : BK h' := fun i hi => by
  rw [e1, e _ (by omega) (by omega)]
  exact a i hi
theorem SN.rg {A N M : Nat} {h h' : pm_Hp} (e : ∀ j, 366 ≤ j → j < 396 → h' 170 j = h 170 j) (e1 : h' 170 327 = h 170 327) (e2 : h' 170 328 = h 170 328) (e3 : ∀ k, 32 ≤ k → k < 37 → h' k = h k) (a : SN A N M h) : SN A N M h' := by
  obtain ⟨a1, a2, a3, a4, a5, a6, a7, a8⟩ := a
  refine ⟨a1, a2, by rw [e3 32 (by omega) (by omega)]; exact a3, by rw [e1]; exact a4, by rw [e3 32 (by omega) (by omega)]; exact a5, by rw [e2]; exact a6, fun i hi => ?_, fun i hi => ?_⟩
  · rw [e3 33 (by omega) (by omega), e _ (by omega) (by omega)]; exact a7 i hi
  · rw [e3 34 (by omega) (by omega), e3 35 (by omega) (by omega), e3 36 (by omega) (by omega)]
    have ew : ∀ f, f < 3 → ww (h' 170) i f = ww (h 170) i f := fun f hf => e _ (by omega) (by omega)
    rw [ew 0 (by omega), ew 1 (by omega), ew 2 (by omega)]
    exact a8 i hi
theorem WS.rg {q : Nat} {h h' : pm_Hp} (e : ∀ j, 2644 ≤ j → j < 2684 → h' 170 j = h 170 j) (e1 : h' 170 331 = h 170 331) (e2 : h' 1 14 = h 1 14) (e3 : ∀ j, j < 40 → h' 17 j = h 17 j) (a : WS q h) : WS q h' := by
  obtain ⟨a1, a2, a3, a4⟩ := a
  refine ⟨a1, by rw [e2]; exact a2, by rw [e1]; exact a3, fun i k hi hk => ?_⟩
  rw [e3 _ (by omega), e _ (by omega) (by omega)]
  exact a4 i k hi hk
/-- rows that the class keeps for things and actors yet to come; what is not out is not due -/
def DF (T A : Nat) (h : pm_Hp) : Prop := (∀ t, T ≤ t → t < 16 → h 3 t = 0 ∧ h 4 t = 0 ∧ h 5 t = 0 ∧ h 6 t = -1 ∧ h 7 t = -1 ∧ h 8 t = -1 ∧ h 9 t = 0 ∧ ∀ m, m < 5 → h 10 (t * 5 + m) = 0 ∧ h 13 (t * 5 + m) = 0) ∧ ∀ a, A ≤ a → a < 6 → ∀ m, m < 5 → h 14 (a * 5 + m) = 0
def DU (T : Nat) (h : pm_Hp) : Prop := ∀ t, t < T → ¬ wq h t 5 = nI 100 → wq h t 7 = -1 ∧ wq h t 8 = 0
theorem DF.rg {T A : Nat} {h h' : pm_Hp} (e : ∀ k, 3 ≤ k → k < 15 → h' k = h k) (a : DF T A h) : DF T A h' := by
  unfold DF at a ⊢
  rw [e 3 (by omega) (by omega), e 4 (by omega) (by omega), e 5 (by omega) (by omega), e 6 (by omega) (by omega), e 7 (by omega) (by omega), e 8 (by omega) (by omega), e 9 (by omega) (by omega), e 10 (by omega) (by omega), e 13 (by omega) (by omega), e 14 (by omega) (by omega)]
  exact a
theorem DU.rg {T : Nat} {h h' : pm_Hp} (hT : T ≤ 16) (e : ∀ j, j < 324 → h' 170 j = h 170 j) (a : DU T h) : DU T h' := fun t ht => by
  have ew : ∀ f, f < 20 → wq h' t f = wq h t f := fun f hf => e _ (by omega)
  rw [ew 5 (by omega), ew 7 (by omega), ew 8 (by omega)]
  exact a t ht
