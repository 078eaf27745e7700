/-! THE MODEL READS scenes -/
theorem mt2_cs {c : Nat} : (c < 3 ∧ mt 2 c = c) ∨ (3 ≤ c ∧ c < 200 ∧ mt 2 c = 100 + c) ∨ (c = 217 ∧ mt 2 c = 7) ∨ (c = 218 ∧ mt 2 c = 8) ∨ ((219 ≤ c ∧ c ≤ 223) ∧ mt 2 c = c - 209) ∨ ((200 ≤ c ∧ (c < 217 ∨ 223 < c)) ∧ mt 2 c = 1) := by
  unfold mt
  by_cases g1 : c < 3
  · rw [if_pos g1]; exact Or.inl ⟨g1, rfl⟩
  rw [if_neg g1]
  by_cases g2 : c < 200
  · rw [if_pos g2]; exact Or.inr (Or.inl ⟨by omega, g2, rfl⟩)
  rw [if_neg g2, if_pos rfl]
  by_cases g3 : c = 217
  · rw [if_pos g3]; exact Or.inr (Or.inr (Or.inl ⟨g3, rfl⟩))
  rw [if_neg g3]
  by_cases g4 : c = 218
  · rw [if_pos g4]; exact Or.inr (Or.inr (Or.inr (Or.inl ⟨g4, rfl⟩)))
  rw [if_neg g4]
  by_cases g5 : 219 ≤ c ∧ c ≤ 223
  · rw [if_pos g5]; exact Or.inr (Or.inr (Or.inr (Or.inr (Or.inl ⟨g5, rfl⟩))))
  rw [if_neg g5]
  exact Or.inr (Or.inr (Or.inr (Or.inr (Or.inr ⟨by omega, rfl⟩))))
theorem mt2 {c : Nat} (hc : c < 300) : mt 2 c < 400 ∧ (mt 2 c = 0 ↔ c = 0) ∧ (mt 2 c = 2 ↔ c = 2) ∧ (mt 2 c = 7 ↔ c = 217) ∧ (mt 2 c = 8 ↔ c = 218) ∧ (mt 2 c = 159 ↔ c = 59) ∧ ((10 ≤ mt 2 c ∧ mt 2 c ≤ 14) ↔ (219 ≤ c ∧ c ≤ 223)) ∧ ((219 ≤ c ∧ c ≤ 223) → mt 2 c = 10 + (c - 219)) := by
  rcases mt2_cs (c := c) with h | h | h | h | h | h <;> (refine ⟨?_, ?_, ?_, ?_, ?_, ?_, ?_, ?_⟩ <;> omega)
theorem le_m1 {v A : Nat} (hv : v < 2 ^ 30) (hA : A < 2 ^ 30) : nI v ≤ nI A - 1 ↔ v < A := by
  by_cases g : A = 0
  · rw [g]
    refine ⟨fun z => ?_, fun z => by omega⟩
    exfalso
    have z2 : nI v ≤ -1 := z
    exact absurd (Int32.lt_of_le_of_lt z2 (show (-1 : Int32) < 0 by decide)) (nI_pos (by omega))
  · rw [show (1 : Int32) = nI 1 from rfl, pk_sub (by omega), nI_leI (by omega) (by omega)]
    omega
def FT (h h' : pm_Hp) : Prop := (∀ k, k ≠ 169 → k ≠ 175 → k ≠ 176 → h' k = h k) ∧ ∀ j, j ≠ 16 → j ≠ 17 → (j < 19 ∨ 24 < j) → j ≠ 28 → h' 169 j = h 169 j
theorem FT.rf {h : pm_Hp} : FT h h := ⟨fun _ _ _ _ => rfl, fun _ _ _ _ _ => rfl⟩
theorem FT.tr {h h' h'' : pm_Hp} (a : FT h h') (b : FT h' h'') : FT h h'' := ⟨fun k x y z => (b.1 k x y z).trans (a.1 k x y z), fun j w x y z => (b.2 j w x y z).trans (a.2 j w x y z)⟩
theorem FN.ft {h h' : pm_Hp} (a : FN h h') : FT h h' := ⟨fun k x _ _ => a.1 k x, fun j _ _ y _ => a.2 j (by omega)⟩
theorem FT.up {h h' : pm_Hp} {j : Nat} {v : Int32} (a : FT h h') (hj : j = 16 ∨ j = 17 ∨ (19 ≤ j ∧ j ≤ 24) ∨ j = 28) : FT h (pm_up h' 169 j v) := ⟨fun k x y z => by rw [pm_up_n x]; exact a.1 k x y z, fun i w x y z => by rw [pm_up_j (by omega)]; exact a.2 i w x y z⟩
theorem FT.ro {h h' : pm_Hp} {b j : Nat} {v : Int32} (a : FT h h') (hb : b = 175 ∨ b = 176) : FT h (pm_up h' b j v) := ⟨fun k x y z => by rw [pm_up_n (by omega)]; exact a.1 k x y z, fun i w x y z => by rw [pm_up_k (by omega)]; exact a.2 i w x y z⟩
section
variable {tp : Nat → Nat} {n K : Nat}
def HB2 (tp : Nat → Nat) (n K : Nat) : Prop := (∀ i, tp i < 256) ∧ n ≤ 400 ∧ KE tp n K ∧ ∀ k, (tks tp n k).2.2.2 ≤ n
def MT2 (tp : Nat → Nat) (n k : Nat) (h : pm_Hp) : Prop := TM tp n h ∧ h 169 12 = nI 2 ∧ MA 2 (tks tp n k) h
theorem MT2.to {k : Nat} {h h' : pm_Hp} (S : MT2 tp n k h) (e : ∀ j, (j = 12 ∨ j = 18 ∨ (19 ≤ j ∧ j ≤ 22)) → h' 169 j = h 169 j) (e7 : h' 177 = h 177) : MT2 tp n k h' := ⟨S.1.to (e 18 (by omega)) e7, (e 12 (by omega)).trans S.2.1, (e 20 (by omega)).trans S.2.2.1, (e 21 (by omega)).trans S.2.2.2.1, (e 19 (by omega)).trans S.2.2.2.2.1, fun z => (e 22 (by omega)).trans (S.2.2.2.2.2 z)⟩
theorem MT2.tok {k : Nat} {h : pm_Hp} (S : MT2 tp n k h) : h 169 20 = nI (mt 2 (tc tp n k)) := S.2.2.1
theorem n_nx {d k : Nat} {h : pm_Hp} (hd : 7 ≤ d) (B : HB2 tp n K) (S : MT2 tp n k h) : ∃ h', pm_ev d 186 [.ref 169] h = some (0, h') ∧ FN h h' ∧ MT2 tp n (k + 1) h' := by
  obtain ⟨b1, b2_, b4, b5⟩ := B
  obtain ⟨s1, s2, s3⟩ := S
  obtain ⟨h', a1, a2, a3⟩ := m_next hd b1 b2_ (by omega) (b5 k) s1 s3.2.2.1 s2
  exact ⟨h', a1, a2, a2.tm s1, by rw [a2.2 12 (by omega)]; exact s2, a3⟩
def NB (tp : Nat → Nat) (n : Nat) (h' : pm_Hp) (q : Int32) (e : Nat × Nat) : Prop := q = 0 ∧ h' 169 23 = nI e.1 ∧ h' 169 24 = nI (tl_ tp n e.2)
theorem n_bad {d e k : Nat} {h : pm_Hp} (hd : 1 ≤ d) (S : MT2 tp n k h) : ∃ h', pm_ev d 187 [.ref 169, .int (nI e)] h = some (0, h') ∧ FT h h' ∧ NB tp n h' 0 (e, k) := by
  obtain ⟨d, rfl, -⟩ := dpos hd
  exact ⟨_, e_X10_bad d h _, (FT.rf.up (by omega)).up (by omega), rfl, by rw [pm_up_j (by omega), pm_up_s], by rw [pm_up_s]; exact S.2.2.2.1⟩
/-- a number up to b -/
theorem n_num {d k : Nat} {h : pm_Hp} {b : Int32} {P : Prop} (hd : 8 ≤ d) (B : HB2 tp n K) (S : MT2 tp n k h) (hP : nI (tv tp n k) ≤ b ↔ P) : (tc tp n k = 2 → P → ∃ h', pm_ev d 199 [.ref 169, .int 0, .int b] h = some (1, h') ∧ FT h h' ∧ MT2 tp n (k + 1) h' ∧ h' 169 28 = nI (tv tp n k) ∧ (∀ j, (j = 16 ∨ j = 17) → h' 169 j = h 169 j) ∧ h' 175 = h 175 ∧ h' 176 = h 176) ∧ (tc tp n k = 2 → ¬ P → ∃ h', pm_ev d 199 [.ref 169, .int 0, .int b] h = some (0, h') ∧ FT h h' ∧ NB tp n h' 0 (2, k)) ∧ (tc tp n k ≠ 2 → ∃ h', pm_ev d 199 [.ref 169, .int 0, .int b] h = some (0, h') ∧ FT h h' ∧ NB tp n h' 0 (1, k)) := by
  obtain ⟨d, rfl, -⟩ := dpos hd
  have hK := B.2.2.1
  have c3 := hK.2.2.2.1 k
  have v3 := (hK.2.2.2.2.2 k).1
  obtain ⟨m1, m2, m3, -⟩ := mt2 c3
  refine ⟨fun g p => ?_, fun g p => ?_, fun g => ?_⟩
  · have v22 : h 169 22 = nI (tv tp n k) := S.2.2.2.2.2 g
    obtain ⟨h1, a1, a2, a3⟩ := n_nx (d := d) (h := pm_up h 169 28 (nI (tv tp n k))) (by omega) B (S.to (fun j hj => pm_up_j (by omega)) (pm_up_n (by omega)))
    refine ⟨h1, ?_, (FT.rf.up (by omega)).tr a2.ft, a3, by rw [a2.2 28 (by omega), pm_up_s], fun j hj => by rw [a2.2 j (by omega), pm_up_j (by omega)], by rw [a2.1 175 (by omega), pm_up_n (by omega)], by rw [a2.1 176 (by omega), pm_up_n (by omega)]⟩
    rw [e_X10_number, S.tok, if_pos (by rw [m3.mpr g]), m_isIn (by omega), pm_bd_s, v22, b2_t ⟨nI_pos (by omega), hP.mpr p⟩, if_neg (by decide), a1, pm_bd_s]
  · have v22 : h 169 22 = nI (tv tp n k) := S.2.2.2.2.2 g
    obtain ⟨h1, a1, a2, a3⟩ := n_bad (e := 2) (d := d) (by omega) S
    refine ⟨h1, ?_, a2, a3⟩
    rw [e_X10_number, S.tok, if_pos (by rw [m3.mpr g]), m_isIn (by omega), pm_bd_s, v22, b2_f (fun z => p (hP.mp z.2)), if_pos rfl, a1, pm_bd_s, pm_bw_0]
  · obtain ⟨h1, a1, a2, a3⟩ := n_bad (e := 1) (d := d) (by omega) S
    refine ⟨h1, ?_, a2, a3⟩
    rw [e_X10_number, S.tok, if_neg (by rw [nI_eq (by omega) (by omega), m3]; exact g), show (1 : Int32) = nI 1 from rfl, a1, pm_bd_s, pm_bw_0]
def MWr (w : Wr) (h : pm_Hp) : Prop := h 169 17 = nI w.1 ∧ ∀ i, i < w.1 → h 176 (3 * i) = nI (w.2 i).1 ∧ h 176 (3 * i + 1) = nI (w.2 i).2.1 ∧ h 176 (3 * i + 2) = nI (w.2 i).2.2
def MMn (m : Mn) (h : pm_Hp) : Prop := h 169 16 = nI m.1 ∧ ∀ i, i < m.1 → h 175 i = nI (m.2 i)
theorem n_insc {d s a N A : Nat} {w : Wr} {h : pm_Hp} (hd : 1 ≤ d) (I : WI w N A) (hN : N ≤ 7) (hA : A ≤ 6) (W : MWr w h) (e16 : h 169 16 = nI s) (hs : s ≤ 6) (ha : a ≤ 9999) : (insc w s a → pm_ev d 200 [.ref 169, .int (nI a)] h = some (1, h)) ∧ (¬ insc w s a → pm_ev d 200 [.ref 169, .int (nI a)] h = some (0, h)) := by
  obtain ⟨d, rfl, -⟩ := dpos hd
  have w6 := I.1
  have key : ∀ (q i : Nat), i + q = w.1 → ((∃ j, i ≤ j ∧ j < w.1 ∧ (w.2 j).1 = s ∧ (w.2 j).2.1 = a) → pm_rn d kX10_isInScene 2 [.ref 169, .int (nI a), .int (nI i)] [] h = some (1, h)) ∧ (¬ (∃ j, i ≤ j ∧ j < w.1 ∧ (w.2 j).1 = s ∧ (w.2 j).2.1 = a) → pm_rn d kX10_isInScene 2 [.ref 169, .int (nI a), .int (nI i)] [] h = some (0, h)) := by
    intro q
    induction q with
    | zero =>
      intro i hi
      refine ⟨fun z => ?_, fun z => ?_⟩
      · obtain ⟨j, z1, z2, -⟩ := z; omega
      · rw [b_X10_isInScene_2, W.1, if_neg (nI_nlt (by omega) (by omega))]
    | succ q ih =>
      intro i hi
      obtain ⟨y1, y2, y3⟩ := W.2 i (by omega)
      obtain ⟨x1, x2, x3⟩ := I.2 i (by omega)
      obtain ⟨j1, j2⟩ := ih (i + 1) (by omega)
      have st : ∀ (o : Option (Int32 × pm_Hp)), (if (w.2 i).1 = s then (if (w.2 i).2.1 = a then some ((1 : Int32), h) else pm_rn d kX10_isInScene 2 [.ref 169, .int (nI a), .int (nI (i + 1))] [] h) else pm_rn d kX10_isInScene 2 [.ref 169, .int (nI a), .int (nI (i + 1))] [] h) = o → pm_rn d kX10_isInScene 2 [.ref 169, .int (nI a), .int (nI i)] [] h = o := fun o ho => by
        rw [b_X10_isInScene_2, W.1, if_pos (nI_lt (by omega) (by omega)), pk_mul, show (0 : Int32) = nI 0 from rfl, nI_add, pm_at_c (by omega) (by omega), Nat.add_zero, y1, e16, nI_ite (by omega) (by omega), nI_1, pm_at_c (by omega) (by omega), y2, nI_ite (by omega) (by omega), nI_1]
        exact ho
      refine ⟨fun z => ?_, fun z => ?_⟩
      · refine st _ ?_
        by_cases c1 : (w.2 i).1 = s
        · rw [if_pos c1]
          by_cases c2 : (w.2 i).2.1 = a
          · rw [if_pos c2]
          · rw [if_neg c2]
            refine j1 ?_
            obtain ⟨j, z1, z2, z3, z4⟩ := z
            by_cases ej : j = i
            · rw [ej] at z4; exact absurd z4 c2
            · exact ⟨j, by omega, z2, z3, z4⟩
        · rw [if_neg c1]
          refine j1 ?_
          obtain ⟨j, z1, z2, z3, z4⟩ := z
          by_cases ej : j = i
          · rw [ej] at z3; exact absurd z3 c1
          · exact ⟨j, by omega, z2, z3, z4⟩
      · refine st _ ?_
        have nz : ¬ (∃ j, i + 1 ≤ j ∧ j < w.1 ∧ (w.2 j).1 = s ∧ (w.2 j).2.1 = a) := fun y => z (by
          obtain ⟨j, y1, y2⟩ := y
          exact ⟨j, by omega, y2⟩)
        by_cases c1 : (w.2 i).1 = s
        · rw [if_pos c1, if_neg (fun c2 => z ⟨i, Nat.le_refl _, by omega, c1, c2⟩)]
          exact j2 nz
        · rw [if_neg c1]
          exact j2 nz
  rw [e_X10_isInScene]
  obtain ⟨k1, k2⟩ := key w.1 0 (by omega)
  refine ⟨fun z => ?_, fun z => ?_⟩
  · refine k1 ?_
    obtain ⟨j, z1, z2, z3⟩ := z
    exact ⟨j, Nat.zero_le _, z1, z2, z3⟩
  · refine k2 (fun y => z ?_)
    obtain ⟨j, -, z1, z2, z3⟩ := y
    exact ⟨j, z1, z2, z3⟩
end
