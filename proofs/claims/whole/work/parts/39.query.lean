/-! QUESTIONS: class and model answer alike -/
theorem LW.scr {k n : Nat} {Ls : Nat → Ln} {h h' : pm_Hp} (hk : k < 2) (e : eqi SCR h h') (a : LW k n Ls h) : LW k n Ls h' := by
  obtain ⟨a1, a2, a3, a4⟩ := a
  have hk2 : k = 0 ∨ k = 1 := by omega
  refine ⟨?_, by rw [e 170 (by decide)]; exact a2, a3, fun j hj => ⟨?_, modL_eq (e 170 (by decide)) (a4 j hj).2.1, (a4 j hj).2.2⟩⟩
  · rcases hk2 with rfl | rfl
    · rw [e 18 (by decide)]; exact a1
    · rw [e 25 (by decide)]; exact a1
  · refine clsL_eq (fun i hi => e _ ?_) (a4 j hj).1
    rcases hk2 with rfl | rfl
    · simp; omega
    · simp; omega
/-- the state that the questions read -/
def St (T R A n0 n1 : Nat) (L0 L1 : Nat → Ln) (h : pm_Hp) : Prop := Pl T R h ∧ AC A h ∧ (∀ t, t < T → WT h t) ∧ LW 0 n0 L0 h ∧ LW 1 n1 L1 h
theorem St.scr {T R A n0 n1 : Nat} {L0 L1 : Nat → Ln} {h h' : pm_Hp} (e : eqi SCR h h') (S : St T R A n0 n1 L0 L1 h) : St T R A n0 n1 L0 L1 h' := ⟨S.1.scr e, S.2.1.scr e, fun t ht => (S.2.2.1 t ht).scr e, S.2.2.2.1.scr (by omega) e, S.2.2.2.2.scr (by omega) e⟩
def QE (d c m : Nat) (a : List Value) (h : pm_Hp) : Prop := ∃ r h1 h2, pm_ev d c (.ref 0 :: a) h = some (r, h1) ∧ pm_ev d m (.ref 169 :: a) h1 = some (r, h2) ∧ eqi SCR h h2
theorem QE.mk {d c m : Nat} {a : List Value} {h : pm_Hp} {r : Int32} (e1 : pm_ev d c (.ref 0 :: a) h = some (r, h)) (e2 : pm_ev d m (.ref 169 :: a) h = some (r, h)) : QE d c m a h := ⟨r, h, h, e1, e2, eqi.rf⟩
theorem nI_ite {α : Type} {a b : Nat} {x y : α} (ha : a < 2 ^ 31) (hb : b < 2 ^ 31) : (if nI a = nI b then x else y) = if a = b then x else y := by
  by_cases g : a = b
  · rw [if_pos g, if_pos (by rw [g])]
  · rw [if_neg g, if_neg (fun q => g ((nI_eq ha hb).mp q))]
theorem c_isActor {d A : Nat} {h : pm_Hp} (hd : 1 ≤ d) (Q : AC A h) (v : Int32) : pm_ev d 7 [.ref 1, .int v] h = some (b2 (isT A v), h) := by
  obtain ⟨d, rfl, -⟩ := dpos hd
  rw [e_X1_isActor, Q.2.2.1]
  unfold b2
  by_cases h1 : v < 0 <;> by_cases h2 : v < nI A <;> simp [isT, h1, h2]
theorem m_isActor {d A : Nat} {h : pm_Hp} (hd : 2 ≤ d) (Q : AC A h) (v : Int32) : pm_ev d 162 [.ref 169, .int v] h = some (b2 (isT A v), h) := by
  obtain ⟨d, rfl, -⟩ := dpos hd
  have hA := Q.1
  rw [e_X10_isActor, m_isIn (by omega), pm_bd_s, pm_bw_b2, Q.2.1]
  simp only [le_prd v (show A < 2 ^ 30 by omega)]
theorem c_isKind {d : Nat} {h : pm_Hp} (hd : 1 ≤ d) (v : Int32) : pm_ev d 152 [.int v] h = some (b2 (¬ v < 0 ∧ v ≤ nI 5), h) := by
  obtain ⟨d, rfl, -⟩ := dpos hd
  rw [e_X9_isKind]
  unfold b2
  by_cases h1 : v < 0 <;> by_cases h2 : v ≤ nI 5 <;> simp [h1, h2]
theorem kd_ex {v : Int32} {n : Nat} (hn : n < 2 ^ 29) (hv : ¬ v < 0 ∧ v ≤ nI n) : ∃ k, k ≤ n ∧ v = nI k := by
  obtain ⟨k, hk, e⟩ := isT_ex (T := n + 1) (by omega) ⟨hv.1, by rw [← le_prd v (T := n + 1) (by omega), ← nI_1, Int32.add_sub_cancel]; exact hv.2⟩
  exact ⟨k, by omega, e⟩
theorem q_alone {d T R A n0 n1 : Nat} {L0 L1 : Nat → Ln} {h : pm_Hp} (hd : 9 ≤ d) (S : St T R A n0 n1 L0 L1 h) (v : Int32) : QE d 143 277 [.int v] h := by
  obtain ⟨d, rfl, -⟩ := dpos hd
  obtain ⟨P, Q, W, -, -⟩ := S
  have hT := P.1
  by_cases hv : isT T v
  · obtain ⟨t, ht, rfl⟩ := isT_ex (by omega) hv
    by_cases hk : wq h t 0 = nI 5
    · refine QE.mk (r := -1) ?_ ?_
      · rw [e_X9_alone, c_isWearable_y (by omega) P ht, pm_bd_s, b2_f (fun q => q hk), if_pos rfl]
      · rw [e_X10_alone, m_isThing (by omega) P.2.2.1 hT, pm_bd_s, b2_t hv, if_neg (by decide), m_isTrunk_y (by omega) P ht, pm_bd_s, b2_t hk, if_neg (by decide)]
    · obtain ⟨h', e1, e2, e3⟩ := m_laysDressed (d := d) (by omega) P Q W
      refine ⟨itr (fun o x => if o = t then x else x &&& (drb h A o ^^^ -1)) 0 T (drb h A t), h, h', ?_, ?_, e2.mono (by decide)⟩
      · rw [e_X9_alone, c_isWearable_y (by omega) P ht, pm_bd_s, b2_t hk, if_neg (by decide), c_dressedBy (by omega) P Q (W t ht) ht, pm_bd_s]
        have key := itr_lp (fun i (x : Int32) => pm_rn d kX9_alone 24 [.ref 0, .int (nI t), .int x, .int (nI i)] [] h) (fun o x => if o = t then x else x &&& (drb h A o ^^^ -1)) T (fun _ _ => True) (fun i x hi _ => ⟨?_, trivial⟩) T 0 (drb h A t) (by omega) trivial
        · refine key.1.trans ?_
          rw [b_X9_alone_24, P.2.2.2.1, if_neg (nI_nlt (by omega) (by omega))]
        · show pm_rn d kX9_alone 24 [.ref 0, .int (nI t), .int x, .int (nI i)] [] h = pm_rn d kX9_alone 24 [.ref 0, .int (nI t), .int _, .int (nI (i + 1))] [] h
          rw [b_X9_alone_24, P.2.2.2.1, if_pos (nI_lt hi (by omega)), nI_ite (by omega) (by omega), c_dressedBy (by omega) P Q (W i hi) hi, pm_bd_s, nI_1]
          by_cases g : i = t
          · rw [if_pos g, if_pos g]
          · rw [if_neg g, if_neg g]
      · rw [e_X10_alone, m_isThing (by omega) P.2.2.1 hT, pm_bd_s, b2_t hv, if_neg (by decide), m_isTrunk_y (by omega) P ht, pm_bd_s, b2_f hk, if_pos rfl, e1, pm_bd_s, pm_at_c (by omega) (by omega), e3 t ht]
        have key := itr_lp (fun i (x : Int32) => pm_rn d kX10_alone 31 [.ref 169, .int (nI t), .int x, .int (nI i)] [] h') (fun o x => if o = t then x else x &&& (drb h A o ^^^ -1)) T (fun _ _ => True) (fun i x hi _ => ⟨?_, trivial⟩) T 0 (drb h A t) (by omega) trivial
        · refine key.1.trans ?_
          rw [b_X10_alone_31, e2 170 (by decide), P.2.2.1, if_neg (nI_nlt (by omega) (by omega))]
        · show pm_rn d kX10_alone 31 [.ref 169, .int (nI t), .int x, .int (nI i)] [] h' = pm_rn d kX10_alone 31 [.ref 169, .int (nI t), .int _, .int (nI (i + 1))] [] h'
          rw [b_X10_alone_31, e2 170 (by decide), P.2.2.1, if_pos (nI_lt hi (by omega)), nI_ite (by omega) (by omega), pm_at_c (by omega) (by omega), e3 i hi, nI_1, Int32.and_self]
          by_cases g : i = t
          · rw [if_pos g, if_pos g]
          · rw [if_neg g, if_neg g]
  · refine QE.mk (r := -1) ?_ ?_
    · rw [e_X9_alone, c_isWearable_n (by omega) P hv, pm_bd_s, if_pos rfl]
    · rw [e_X10_alone, m_isThing (by omega) P.2.2.1 hT, pm_bd_s, b2_f hv, if_pos rfl]
