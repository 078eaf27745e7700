def ltf (h : pm_Hp) (t : Nat) (x : Int32) : Int32 := if wq h t 5 = nI 100 ∧ wq h t 7 < h 170 0 then x ||| pm_shl 1 (nI t) else x
theorem c_late {d T R : Nat} {h : pm_Hp} (hd : 1 ≤ d) (P : Pl T R h) (S : SL h) : pm_ev d 25 [.ref 1] h = some (itr (ltf h) 0 T 0, h) := by
  obtain ⟨d, rfl, -⟩ := dpos hd
  have hT := P.1
  rw [e_X1_late]
  have key := itr_lp (fun i (x : Int32) => pm_rn d kX1_late 4 [.ref 1, .int x, .int (nI i)] [] h) (ltf h) T (fun _ _ => True) (fun i x hi _ => ⟨?_, trivial⟩) T 0 0 (by omega) trivial
  · refine key.1.trans ?_
    rw [b_X1_late_4, P.2.2.2.1, if_neg (nI_nlt (by omega) (by omega))]
  · show pm_rn d kX1_late 4 [.ref 1, .int x, .int (nI i)] [] h = pm_rn d kX1_late 4 [.ref 1, .int (ltf h i x), .int (nI (i + 1))] [] h
    have r7 : h 8 i = wq h i 7 := P.2.2.2.2.2.2.1 i 7 hi (by omega) (by omega)
    rw [b_X1_late_4, P.2.2.2.1, if_pos (nI_lt hi (by omega)), pm_at_c (by omega) (by omega), pm_at_c (by omega) (by omega), P.r5 hi, r7, S.1, nI_1]
    unfold ltf
    by_cases c1 : wq h i 5 = nI 100
    · rw [if_pos c1]
      by_cases c2 : wq h i 7 < h 170 0
      · rw [if_pos c2, if_pos ⟨c1, c2⟩]
      · rw [if_neg c2, if_neg (fun q => c2 q.2)]
    · rw [if_neg c1, if_neg (fun q => c1 q.1)]
theorem m_late {d T R : Nat} {h : pm_Hp} (hd : 3 ≤ d) (P : Pl T R h) : pm_ev d 289 [.ref 169] h = some (itr (ltf h) 0 T 0, h) := by
  obtain ⟨d, rfl, -⟩ := dpos hd
  have hT := P.1
  rw [e_X10_late]
  have key := itr_lp (fun i (x : Int32) => pm_rn d kX10_late 4 [.ref 169, .int x, .int (nI i)] [] h) (ltf h) T (fun _ _ => True) (fun i x hi _ => ⟨?_, trivial⟩) T 0 0 (by omega) trivial
  · refine key.1.trans ?_
    rw [b_X10_late_4, P.2.2.1, if_neg (nI_nlt (by omega) (by omega))]
  · show pm_rn d kX10_late 4 [.ref 169, .int x, .int (nI i)] [] h = pm_rn d kX10_late 4 [.ref 169, .int (ltf h i x), .int (nI (i + 1))] [] h
    rw [b_X10_late_4, P.2.2.1, if_pos (nI_lt hi (by omega)), m_isOutItself (by omega) (by omega), pm_bd_s, b2_if0, m_of0 (by omega) h (nI i) (nI 7) i 7 rfl rfl (by omega) (by omega), pm_bd_s, nI_1, Int32.or_zero]
    unfold ltf
    by_cases c1 : wq h i 5 = nI 100
    · rw [if_pos c1]
      by_cases c2 : wq h i 7 < h 170 0
      · rw [if_pos c2, if_pos ⟨c1, c2⟩]
      · rw [if_neg c2, if_neg (fun q => c2 q.2)]
    · rw [if_neg c1, if_neg (fun q => c1 q.1)]
theorem q_look {d T R A n0 n1 q N M : Nat} {L0 L1 : Nat → Ln} {h : pm_Hp} (hd : 5 ≤ d) (S : St T R A n0 n1 L0 L1 h) (X : SL h) (Y : SN A N M h) (Z : WS q h) (kc : h 77 2 = h 169 3) (v : Int32) : QE d 135 292 [.int v] h := by
  obtain ⟨d, rfl, -⟩ := dpos hd
  have P := S.1
  have hR : R ≤ 4 := P.2.1
  have hN : N ≤ 6 := Y.1
  have eR := P.2.2.2.2.1
  have eN := Y.2.2.2.1
  rcases nI_cs (v := v) (n := 13) (by omega) with ⟨k, hk, rfl⟩ | ⟨-, g⟩
  · have simple : ∀ (r : Int32) (k : Nat), pm_ev (d + 1) 135 [.ref 0, .int (nI k)] h = some (r, h) → pm_ev (d + 1) 292 [.ref 169, .int (nI k)] h = some (r, h) → QE (d + 1) 135 292 [.int (nI k)] h := fun r k a b => QE.mk a b
    have : k = 0 ∨ k = 1 ∨ k = 2 ∨ k = 3 ∨ k = 4 ∨ k = 5 ∨ k = 6 ∨ k = 7 ∨ k = 8 ∨ k = 9 ∨ k = 10 ∨ k = 11 ∨ k = 12 ∨ k = 13 := by omega
    rcases this with rfl | rfl | rfl | rfl | rfl | rfl | rfl | rfl | rfl | rfl | rfl | rfl | rfl | rfl
    · exact QE.mk (r := nI T) ((e_X9_look _ _ _).trans (congrArg (fun z => some (z, h)) P.2.2.2.1)) ((e_X10_look _ _ _).trans (congrArg (fun z => some (z, h)) P.2.2.1))
    · exact QE.mk (r := nI A) ((e_X9_look _ _ _).trans (congrArg (fun z => some (z, h)) S.2.1.2.2.1)) ((e_X10_look _ _ _).trans (congrArg (fun z => some (z, h)) S.2.1.2.1))
    · exact QE.mk (r := nI R) ((e_X9_look _ _ _).trans (congrArg (fun z => some (z, h)) P.hR)) ((e_X10_look _ _ _).trans (congrArg (fun z => some (z, h)) eR))
    · exact QE.mk (r := h 170 0) ((e_X9_look _ _ _).trans (congrArg (fun z => some (z, h)) X.1)) (e_X10_look _ _ _)
    · exact QE.mk (r := h 170 1) ((e_X9_look _ _ _).trans (congrArg (fun z => some (z, h)) X.2.1)) (e_X10_look _ _ _)
    · exact QE.mk (r := h 170 2) ((e_X9_look _ _ _).trans (congrArg (fun z => some (z, h)) X.2.2.1)) (e_X10_look _ _ _)
    · exact QE.mk (r := h 170 3) ((e_X9_look _ _ _).trans (congrArg (fun z => some (z, h)) X.2.2.2.1)) (e_X10_look _ _ _)
    · exact QE.mk (r := nI n0) ((e_X9_look _ _ _).trans (congrArg (fun z => some (z, h)) S.2.2.2.1.1)) ((e_X10_look _ _ _).trans (congrArg (fun z => some (z, h)) S.2.2.2.1.2.1))
    · exact QE.mk (r := nI n1) ((e_X9_look _ _ _).trans (congrArg (fun z => some (z, h)) S.2.2.2.2.1)) ((e_X10_look _ _ _).trans (congrArg (fun z => some (z, h)) S.2.2.2.2.2.1))
    · exact QE.mk (r := nI N) ((e_X9_look _ _ _).trans (congrArg (fun z => some (z, h)) Y.2.2.1)) ((e_X10_look _ _ _).trans (congrArg (fun z => some (z, h)) eN))
    · exact QE.mk (r := nI M) ((e_X9_look _ _ _).trans (congrArg (fun z => some (z, h)) Y.2.2.2.2.1)) ((e_X10_look _ _ _).trans (congrArg (fun z => some (z, h)) Y.2.2.2.2.2.1))
    · exact QE.mk (r := h 169 3) ((e_X9_look _ _ _).trans (congrArg (fun z => some (z, h)) kc)) (e_X10_look _ _ _)
    · refine QE.mk (r := itr (ltf h) 0 T 0) ((e_X9_look _ _ _).trans ?_) ((e_X10_look _ _ _).trans ?_)
      · show (pm_bd (pm_ev d 25 [.ref 1] h) fun r1 y1 => some (r1, y1)) = _
        rw [c_late (by omega) P X, pm_bd_s]
      · show (pm_bd (pm_ev d 289 [.ref 169] h) fun r1 y1 => some (r1, y1)) = _
        rw [m_late (by omega) P, pm_bd_s]
    · exact QE.mk (r := nI q) ((e_X9_look _ _ _).trans (congrArg (fun z => some (z, h)) Z.2.1)) ((e_X10_look _ _ _).trans (congrArg (fun z => some (z, h)) Z.2.2.1))
  · have g0 : ¬ v = 0 := g 0 (by decide)
    have g1 : ¬ v = 1 := g 1 (by decide)
    have c0 : pm_ev (d + 1) 135 [.ref 0, .int v] h = pm_bd (pm_ev d 136 [.ref 0, .int v] h) fun r2 y2 => some (r2, y2) := by
      rw [e_X9_look, if_neg g0, if_neg g1, if_neg (g 2 (by decide)), if_neg (g 3 (by decide)), if_neg (g 4 (by decide)), if_neg (g 5 (by decide)), if_neg (g 6 (by decide)), if_neg (g 7 (by decide)), if_neg (g 8 (by decide)), if_neg (g 9 (by decide)), if_neg (g 10 (by decide)), if_neg (g 11 (by decide)), if_neg (g 12 (by decide)), if_neg (g 13 (by decide))]
    have m0 : pm_ev (d + 1) 292 [.ref 169, .int v] h = if ¬ v < nI 20 ∧ v ≤ nI (19 + R) then (pm_at (((nI 362) + v) - (nI 20)) 2684 fun j2 => some (h 170 j2, h)) else (if ¬ v < nI 30 ∧ v ≤ nI (29 + N) then (pm_at (((nI 366) + v) - (nI 30)) 2684 fun j1 => some (h 170 j1, h)) else some (-1000000, h)) := by
      rw [e_X10_look, if_neg g0, if_neg g1, if_neg (g 2 (by decide)), if_neg (g 3 (by decide)), if_neg (g 4 (by decide)), if_neg (g 5 (by decide)), if_neg (g 6 (by decide)), if_neg (g 7 (by decide)), if_neg (g 8 (by decide)), if_neg (g 9 (by decide)), if_neg (g 10 (by decide)), if_neg (g 11 (by decide)), if_neg (g 12 (by decide)), if_neg (g 13 (by decide)), m_isIn (by omega), pm_bd_s, b2_if0, m_isIn (by omega), pm_bd_s, b2_if0, eR, eN, nI_add, nI_add]
    obtain ⟨d, rfl, -⟩ := dpos (show 4 ≤ d by omega)
    have c1 := e_X9_lookInRow d h v
    rw [P.hR, Y.2.2.1, nI_add, nI_add] at c1
    rcases nI_cs (v := v) (n := 100) (by omega) with ⟨k, hk, rfl⟩ | ⟨o, -⟩
    · have lt : ∀ a b : Nat, a ≤ 200 → b ≤ 200 → (nI a < nI b ↔ a < b) := fun a b ha hb => nI_ltI (by omega) (by omega)
      have le : ∀ a b : Nat, a ≤ 200 → b ≤ 200 → (nI a ≤ nI b ↔ a ≤ b) := fun a b ha hb => nI_leI (by omega) (by omega)
      by_cases r1 : 20 ≤ k ∧ k < 20 + R
      · obtain ⟨j, rfl⟩ : ∃ j, k = 20 + j := ⟨k - 20, by omega⟩
        refine QE.mk (r := h 170 (362 + j)) (c0.trans ?_) (m0.trans ?_)
        · rw [c1, if_neg (fun z => by have := (lt _ _ (by omega) (by omega)).mp z; omega), if_pos ((lt _ _ (by omega) (by omega)).mpr r1.2), pm_at_n (j := j) (by rw [pk_sub (by omega)]; congr 1; omega) (by omega) (by omega), pm_bd_s, (P.rack (by omega)).1]
        · rw [if_pos ⟨fun z => by have := (lt _ _ (by omega) (by omega)).mp z; omega, (le _ _ (by omega) (by omega)).mpr (by omega)⟩, pm_at_n (j := 362 + j) (by rw [nI_add, pk_sub (by omega)]; congr 1; omega) (by omega) (by omega)]
      · have nm : ¬ (¬ nI k < nI 20 ∧ nI k ≤ nI (19 + R)) := fun z => r1 ⟨Nat.not_lt.mp (fun y => z.1 ((lt _ _ (by omega) (by omega)).mpr y)), by have := (le _ _ (by omega) (by omega)).mp z.2; omega⟩
        have cr : pm_ev (d + 1) 136 [.ref 0, .int (nI k)] h = if nI k < nI 30 then (some ((-1000000), h)) else (if nI k < nI (30 + N) then (pm_at (nI k - (nI 30)) 6 fun j1 => some (h 33 j1, h)) else (some ((-1000000), h))) := by
          rw [c1]
          by_cases y : nI k < nI 20
          · rw [if_pos y]
          · rw [if_neg y, if_neg (fun z => r1 ⟨Nat.not_lt.mp (fun x => y ((lt _ _ (by omega) (by omega)).mpr x)), (lt _ _ (by omega) (by omega)).mp z⟩)]
        rw [if_neg nm] at m0
        by_cases r2 : 30 ≤ k ∧ k < 30 + N
        · obtain ⟨j, rfl⟩ : ∃ j, k = 30 + j := ⟨k - 30, by omega⟩
          refine QE.mk (r := h 170 (366 + j)) (c0.trans ?_) (m0.trans ?_)
          · rw [cr, if_neg (fun z => by have := (lt _ _ (by omega) (by omega)).mp z; omega), if_pos ((lt _ _ (by omega) (by omega)).mpr r2.2), pm_at_n (j := j) (by rw [pk_sub (by omega)]; congr 1; omega) (by omega) (by omega), pm_bd_s, (Y.2.2.2.2.2.2.1 j (by omega)).1]
          · rw [if_pos ⟨fun z => by have := (lt _ _ (by omega) (by omega)).mp z; omega, (le _ _ (by omega) (by omega)).mpr (by omega)⟩, pm_at_n (j := 366 + j) (by rw [nI_add, pk_sub (by omega)]; congr 1; omega) (by omega) (by omega)]
        · refine QE.mk (r := -1000000) (c0.trans ?_) (m0.trans ?_)
          · rw [cr]
            by_cases y : nI k < nI 30
            · rw [if_pos y, pm_bd_s]
            · rw [if_neg y, if_neg (fun z => r2 ⟨Nat.not_lt.mp (fun x => y ((lt _ _ (by omega) (by omega)).mpr x)), (lt _ _ (by omega) (by omega)).mp z⟩), pm_bd_s]
          · rw [if_neg (fun z => r2 ⟨Nat.not_lt.mp (fun y => z.1 ((lt _ _ (by omega) (by omega)).mpr y)), by have := (le _ _ (by omega) (by omega)).mp z.2; omega⟩)]
    · have far : ∀ a b : Nat, a ≤ 100 → b ≤ 100 → ¬ (¬ v < nI a ∧ v ≤ nI b) := fun a b ha hb z => o ⟨fun y => z.1 (Int32.lt_of_lt_of_le y (by
        have := nI_le (a := 0) (b := a) (by omega) (by omega)
        exact this)), Int32.le_trans z.2 (nI_le hb (by omega))⟩
      refine QE.mk (r := -1000000) (c0.trans ?_) (m0.trans ?_)
      · rw [c1]
        have f2 : ¬ v < nI 20 → ¬ v < nI (20 + R) := fun a b => far 20 (20 + R) (by omega) (by omega) ⟨a, Int32.le_of_lt b⟩
        have f3 : ¬ v < nI 30 → ¬ v < nI (30 + N) := fun a b => far 30 (30 + N) (by omega) (by omega) ⟨a, Int32.le_of_lt b⟩
        by_cases y : v < nI 20
        · rw [if_pos y]
          by_cases y2 : v < nI 30
          · rw [if_pos y2, pm_bd_s]
          · rw [if_neg y2, if_neg (f3 y2), pm_bd_s]
        · rw [if_neg y, if_neg (f2 y)]
          by_cases y2 : v < nI 30
          · rw [if_pos y2, pm_bd_s]
          · rw [if_neg y2, if_neg (f3 y2), pm_bd_s]
      · rw [if_neg (far 20 (19 + R) (by omega) (by omega)), if_neg (far 30 (29 + N) (by omega) (by omega))]
