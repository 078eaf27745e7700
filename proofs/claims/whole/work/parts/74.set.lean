theorem c_most0 {d : Nat} {h : pm_Hp} (hd : 1 ≤ d) : pm_ev d 112 [.int (nI 0)] h = some (nI 9, h) := by
  obtain ⟨d, rfl, -⟩ := dpos hd
  rw [e_X9_mostToSet, if_pos (by decide)]
theorem c_row0 {d : Nat} {h : pm_Hp} (hd : 1 ≤ d) : pm_ev d 113 [.ref 0, .int (nI 0)] h = some (nI 3, h) := by
  obtain ⟨d, rfl, -⟩ := dpos hd
  rw [e_X9_rowToSet, if_pos (by decide)]
theorem m_most0 {d : Nat} {h : pm_Hp} (hd : 1 ≤ d) : pm_ev d 174 [.int (nI 0)] h = some (nI 9, h) := by
  obtain ⟨d, rfl, -⟩ := dpos hd
  rw [e_X10_mostOf, if_pos (by decide)]
theorem q_set0 {d T R A n0 n1 q N M c nx : Nat} {L0 L1 : Nat → Ln} {h : pm_Hp} (hd : 5 ≤ d) (F : FS T R A n0 n1 q N M L0 L1 h) (Z : KR T R A c nx h) (I : IM h) (v2 v3 : Int32) : MU d 111 175 [.int (nI 0), .int v2, .int v3] h := by
  obtain ⟨d, rfl, -⟩ := dpos hd
  have P := F.1.1
  have hT := P.1
  by_cases g2 : isT T v2
  · obtain ⟨t, ht, rfl⟩ := isT_ex (by omega) g2
    by_cases g3 : ¬ v3 < 0 ∧ v3 ≤ nI 9
    · have e1 : pm_ev (d + 1) 111 [.ref 0, .int (nI 0), .int (nI t), .int v3] h = some (1, tl (pm_up h 3 t v3)) := by
        rw [e_X9_set, if_neg (by decide), c_isThing (by omega) P.2.2.2.1, pm_bd_s, b2_t g2, if_neg (by decide), if_neg g3.1, c_most0 (by omega), pm_bd_s, if_pos g3.2, c_row0 (by omega), pm_bd_s]
        show pm_rn d kX9_set 52 [.ref 0, .int (nI 0), .int (nI t), .int v3] [.ref 3] h = _
        rw [b_X9_set_3_52, pm_at_c (by omega) (by omega), c_forget (by omega), pm_bd_s]
      have e2 : pm_ev (d + 1) 175 [.ref 169, .int (nI 0), .int (nI t), .int v3] (tl (pm_up h 3 t v3)) = some (1, pm_up (pm_up (tl (pm_up h 3 t v3)) 170 (4 + 20 * t + 2) v3) 169 3 0) := by
        rw [e_X10_set, if_neg (by decide), m_isIn (by omega), pm_bd_s, b2_t (by decide), if_neg (by decide), m_isThing (by omega) (by rw [tl_k (by omega) (by omega), pm_up_n (by omega)]; exact P.2.2.1) hT, pm_bd_s, b2_t g2, if_neg (by decide), m_most0 (by omega), pm_bd_s, m_isIn (by omega), pm_bd_s, b2_t g3, if_neg (by decide), if_neg (by decide), m_things (by omega) _ (nI t) (nI 2 + nI 0) v3 t 2 rfl (by rw [nI_add]) (by omega) (by omega), pm_bd_s, m_forgets (by omega), pm_bd_s]
      have t' := TROW1 F Z I ht (f0 := 2) (k0 := 3) (v := v3) rfl (by omega) (by omega) ((QW.of (F.1.2.1 t ht)).up (by omega) (fun e => absurd e (by decide)) (fun _ => kd_ex (by omega) g3) (fun e => absurd e (by decide)) (fun e => absurd e (by decide)) (fun e => absurd e (by decide)))
      exact ⟨1, _, _, e1, e2, t'.1, Or.inr t'.2⟩
    · refine MU.no (r := 0) ?_ ?_
      · rw [e_X9_set, if_neg (by decide), c_isThing (by omega) P.2.2.2.1, pm_bd_s, b2_t g2, if_neg (by decide)]
        by_cases a : v3 < 0
        · rw [if_pos a]
        · rw [if_neg a, c_most0 (by omega), pm_bd_s, if_neg (fun b => g3 ⟨a, b⟩)]
      · rw [e_X10_set, if_neg (by decide), m_isIn (by omega), pm_bd_s, b2_t (by decide), if_neg (by decide), m_isThing (by omega) P.2.2.1 hT, pm_bd_s, b2_t g2, if_neg (by decide), m_most0 (by omega), pm_bd_s, m_isIn (by omega), pm_bd_s, b2_f g3, if_pos rfl]
  · refine MU.no (r := 0) ?_ ?_
    · rw [e_X9_set, if_neg (by decide), c_isThing (by omega) P.2.2.2.1, pm_bd_s, b2_f g2, if_pos rfl]
    · rw [e_X10_set, if_neg (by decide), m_isIn (by omega), pm_bd_s, b2_t (by decide), if_neg (by decide), m_isThing (by omega) P.2.2.1 hT, pm_bd_s, b2_f g2, if_pos rfl]
theorem c_most1 {d : Nat} {h : pm_Hp} (hd : 1 ≤ d) : pm_ev d 112 [.int (nI 1)] h = some (nI 9, h) := by
  obtain ⟨d, rfl, -⟩ := dpos hd
  rw [e_X9_mostToSet, if_neg (by decide), if_pos (by decide)]
theorem c_row1 {d : Nat} {h : pm_Hp} (hd : 1 ≤ d) : pm_ev d 113 [.ref 0, .int (nI 1)] h = some (nI 4, h) := by
  obtain ⟨d, rfl, -⟩ := dpos hd
  rw [e_X9_rowToSet, if_neg (by decide), if_pos (by decide)]
theorem m_most1 {d : Nat} {h : pm_Hp} (hd : 1 ≤ d) : pm_ev d 174 [.int (nI 1)] h = some (nI 9, h) := by
  obtain ⟨d, rfl, -⟩ := dpos hd
  rw [e_X10_mostOf, if_neg (by decide), if_pos (by decide)]
theorem q_set1 {d T R A n0 n1 q N M c nx : Nat} {L0 L1 : Nat → Ln} {h : pm_Hp} (hd : 5 ≤ d) (F : FS T R A n0 n1 q N M L0 L1 h) (Z : KR T R A c nx h) (I : IM h) (v2 v3 : Int32) : MU d 111 175 [.int (nI 1), .int v2, .int v3] h := by
  obtain ⟨d, rfl, -⟩ := dpos hd
  have P := F.1.1
  have hT := P.1
  by_cases g2 : isT T v2
  · obtain ⟨t, ht, rfl⟩ := isT_ex (by omega) g2
    by_cases g3 : ¬ v3 < 0 ∧ v3 ≤ nI 9
    · have e1 : pm_ev (d + 1) 111 [.ref 0, .int (nI 1), .int (nI t), .int v3] h = some (1, tl (pm_up h 4 t v3)) := by
        rw [e_X9_set, if_neg (by decide), c_isThing (by omega) P.2.2.2.1, pm_bd_s, b2_t g2, if_neg (by decide), if_neg g3.1, c_most1 (by omega), pm_bd_s, if_pos g3.2, c_row1 (by omega), pm_bd_s]
        show pm_rn d kX9_set 52 [.ref 0, .int (nI 1), .int (nI t), .int v3] [.ref 4] h = _
        rw [b_X9_set_4_52, pm_at_c (by omega) (by omega), c_forget (by omega), pm_bd_s]
      have e2 : pm_ev (d + 1) 175 [.ref 169, .int (nI 1), .int (nI t), .int v3] (tl (pm_up h 4 t v3)) = some (1, pm_up (pm_up (tl (pm_up h 4 t v3)) 170 (4 + 20 * t + 3) v3) 169 3 0) := by
        rw [e_X10_set, if_neg (by decide), m_isIn (by omega), pm_bd_s, b2_t (by decide), if_neg (by decide), m_isThing (by omega) (by rw [tl_k (by omega) (by omega), pm_up_n (by omega)]; exact P.2.2.1) hT, pm_bd_s, b2_t g2, if_neg (by decide), m_most1 (by omega), pm_bd_s, m_isIn (by omega), pm_bd_s, b2_t g3, if_neg (by decide), if_neg (by decide), m_things (by omega) _ (nI t) (nI 2 + nI 1) v3 t 3 rfl (by rw [nI_add]) (by omega) (by omega), pm_bd_s, m_forgets (by omega), pm_bd_s]
      have t' := TROW1 F Z I ht (f0 := 3) (k0 := 4) (v := v3) rfl (by omega) (by omega) ((QW.of (F.1.2.1 t ht)).up (by omega) (fun e => absurd e (by decide)) (fun e => absurd e (by decide)) (fun _ => kd_ex (by omega) g3) (fun e => absurd e (by decide)) (fun e => absurd e (by decide)))
      exact ⟨1, _, _, e1, e2, t'.1, Or.inr t'.2⟩
    · refine MU.no (r := 0) ?_ ?_
      · rw [e_X9_set, if_neg (by decide), c_isThing (by omega) P.2.2.2.1, pm_bd_s, b2_t g2, if_neg (by decide)]
        by_cases a : v3 < 0
        · rw [if_pos a]
        · rw [if_neg a, c_most1 (by omega), pm_bd_s, if_neg (fun b => g3 ⟨a, b⟩)]
      · rw [e_X10_set, if_neg (by decide), m_isIn (by omega), pm_bd_s, b2_t (by decide), if_neg (by decide), m_isThing (by omega) P.2.2.1 hT, pm_bd_s, b2_t g2, if_neg (by decide), m_most1 (by omega), pm_bd_s, m_isIn (by omega), pm_bd_s, b2_f g3, if_pos rfl]
  · refine MU.no (r := 0) ?_ ?_
    · rw [e_X9_set, if_neg (by decide), c_isThing (by omega) P.2.2.2.1, pm_bd_s, b2_f g2, if_pos rfl]
    · rw [e_X10_set, if_neg (by decide), m_isIn (by omega), pm_bd_s, b2_t (by decide), if_neg (by decide), m_isThing (by omega) P.2.2.1 hT, pm_bd_s, b2_f g2, if_pos rfl]
theorem c_most2 {d : Nat} {h : pm_Hp} (hd : 1 ≤ d) : pm_ev d 112 [.int (nI 2)] h = some (nI 999, h) := by
  obtain ⟨d, rfl, -⟩ := dpos hd
  rw [e_X9_mostToSet, if_neg (by decide), if_neg (by decide), if_pos (by decide)]
theorem c_row2 {d : Nat} {h : pm_Hp} (hd : 1 ≤ d) : pm_ev d 113 [.ref 0, .int (nI 2)] h = some (nI 5, h) := by
  obtain ⟨d, rfl, -⟩ := dpos hd
  rw [e_X9_rowToSet, if_neg (by decide), if_neg (by decide), if_pos (by decide)]
theorem m_most2 {d : Nat} {h : pm_Hp} (hd : 1 ≤ d) : pm_ev d 174 [.int (nI 2)] h = some (nI 999, h) := by
  obtain ⟨d, rfl, -⟩ := dpos hd
  rw [e_X10_mostOf, if_neg (by decide), if_neg (by decide), if_pos (by decide)]
theorem q_set2 {d T R A n0 n1 q N M c nx : Nat} {L0 L1 : Nat → Ln} {h : pm_Hp} (hd : 5 ≤ d) (F : FS T R A n0 n1 q N M L0 L1 h) (Z : KR T R A c nx h) (I : IM h) (v2 v3 : Int32) : MU d 111 175 [.int (nI 2), .int v2, .int v3] h := by
  obtain ⟨d, rfl, -⟩ := dpos hd
  have P := F.1.1
  have hT := P.1
  by_cases g2 : isT T v2
  · obtain ⟨t, ht, rfl⟩ := isT_ex (by omega) g2
    by_cases g3 : ¬ v3 < 0 ∧ v3 ≤ nI 999
    · have e1 : pm_ev (d + 1) 111 [.ref 0, .int (nI 2), .int (nI t), .int v3] h = some (1, tl (pm_up h 5 t v3)) := by
        rw [e_X9_set, if_neg (by decide), c_isThing (by omega) P.2.2.2.1, pm_bd_s, b2_t g2, if_neg (by decide), if_neg g3.1, c_most2 (by omega), pm_bd_s, if_pos g3.2, c_row2 (by omega), pm_bd_s]
        show pm_rn d kX9_set 52 [.ref 0, .int (nI 2), .int (nI t), .int v3] [.ref 5] h = _
        rw [b_X9_set_5_52, pm_at_c (by omega) (by omega), c_forget (by omega), pm_bd_s]
      have e2 : pm_ev (d + 1) 175 [.ref 169, .int (nI 2), .int (nI t), .int v3] (tl (pm_up h 5 t v3)) = some (1, pm_up (pm_up (tl (pm_up h 5 t v3)) 170 (4 + 20 * t + 4) v3) 169 3 0) := by
        rw [e_X10_set, if_neg (by decide), m_isIn (by omega), pm_bd_s, b2_t (by decide), if_neg (by decide), m_isThing (by omega) (by rw [tl_k (by omega) (by omega), pm_up_n (by omega)]; exact P.2.2.1) hT, pm_bd_s, b2_t g2, if_neg (by decide), m_most2 (by omega), pm_bd_s, m_isIn (by omega), pm_bd_s, b2_t g3, if_neg (by decide), if_neg (by decide), m_things (by omega) _ (nI t) (nI 2 + nI 2) v3 t 4 rfl (by rw [nI_add]) (by omega) (by omega), pm_bd_s, m_forgets (by omega), pm_bd_s]
      have t' := TROW1 F Z I ht (f0 := 4) (k0 := 5) (v := v3) rfl (by omega) (by omega) ((QW.of (F.1.2.1 t ht)).up (by omega) (fun e => absurd e (by decide)) (fun e => absurd e (by decide)) (fun e => absurd e (by decide)) (fun _ => kd_ex (by omega) g3) (fun e => absurd e (by decide)))
      exact ⟨1, _, _, e1, e2, t'.1, Or.inr t'.2⟩
    · refine MU.no (r := 0) ?_ ?_
      · rw [e_X9_set, if_neg (by decide), c_isThing (by omega) P.2.2.2.1, pm_bd_s, b2_t g2, if_neg (by decide)]
        by_cases a : v3 < 0
        · rw [if_pos a]
        · rw [if_neg a, c_most2 (by omega), pm_bd_s, if_neg (fun b => g3 ⟨a, b⟩)]
      · rw [e_X10_set, if_neg (by decide), m_isIn (by omega), pm_bd_s, b2_t (by decide), if_neg (by decide), m_isThing (by omega) P.2.2.1 hT, pm_bd_s, b2_t g2, if_neg (by decide), m_most2 (by omega), pm_bd_s, m_isIn (by omega), pm_bd_s, b2_f g3, if_pos rfl]
  · refine MU.no (r := 0) ?_ ?_
    · rw [e_X9_set, if_neg (by decide), c_isThing (by omega) P.2.2.2.1, pm_bd_s, b2_f g2, if_pos rfl]
    · rw [e_X10_set, if_neg (by decide), m_isIn (by omega), pm_bd_s, b2_t (by decide), if_neg (by decide), m_isThing (by omega) P.2.2.1 hT, pm_bd_s, b2_f g2, if_pos rfl]
theorem c_most3 {d : Nat} {h : pm_Hp} (hd : 1 ≤ d) : pm_ev d 112 [.int (nI 3)] h = some (nI 20, h) := by
  obtain ⟨d, rfl, -⟩ := dpos hd
  rw [e_X9_mostToSet, if_neg (by decide), if_neg (by decide), if_neg (by decide), if_pos (by decide)]
theorem c_row3 {d : Nat} {h : pm_Hp} (hd : 1 ≤ d) : pm_ev d 113 [.ref 0, .int (nI 3)] h = some (nI 12, h) := by
  obtain ⟨d, rfl, -⟩ := dpos hd
  rw [e_X9_rowToSet, if_neg (by decide), if_neg (by decide), if_neg (by decide)]
theorem m_most3 {d : Nat} {h : pm_Hp} (hd : 1 ≤ d) : pm_ev d 174 [.int (nI 3)] h = some (nI 20, h) := by
  obtain ⟨d, rfl, -⟩ := dpos hd
  rw [e_X10_mostOf, if_neg (by decide), if_neg (by decide), if_neg (by decide)]
theorem q_set3 {d T R A n0 n1 q N M c nx : Nat} {L0 L1 : Nat → Ln} {h : pm_Hp} (hd : 5 ≤ d) (F : FS T R A n0 n1 q N M L0 L1 h) (Z : KR T R A c nx h) (I : IM h) (v2 v3 : Int32) : MU d 111 175 [.int (nI 3), .int v2, .int v3] h := by
  obtain ⟨d, rfl, -⟩ := dpos hd
  have P := F.1.1
  have hT := P.1
  by_cases g2 : isT T v2
  · obtain ⟨t, ht, rfl⟩ := isT_ex (by omega) g2
    by_cases g3 : ¬ v3 < 0 ∧ v3 ≤ nI 20
    · have e1 : pm_ev (d + 1) 111 [.ref 0, .int (nI 3), .int (nI t), .int v3] h = some (1, tl (pm_up h 12 t v3)) := by
        rw [e_X9_set, if_neg (by decide), c_isThing (by omega) P.2.2.2.1, pm_bd_s, b2_t g2, if_neg (by decide), if_neg g3.1, c_most3 (by omega), pm_bd_s, if_pos g3.2, c_row3 (by omega), pm_bd_s]
        show pm_rn d kX9_set 52 [.ref 0, .int (nI 3), .int (nI t), .int v3] [.ref 12] h = _
        rw [b_X9_set_12_52, pm_at_c (by omega) (by omega), c_forget (by omega), pm_bd_s]
      have e2 : pm_ev (d + 1) 175 [.ref 169, .int (nI 3), .int (nI t), .int v3] (tl (pm_up h 12 t v3)) = some (1, pm_up (pm_up (tl (pm_up h 12 t v3)) 170 (4 + 20 * t + 1) v3) 169 3 0) := by
        rw [e_X10_set, if_neg (by decide), m_isIn (by omega), pm_bd_s, b2_t (by decide), if_neg (by decide), m_isThing (by omega) (by rw [tl_k (by omega) (by omega), pm_up_n (by omega)]; exact P.2.2.1) hT, pm_bd_s, b2_t g2, if_neg (by decide), m_most3 (by omega), pm_bd_s, m_isIn (by omega), pm_bd_s, b2_t g3, if_neg (by decide), if_pos rfl, m_things (by omega) _ (nI t) 1 v3 t 1 rfl rfl (by omega) (by omega), pm_bd_s, m_forgets (by omega), pm_bd_s]
      have t' := TROW1 F Z I ht (f0 := 1) (k0 := 12) (v := v3) rfl (by omega) (by omega) ((QW.of (F.1.2.1 t ht)).up (by omega) (fun _ => kd_ex (by omega) g3) (fun e => absurd e (by decide)) (fun e => absurd e (by decide)) (fun e => absurd e (by decide)) (fun e => absurd e (by decide)))
      exact ⟨1, _, _, e1, e2, t'.1, Or.inr t'.2⟩
    · refine MU.no (r := 0) ?_ ?_
      · rw [e_X9_set, if_neg (by decide), c_isThing (by omega) P.2.2.2.1, pm_bd_s, b2_t g2, if_neg (by decide)]
        by_cases a : v3 < 0
        · rw [if_pos a]
        · rw [if_neg a, c_most3 (by omega), pm_bd_s, if_neg (fun b => g3 ⟨a, b⟩)]
      · rw [e_X10_set, if_neg (by decide), m_isIn (by omega), pm_bd_s, b2_t (by decide), if_neg (by decide), m_isThing (by omega) P.2.2.1 hT, pm_bd_s, b2_t g2, if_neg (by decide), m_most3 (by omega), pm_bd_s, m_isIn (by omega), pm_bd_s, b2_f g3, if_pos rfl]
  · refine MU.no (r := 0) ?_ ?_
    · rw [e_X9_set, if_neg (by decide), c_isThing (by omega) P.2.2.2.1, pm_bd_s, b2_f g2, if_pos rfl]
    · rw [e_X10_set, if_neg (by decide), m_isIn (by omega), pm_bd_s, b2_t (by decide), if_neg (by decide), m_isThing (by omega) P.2.2.1 hT, pm_bd_s, b2_f g2, if_pos rfl]
theorem q_set {d T R A n0 n1 q N M c nx : Nat} {L0 L1 : Nat → Ln} {h : pm_Hp} (hd : 5 ≤ d) (F : FS T R A n0 n1 q N M L0 L1 h) (Z : KR T R A c nx h) (I : IM h) (v1 v2 v3 : Int32) : MU d 111 175 [.int v1, .int v2, .int v3] h := by
  rcases nI_cs (v := v1) (n := 3) (by omega) with ⟨k, hk, rfl⟩ | ⟨g0, g⟩
  · have : k = 0 ∨ k = 1 ∨ k = 2 ∨ k = 3 := by omega
    rcases this with rfl | rfl | rfl | rfl
    · exact q_set0 hd F Z I v2 v3
    · exact q_set1 hd F Z I v2 v3
    · exact q_set2 hd F Z I v2 v3
    · exact q_set3 hd F Z I v2 v3
  · obtain ⟨d, rfl, -⟩ := dpos hd
    have P := F.1.1
    have hT := P.1
    by_cases g4 : v1 = nI 4
    · have e1 : pm_ev (d + 1) 111 [.ref 0, .int v1, .int v2, .int v3] h = some (1, tl (pm_up h 2 8 v3)) := by rw [e_X9_set, if_pos g4, c_forget (by omega), pm_bd_s]
      have e2 : pm_ev (d + 1) 175 [.ref 169, .int v1, .int v2, .int v3] (tl (pm_up h 2 8 v3)) = some (1, pm_up (pm_up (tl (pm_up h 2 8 v3)) 170 1 v3) 169 3 0) := by rw [e_X10_set, if_pos g4, m_forgets (by omega), pm_bd_s]
      have S := F.1.2.2.1
      obtain ⟨s1, s2, s3, s4, s5, s6⟩ := S
      have w : ∀ j, j ≠ 1 → (pm_up (pm_up (tl (pm_up h 2 8 v3)) 170 1 v3) 169 3 0) 170 j = h 170 j := fun j hj => by rw [pm_up_k (by omega), pm_up_j hj, tl_k (by omega) (by omega), pm_up_n (by omega)]
      have c : ∀ k, k ≠ 2 → k ≠ 77 → k ≠ 150 → k ≠ 169 → k ≠ 170 → (pm_up (pm_up (tl (pm_up h 2 8 v3)) 170 1 v3) 169 3 0) k = h k := fun k b1 b2 b3 b4 b5 => by rw [pm_up_n b4, pm_up_n b5, tl_k b2 b3, pm_up_n b1]
      have c2 : ∀ j, (pm_up (pm_up (tl (pm_up h 2 8 v3)) 170 1 v3) 169 3 0) 2 j = pm_up h 2 8 v3 2 j := fun j => by rw [pm_up_k (by omega), pm_up_k (by omega), tl_k (by omega) (by omega)]
      have t := TELL (T' := T) (R' := R) (A' := A) F Z I (hx := pm_up h 2 8 v3) (hy := pm_up (tl (pm_up h 2 8 v3)) 170 1 v3) (fun k hk => pm_up_n (by omega)) (pm_up_k (by omega)) (fun k hk => pm_up_n hk) (fun j hj => by rw [pm_up_j (by omega), tl_k (by omega) (by omega), pm_up_n (by omega)]) (Nat.le_refl _) (F.1.g (Nat.le_refl _) P.2.1 (Nat.le_refl _) (fun j h1 h2 => w j (by omega)) (by rw [c 1 (by omega) (by omega) (by omega) (by omega) (by omega)]) (by rw [w _ (by omega)]; exact P.2.2.2.2.1) (by rw [c 1 (by omega) (by omega) (by omega) (by omega) (by omega)]; exact P.hR) (fun r hr => by rw [c 15 (by omega) (by omega) (by omega) (by omega) (by omega), w _ (by omega)]; exact P.rack hr) (fun k h1 h2 => c k (by omega) (by omega) (by omega) (by omega) (by omega)) (fun j _ => by rw [c 14 (by omega) (by omega) (by omega) (by omega) (by omega)]) ⟨by rw [c2, pm_up_j (by omega), w _ (by omega), s1], by rw [c2, pm_up_s, pm_up_k (by omega), pm_up_s], by rw [c2, pm_up_j (by omega), w _ (by omega), s3], by rw [c2, pm_up_j (by omega), w _ (by omega), s4], by rw [w _ (by omega)]; exact s5, by rw [w _ (by omega)]; exact s6⟩) (F.2.1.rg (fun j h1 h2 => w j (by omega)) (w _ (by omega)) (by rw [c 1 (by omega) (by omega) (by omega) (by omega) (by omega)]) (fun j _ => by rw [c 14 (by omega) (by omega) (by omega) (by omega) (by omega)]))
      exact ⟨1, _, _, e1, e2, t.1, Or.inr t.2⟩
    · refine MU.no (r := 0) ?_ ?_
      · rw [e_X9_set, if_neg g4, c_isThing (by omega) P.2.2.2.1, pm_bd_s]
        by_cases g2 : isT T v2
        · rw [b2_t g2, if_neg (by decide)]
          by_cases a : v3 < 0
          · rw [if_pos a]
          · obtain ⟨d, rfl, -⟩ := dpos (show 3 + 1 ≤ d by omega)
            rw [if_neg a, e_X9_mostToSet, if_neg (show ¬ v1 = 0 from g 0 (by omega)), if_neg (show ¬ v1 = 1 from g 1 (by omega)), if_neg (g 2 (by omega)), if_neg (g 3 (by omega)), pm_bd_s, if_neg (fun b => a (Int32.lt_of_le_of_lt b (by decide)))]
        · rw [b2_f g2, if_pos rfl]
      · rw [e_X10_set, if_neg g4, m_isIn (by omega), pm_bd_s, b2_f g0, if_pos rfl]
