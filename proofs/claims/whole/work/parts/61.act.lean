/-- the class after keeping a stock -/
def kpC (c nx : Nat) (h h' : pm_Hp) : Prop := (∀ k, (k < 79 + 9 * nx ∨ 88 + 9 * nx ≤ k) → k ≠ 77 → k ≠ 150 → h' k = h k) ∧ (∀ j, j ≠ 1 → j ≠ 2 → h' 77 j = h 77 j) ∧ h' 77 1 = nI ((nx + 1) % 6) ∧ h' 77 2 = nI (if c = 6 then 6 else c + 1) ∧ h' 150 0 = 0 ∧ (∀ j, j ≠ 0 → h' 150 j = h 150 j) ∧ (∀ j, 8 ≤ j → j < 12 → h' (79 + 9 * nx) j = h 2 j) ∧ (∀ r j, 1 ≤ r → r ≤ 7 → j < 16 → h' (79 + 9 * nx + r) j = h (2 + r) j) ∧ ∀ j, j < 80 → h' (79 + 9 * nx + 8) j = h 10 j
theorem kp_min {c : Nat} (hc : c ≤ 6) : (if nI c + 1 < nI 6 then nI c + 1 else nI 6) = nI (if c = 6 then 6 else c + 1) := by
  rw [nI_1, ltn_ite (by omega) (by omega)]
  by_cases e : c = 6
  · rw [if_pos e, if_neg (by omega)]
  · rw [if_neg e]
    by_cases e5 : c + 1 < 6
    · rw [if_pos e5]
    · rw [if_neg e5, show c + 1 = 6 by omega]
theorem c_startAct {d c nx : Nat} {h : pm_Hp} (hd : 6 ≤ d) (hc : c ≤ 6) (hn : nx < 6) (e1 : h 77 1 = nI nx) (e2 : h 77 2 = nI c) : ∃ h', pm_ev d 128 [.ref 0] h = some (0, h') ∧ kpC c nx h h' := by
  obtain ⟨d, rfl, -⟩ := dpos hd
  obtain ⟨d, rfl, -⟩ := dpos (show 4 + 1 ≤ d by omega)
  have : nx = 0 ∨ nx = 1 ∨ nx = 2 ∨ nx = 3 ∨ nx = 4 ∨ nx = 5 := by omega
  rw [e_X9_startAct, e_X2_keep]
  rcases this with rfl | rfl | rfl | rfl | rfl | rfl
  · rw [pm_at_n e1 (by omega) (by omega)]
    show ∃ h', (pm_bd (pm_rn d kX2_keep 9 [.ref 77, .ref 2] [.ref 79] h) fun _ y1 => pm_bd (pm_ev (d + 1) 53 [.ref 150] y1) fun _ y2 => some (0, y2)) = some (0, h') ∧ _
    obtain ⟨y, f1, g1, g2, g3, g4⟩ := c_copyS_k0 (d := d) (by omega) h
    have q1 : y 77 1 = nI 0 := by rw [g1 77 (by omega), e1]
    have q2 : y 77 2 = nI c := by rw [g1 77 (by omega), e2]
    rw [b_X2_keep_0_9, f1, pm_bd_s, q1, q2, e_min (by omega), kp_min hc, pm_bd_s, pm_bd_s, e_X4_forgetPlan, pm_bd_s]
    refine ⟨_, rfl, fun k h1 h2 h3 => ?_, fun j h1 h2 => ?_, ?_, ?_, ?_, fun j h1 => ?_, fun j h1 h2 => ?_, fun r j h1 h2 h3 => ?_, fun j h1 => ?_⟩
    · rw [pm_up_n h3, pm_up_n h2, pm_up_n h2]; exact g1 k h1
    · rw [pm_up_k (by decide), pm_up_j h2, pm_up_j h1, g1 77 (by omega)]
    · rw [pm_up_k (by decide), pm_up_j (by decide), pm_up_s]; decide
    · rw [pm_up_k (by decide), pm_up_s]
    · rw [pm_up_s]
    · rw [pm_up_j h1, pm_up_k (by decide), pm_up_k (by decide), g1 150 (by omega)]
    · rw [pm_up_k (by decide), pm_up_k (by decide), pm_up_k (by decide)]; exact g2 j h1 h2
    · rw [pm_up_k (by omega), pm_up_k (by omega), pm_up_k (by omega)]; exact g3 r j h1 h2 h3
    · rw [pm_up_k (by decide), pm_up_k (by decide), pm_up_k (by decide)]; exact g4 j h1
  · rw [pm_at_n e1 (by omega) (by omega)]
    show ∃ h', (pm_bd (pm_rn d kX2_keep 9 [.ref 77, .ref 2] [.ref 88] h) fun _ y1 => pm_bd (pm_ev (d + 1) 53 [.ref 150] y1) fun _ y2 => some (0, y2)) = some (0, h') ∧ _
    obtain ⟨y, f1, g1, g2, g3, g4⟩ := c_copyS_k1 (d := d) (by omega) h
    have q1 : y 77 1 = nI 1 := by rw [g1 77 (by omega), e1]
    have q2 : y 77 2 = nI c := by rw [g1 77 (by omega), e2]
    rw [b_X2_keep_1_9, f1, pm_bd_s, q1, q2, e_min (by omega), kp_min hc, pm_bd_s, pm_bd_s, e_X4_forgetPlan, pm_bd_s]
    refine ⟨_, rfl, fun k h1 h2 h3 => ?_, fun j h1 h2 => ?_, ?_, ?_, ?_, fun j h1 => ?_, fun j h1 h2 => ?_, fun r j h1 h2 h3 => ?_, fun j h1 => ?_⟩
    · rw [pm_up_n h3, pm_up_n h2, pm_up_n h2]; exact g1 k h1
    · rw [pm_up_k (by decide), pm_up_j h2, pm_up_j h1, g1 77 (by omega)]
    · rw [pm_up_k (by decide), pm_up_j (by decide), pm_up_s]; decide
    · rw [pm_up_k (by decide), pm_up_s]
    · rw [pm_up_s]
    · rw [pm_up_j h1, pm_up_k (by decide), pm_up_k (by decide), g1 150 (by omega)]
    · rw [pm_up_k (by decide), pm_up_k (by decide), pm_up_k (by decide)]; exact g2 j h1 h2
    · rw [pm_up_k (by omega), pm_up_k (by omega), pm_up_k (by omega)]; exact g3 r j h1 h2 h3
    · rw [pm_up_k (by decide), pm_up_k (by decide), pm_up_k (by decide)]; exact g4 j h1
  · rw [pm_at_n e1 (by omega) (by omega)]
    show ∃ h', (pm_bd (pm_rn d kX2_keep 9 [.ref 77, .ref 2] [.ref 97] h) fun _ y1 => pm_bd (pm_ev (d + 1) 53 [.ref 150] y1) fun _ y2 => some (0, y2)) = some (0, h') ∧ _
    obtain ⟨y, f1, g1, g2, g3, g4⟩ := c_copyS_k2 (d := d) (by omega) h
    have q1 : y 77 1 = nI 2 := by rw [g1 77 (by omega), e1]
    have q2 : y 77 2 = nI c := by rw [g1 77 (by omega), e2]
    rw [b_X2_keep_2_9, f1, pm_bd_s, q1, q2, e_min (by omega), kp_min hc, pm_bd_s, pm_bd_s, e_X4_forgetPlan, pm_bd_s]
    refine ⟨_, rfl, fun k h1 h2 h3 => ?_, fun j h1 h2 => ?_, ?_, ?_, ?_, fun j h1 => ?_, fun j h1 h2 => ?_, fun r j h1 h2 h3 => ?_, fun j h1 => ?_⟩
    · rw [pm_up_n h3, pm_up_n h2, pm_up_n h2]; exact g1 k h1
    · rw [pm_up_k (by decide), pm_up_j h2, pm_up_j h1, g1 77 (by omega)]
    · rw [pm_up_k (by decide), pm_up_j (by decide), pm_up_s]; decide
    · rw [pm_up_k (by decide), pm_up_s]
    · rw [pm_up_s]
    · rw [pm_up_j h1, pm_up_k (by decide), pm_up_k (by decide), g1 150 (by omega)]
    · rw [pm_up_k (by decide), pm_up_k (by decide), pm_up_k (by decide)]; exact g2 j h1 h2
    · rw [pm_up_k (by omega), pm_up_k (by omega), pm_up_k (by omega)]; exact g3 r j h1 h2 h3
    · rw [pm_up_k (by decide), pm_up_k (by decide), pm_up_k (by decide)]; exact g4 j h1
  · rw [pm_at_n e1 (by omega) (by omega)]
    show ∃ h', (pm_bd (pm_rn d kX2_keep 9 [.ref 77, .ref 2] [.ref 106] h) fun _ y1 => pm_bd (pm_ev (d + 1) 53 [.ref 150] y1) fun _ y2 => some (0, y2)) = some (0, h') ∧ _
    obtain ⟨y, f1, g1, g2, g3, g4⟩ := c_copyS_k3 (d := d) (by omega) h
    have q1 : y 77 1 = nI 3 := by rw [g1 77 (by omega), e1]
    have q2 : y 77 2 = nI c := by rw [g1 77 (by omega), e2]
    rw [b_X2_keep_3_9, f1, pm_bd_s, q1, q2, e_min (by omega), kp_min hc, pm_bd_s, pm_bd_s, e_X4_forgetPlan, pm_bd_s]
    refine ⟨_, rfl, fun k h1 h2 h3 => ?_, fun j h1 h2 => ?_, ?_, ?_, ?_, fun j h1 => ?_, fun j h1 h2 => ?_, fun r j h1 h2 h3 => ?_, fun j h1 => ?_⟩
    · rw [pm_up_n h3, pm_up_n h2, pm_up_n h2]; exact g1 k h1
    · rw [pm_up_k (by decide), pm_up_j h2, pm_up_j h1, g1 77 (by omega)]
    · rw [pm_up_k (by decide), pm_up_j (by decide), pm_up_s]; decide
    · rw [pm_up_k (by decide), pm_up_s]
    · rw [pm_up_s]
    · rw [pm_up_j h1, pm_up_k (by decide), pm_up_k (by decide), g1 150 (by omega)]
    · rw [pm_up_k (by decide), pm_up_k (by decide), pm_up_k (by decide)]; exact g2 j h1 h2
    · rw [pm_up_k (by omega), pm_up_k (by omega), pm_up_k (by omega)]; exact g3 r j h1 h2 h3
    · rw [pm_up_k (by decide), pm_up_k (by decide), pm_up_k (by decide)]; exact g4 j h1
  · rw [pm_at_n e1 (by omega) (by omega)]
    show ∃ h', (pm_bd (pm_rn d kX2_keep 9 [.ref 77, .ref 2] [.ref 115] h) fun _ y1 => pm_bd (pm_ev (d + 1) 53 [.ref 150] y1) fun _ y2 => some (0, y2)) = some (0, h') ∧ _
    obtain ⟨y, f1, g1, g2, g3, g4⟩ := c_copyS_k4 (d := d) (by omega) h
    have q1 : y 77 1 = nI 4 := by rw [g1 77 (by omega), e1]
    have q2 : y 77 2 = nI c := by rw [g1 77 (by omega), e2]
    rw [b_X2_keep_4_9, f1, pm_bd_s, q1, q2, e_min (by omega), kp_min hc, pm_bd_s, pm_bd_s, e_X4_forgetPlan, pm_bd_s]
    refine ⟨_, rfl, fun k h1 h2 h3 => ?_, fun j h1 h2 => ?_, ?_, ?_, ?_, fun j h1 => ?_, fun j h1 h2 => ?_, fun r j h1 h2 h3 => ?_, fun j h1 => ?_⟩
    · rw [pm_up_n h3, pm_up_n h2, pm_up_n h2]; exact g1 k h1
    · rw [pm_up_k (by decide), pm_up_j h2, pm_up_j h1, g1 77 (by omega)]
    · rw [pm_up_k (by decide), pm_up_j (by decide), pm_up_s]; decide
    · rw [pm_up_k (by decide), pm_up_s]
    · rw [pm_up_s]
    · rw [pm_up_j h1, pm_up_k (by decide), pm_up_k (by decide), g1 150 (by omega)]
    · rw [pm_up_k (by decide), pm_up_k (by decide), pm_up_k (by decide)]; exact g2 j h1 h2
    · rw [pm_up_k (by omega), pm_up_k (by omega), pm_up_k (by omega)]; exact g3 r j h1 h2 h3
    · rw [pm_up_k (by decide), pm_up_k (by decide), pm_up_k (by decide)]; exact g4 j h1
  · rw [pm_at_n e1 (by omega) (by omega)]
    show ∃ h', (pm_bd (pm_rn d kX2_keep 9 [.ref 77, .ref 2] [.ref 124] h) fun _ y1 => pm_bd (pm_ev (d + 1) 53 [.ref 150] y1) fun _ y2 => some (0, y2)) = some (0, h') ∧ _
    obtain ⟨y, f1, g1, g2, g3, g4⟩ := c_copyS_k5 (d := d) (by omega) h
    have q1 : y 77 1 = nI 5 := by rw [g1 77 (by omega), e1]
    have q2 : y 77 2 = nI c := by rw [g1 77 (by omega), e2]
    rw [b_X2_keep_5_9, f1, pm_bd_s, q1, q2, e_min (by omega), kp_min hc, pm_bd_s, pm_bd_s, e_X4_forgetPlan, pm_bd_s]
    refine ⟨_, rfl, fun k h1 h2 h3 => ?_, fun j h1 h2 => ?_, ?_, ?_, ?_, fun j h1 => ?_, fun j h1 h2 => ?_, fun r j h1 h2 h3 => ?_, fun j h1 => ?_⟩
    · rw [pm_up_n h3, pm_up_n h2, pm_up_n h2]; exact g1 k h1
    · rw [pm_up_k (by decide), pm_up_j h2, pm_up_j h1, g1 77 (by omega)]
    · rw [pm_up_k (by decide), pm_up_j (by decide), pm_up_s]; decide
    · rw [pm_up_k (by decide), pm_up_s]
    · rw [pm_up_s]
    · rw [pm_up_j h1, pm_up_k (by decide), pm_up_k (by decide), g1 150 (by omega)]
    · rw [pm_up_k (by decide), pm_up_k (by decide), pm_up_k (by decide)]; exact g2 j h1 h2
    · rw [pm_up_k (by omega), pm_up_k (by omega), pm_up_k (by omega)]; exact g3 r j h1 h2 h3
    · rw [pm_up_k (by decide), pm_up_k (by decide), pm_up_k (by decide)]; exact g4 j h1
theorem c_forgetActs {d : Nat} {h : pm_Hp} (hd : 2 ≤ d) : pm_ev d 129 [.ref 0] h = some (0, pm_up (pm_up h 77 2 0) 150 0 0) := by
  obtain ⟨d, rfl, -⟩ := dpos hd
  obtain ⟨d, rfl, -⟩ := dpos (show 0 + 1 ≤ d by omega)
  rw [e_X9_forgetActs, e_X2_clear, pm_bd_s, e_X4_forgetPlan, pm_bd_s]
theorem m_forgets {d : Nat} {h : pm_Hp} (hd : 1 ≤ d) : pm_ev d 167 [.ref 169] h = some (0, pm_up h 169 3 0) := by
  obtain ⟨d, rfl, -⟩ := dpos hd
  rw [e_X10_forgets]
