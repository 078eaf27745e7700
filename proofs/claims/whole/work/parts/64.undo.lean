/-! UNDO -/
def unC (c nx : Nat) (h h' : pm_Hp) : Prop := (∀ k, (k < 2 ∨ 11 ≤ k) → k ≠ 77 → k ≠ 150 → h' k = h k) ∧ (∀ j, j ≠ 1 → j ≠ 2 → h' 77 j = h 77 j) ∧ h' 77 1 = nI ((nx + 5) % 6) ∧ h' 77 2 = nI (c - 1) ∧ h' 150 0 = 0 ∧ (∀ j, j ≠ 0 → h' 150 j = h 150 j) ∧ (∀ j, 8 ≤ j → j < 12 → h' 2 j = h (79 + 9 * ((nx + 5) % 6)) j) ∧ (∀ r j, 1 ≤ r → r ≤ 7 → j < 16 → h' (2 + r) j = h (79 + 9 * ((nx + 5) % 6) + r) j) ∧ ∀ j, j < 80 → h' 10 j = h (79 + 9 * ((nx + 5) % 6) + 8) j
theorem c_undo {d c nx : Nat} {h : pm_Hp} (hd : 6 ≤ d) (hc : c ≤ 6) (c0 : 0 < c) (hn : nx < 6) (e1 : h 77 1 = nI nx) (e2 : h 77 2 = nI c) : ∃ h', pm_ev d 126 [.ref 0] h = some (1, h') ∧ unC c nx h h' := by
  obtain ⟨d, rfl, -⟩ := dpos hd
  obtain ⟨d, rfl, -⟩ := dpos (show 4 + 1 ≤ d by omega)
  have : nx = 0 ∨ nx = 1 ∨ nx = 2 ∨ nx = 3 ∨ nx = 4 ∨ nx = 5 := by omega
  have cm : nI c - 1 = nI (c - 1) := by
    obtain ⟨b, rfl⟩ : ∃ b, c = b + 1 := ⟨c - 1, by omega⟩
    rw [← nI_1, Int32.add_sub_cancel]
    rfl
  rw [e_X9_undo, e_X2_giveBack, e2, if_neg (nI_ne0' c0 (by omega)), e1, cm]
  rcases this with rfl | rfl | rfl | rfl | rfl | rfl
  · rw [pm_at_n (j := 5) (by decide) (by omega) (by omega)]
    show ∃ h', (pm_bd (pm_rn d kX2_giveBack 45 [.ref 77, .ref 2] [.ref 124, .ref 2] (pm_up (pm_up h 77 1 (nI 5)) 77 2 (nI (c - 1)))) fun r1 y1 => if r1 = 0 then (some (0, y1)) else (pm_bd (pm_ev (d + 1) 53 [.ref 150] y1) fun _ y2 => some (1, y2))) = some (1, h') ∧ _
    obtain ⟨y, f1, g1, g2, g3, g4⟩ := c_copyS_g5 (d := d) (by omega) (pm_up (pm_up h 77 1 (nI 5)) 77 2 (nI (c - 1)))
    rw [b_X2_giveBack_5_45, f1, pm_bd_s, pm_bd_s, if_neg (by decide), e_X4_forgetPlan, pm_bd_s]
    refine ⟨_, rfl, fun k h1 h2 h3 => ?_, fun j h1 h2 => ?_, ?_, ?_, ?_, fun j h1 => ?_, fun j h1 h2 => ?_, fun r j h1 h2 h3 => ?_, fun j h1 => ?_⟩
    · rw [pm_up_n h3, g1 k (by omega), pm_up_n h2, pm_up_n h2]
    · rw [pm_up_k (by decide), g1 77 (by omega), pm_up_j h2, pm_up_j h1]
    · rw [pm_up_k (by decide), g1 77 (by omega), pm_up_j (by decide), pm_up_s]
    · rw [pm_up_k (by decide), g1 77 (by omega), pm_up_s]
    · rw [pm_up_s]
    · rw [pm_up_j h1, g1 150 (by omega), pm_up_k (by decide), pm_up_k (by decide)]
    · rw [pm_up_k (by decide), g2 j h1 h2, pm_up_k (by decide), pm_up_k (by decide)]
    · rw [pm_up_k (by omega), g3 r j h1 h2 h3, pm_up_k (by omega), pm_up_k (by omega)]
    · rw [pm_up_k (by decide)]
      exact (g4 j h1).trans (by rw [pm_up_k (by decide), pm_up_k (by decide)])
  · rw [pm_at_n (j := 0) (by decide) (by omega) (by omega)]
    show ∃ h', (pm_bd (pm_rn d kX2_giveBack 45 [.ref 77, .ref 2] [.ref 79, .ref 2] (pm_up (pm_up h 77 1 (nI 0)) 77 2 (nI (c - 1)))) fun r1 y1 => if r1 = 0 then (some (0, y1)) else (pm_bd (pm_ev (d + 1) 53 [.ref 150] y1) fun _ y2 => some (1, y2))) = some (1, h') ∧ _
    obtain ⟨y, f1, g1, g2, g3, g4⟩ := c_copyS_g0 (d := d) (by omega) (pm_up (pm_up h 77 1 (nI 0)) 77 2 (nI (c - 1)))
    rw [b_X2_giveBack_0_45, f1, pm_bd_s, pm_bd_s, if_neg (by decide), e_X4_forgetPlan, pm_bd_s]
    refine ⟨_, rfl, fun k h1 h2 h3 => ?_, fun j h1 h2 => ?_, ?_, ?_, ?_, fun j h1 => ?_, fun j h1 h2 => ?_, fun r j h1 h2 h3 => ?_, fun j h1 => ?_⟩
    · rw [pm_up_n h3, g1 k (by omega), pm_up_n h2, pm_up_n h2]
    · rw [pm_up_k (by decide), g1 77 (by omega), pm_up_j h2, pm_up_j h1]
    · rw [pm_up_k (by decide), g1 77 (by omega), pm_up_j (by decide), pm_up_s]
    · rw [pm_up_k (by decide), g1 77 (by omega), pm_up_s]
    · rw [pm_up_s]
    · rw [pm_up_j h1, g1 150 (by omega), pm_up_k (by decide), pm_up_k (by decide)]
    · rw [pm_up_k (by decide), g2 j h1 h2, pm_up_k (by decide), pm_up_k (by decide)]
    · rw [pm_up_k (by omega), g3 r j h1 h2 h3, pm_up_k (by omega), pm_up_k (by omega)]
    · rw [pm_up_k (by decide)]
      exact (g4 j h1).trans (by rw [pm_up_k (by decide), pm_up_k (by decide)])
  · rw [pm_at_n (j := 1) (by decide) (by omega) (by omega)]
    show ∃ h', (pm_bd (pm_rn d kX2_giveBack 45 [.ref 77, .ref 2] [.ref 88, .ref 2] (pm_up (pm_up h 77 1 (nI 1)) 77 2 (nI (c - 1)))) fun r1 y1 => if r1 = 0 then (some (0, y1)) else (pm_bd (pm_ev (d + 1) 53 [.ref 150] y1) fun _ y2 => some (1, y2))) = some (1, h') ∧ _
    obtain ⟨y, f1, g1, g2, g3, g4⟩ := c_copyS_g1 (d := d) (by omega) (pm_up (pm_up h 77 1 (nI 1)) 77 2 (nI (c - 1)))
    rw [b_X2_giveBack_1_45, f1, pm_bd_s, pm_bd_s, if_neg (by decide), e_X4_forgetPlan, pm_bd_s]
    refine ⟨_, rfl, fun k h1 h2 h3 => ?_, fun j h1 h2 => ?_, ?_, ?_, ?_, fun j h1 => ?_, fun j h1 h2 => ?_, fun r j h1 h2 h3 => ?_, fun j h1 => ?_⟩
    · rw [pm_up_n h3, g1 k (by omega), pm_up_n h2, pm_up_n h2]
    · rw [pm_up_k (by decide), g1 77 (by omega), pm_up_j h2, pm_up_j h1]
    · rw [pm_up_k (by decide), g1 77 (by omega), pm_up_j (by decide), pm_up_s]
    · rw [pm_up_k (by decide), g1 77 (by omega), pm_up_s]
    · rw [pm_up_s]
    · rw [pm_up_j h1, g1 150 (by omega), pm_up_k (by decide), pm_up_k (by decide)]
    · rw [pm_up_k (by decide), g2 j h1 h2, pm_up_k (by decide), pm_up_k (by decide)]
    · rw [pm_up_k (by omega), g3 r j h1 h2 h3, pm_up_k (by omega), pm_up_k (by omega)]
    · rw [pm_up_k (by decide)]
      exact (g4 j h1).trans (by rw [pm_up_k (by decide), pm_up_k (by decide)])
  · rw [pm_at_n (j := 2) (by decide) (by omega) (by omega)]
    show ∃ h', (pm_bd (pm_rn d kX2_giveBack 45 [.ref 77, .ref 2] [.ref 97, .ref 2] (pm_up (pm_up h 77 1 (nI 2)) 77 2 (nI (c - 1)))) fun r1 y1 => if r1 = 0 then (some (0, y1)) else (pm_bd (pm_ev (d + 1) 53 [.ref 150] y1) fun _ y2 => some (1, y2))) = some (1, h') ∧ _
    obtain ⟨y, f1, g1, g2, g3, g4⟩ := c_copyS_g2 (d := d) (by omega) (pm_up (pm_up h 77 1 (nI 2)) 77 2 (nI (c - 1)))
    rw [b_X2_giveBack_2_45, f1, pm_bd_s, pm_bd_s, if_neg (by decide), e_X4_forgetPlan, pm_bd_s]
    refine ⟨_, rfl, fun k h1 h2 h3 => ?_, fun j h1 h2 => ?_, ?_, ?_, ?_, fun j h1 => ?_, fun j h1 h2 => ?_, fun r j h1 h2 h3 => ?_, fun j h1 => ?_⟩
    · rw [pm_up_n h3, g1 k (by omega), pm_up_n h2, pm_up_n h2]
    · rw [pm_up_k (by decide), g1 77 (by omega), pm_up_j h2, pm_up_j h1]
    · rw [pm_up_k (by decide), g1 77 (by omega), pm_up_j (by decide), pm_up_s]
    · rw [pm_up_k (by decide), g1 77 (by omega), pm_up_s]
    · rw [pm_up_s]
    · rw [pm_up_j h1, g1 150 (by omega), pm_up_k (by decide), pm_up_k (by decide)]
    · rw [pm_up_k (by decide), g2 j h1 h2, pm_up_k (by decide), pm_up_k (by decide)]
    · rw [pm_up_k (by omega), g3 r j h1 h2 h3, pm_up_k (by omega), pm_up_k (by omega)]
    · rw [pm_up_k (by decide)]
      exact (g4 j h1).trans (by rw [pm_up_k (by decide), pm_up_k (by decide)])
  · rw [pm_at_n (j := 3) (by decide) (by omega) (by omega)]
    show ∃ h', (pm_bd (pm_rn d kX2_giveBack 45 [.ref 77, .ref 2] [.ref 106, .ref 2] (pm_up (pm_up h 77 1 (nI 3)) 77 2 (nI (c - 1)))) fun r1 y1 => if r1 = 0 then (some (0, y1)) else (pm_bd (pm_ev (d + 1) 53 [.ref 150] y1) fun _ y2 => some (1, y2))) = some (1, h') ∧ _
    obtain ⟨y, f1, g1, g2, g3, g4⟩ := c_copyS_g3 (d := d) (by omega) (pm_up (pm_up h 77 1 (nI 3)) 77 2 (nI (c - 1)))
    rw [b_X2_giveBack_3_45, f1, pm_bd_s, pm_bd_s, if_neg (by decide), e_X4_forgetPlan, pm_bd_s]
    refine ⟨_, rfl, fun k h1 h2 h3 => ?_, fun j h1 h2 => ?_, ?_, ?_, ?_, fun j h1 => ?_, fun j h1 h2 => ?_, fun r j h1 h2 h3 => ?_, fun j h1 => ?_⟩
    · rw [pm_up_n h3, g1 k (by omega), pm_up_n h2, pm_up_n h2]
    · rw [pm_up_k (by decide), g1 77 (by omega), pm_up_j h2, pm_up_j h1]
    · rw [pm_up_k (by decide), g1 77 (by omega), pm_up_j (by decide), pm_up_s]
    · rw [pm_up_k (by decide), g1 77 (by omega), pm_up_s]
    · rw [pm_up_s]
    · rw [pm_up_j h1, g1 150 (by omega), pm_up_k (by decide), pm_up_k (by decide)]
    · rw [pm_up_k (by decide), g2 j h1 h2, pm_up_k (by decide), pm_up_k (by decide)]
    · rw [pm_up_k (by omega), g3 r j h1 h2 h3, pm_up_k (by omega), pm_up_k (by omega)]
    · rw [pm_up_k (by decide)]
      exact (g4 j h1).trans (by rw [pm_up_k (by decide), pm_up_k (by decide)])
  · rw [pm_at_n (j := 4) (by decide) (by omega) (by omega)]
    show ∃ h', (pm_bd (pm_rn d kX2_giveBack 45 [.ref 77, .ref 2] [.ref 115, .ref 2] (pm_up (pm_up h 77 1 (nI 4)) 77 2 (nI (c - 1)))) fun r1 y1 => if r1 = 0 then (some (0, y1)) else (pm_bd (pm_ev (d + 1) 53 [.ref 150] y1) fun _ y2 => some (1, y2))) = some (1, h') ∧ _
    obtain ⟨y, f1, g1, g2, g3, g4⟩ := c_copyS_g4 (d := d) (by omega) (pm_up (pm_up h 77 1 (nI 4)) 77 2 (nI (c - 1)))
    rw [b_X2_giveBack_4_45, f1, pm_bd_s, pm_bd_s, if_neg (by decide), e_X4_forgetPlan, pm_bd_s]
    refine ⟨_, rfl, fun k h1 h2 h3 => ?_, fun j h1 h2 => ?_, ?_, ?_, ?_, fun j h1 => ?_, fun j h1 h2 => ?_, fun r j h1 h2 h3 => ?_, fun j h1 => ?_⟩
    · rw [pm_up_n h3, g1 k (by omega), pm_up_n h2, pm_up_n h2]
    · rw [pm_up_k (by decide), g1 77 (by omega), pm_up_j h2, pm_up_j h1]
    · rw [pm_up_k (by decide), g1 77 (by omega), pm_up_j (by decide), pm_up_s]
    · rw [pm_up_k (by decide), g1 77 (by omega), pm_up_s]
    · rw [pm_up_s]
    · rw [pm_up_j h1, g1 150 (by omega), pm_up_k (by decide), pm_up_k (by decide)]
    · rw [pm_up_k (by decide), g2 j h1 h2, pm_up_k (by decide), pm_up_k (by decide)]
    · rw [pm_up_k (by omega), g3 r j h1 h2 h3, pm_up_k (by omega), pm_up_k (by omega)]
    · rw [pm_up_k (by decide)]
      exact (g4 j h1).trans (by rw [pm_up_k (by decide), pm_up_k (by decide)])
theorem c_undo0 {d : Nat} {h : pm_Hp} (hd : 6 ≤ d) (e2 : h 77 2 = nI 0) : pm_ev d 126 [.ref 0] h = some (0, h) := by
  obtain ⟨d, rfl, -⟩ := dpos hd
  obtain ⟨d, rfl, -⟩ := dpos (show 4 + 1 ≤ d by omega)
  rw [e_X9_undo, e_X2_giveBack, e2, if_pos (show nI 0 = 0 from rfl), pm_bd_s, if_pos rfl]
theorem m_undo {d c : Nat} {h : pm_Hp} (hd : 1 ≤ d) (hc : c ≤ 6) (c0 : 0 < c) (e : h 169 3 = nI c) : ∃ h', pm_ev d 229 [.ref 169] h = some (1, h') ∧ (∀ k, k ≠ 169 → k ≠ 170 → h' k = h k) ∧ h' 169 3 = nI (c - 1) ∧ (∀ j, j ≠ 3 → h' 169 j = h 169 j) ∧ (∀ x, x < 324 → h' 170 x = h 172 (324 * (c - 1) + x)) ∧ ∀ x, 324 ≤ x → h' 170 x = h 170 x := by
  obtain ⟨d, rfl, -⟩ := dpos hd
  have cm : nI c - 1 = nI (c - 1) := by
    obtain ⟨b, rfl⟩ : ∃ b, c = b + 1 := ⟨c - 1, by omega⟩
    rw [← nI_1, Int32.add_sub_cancel]
    rfl
  rw [e_X10_undo, e, if_neg (nI_ne0' c0 (by omega)), cm]
  have key : ∀ (n i : Nat) (g : pm_Hp), i + n = 324 → (∀ k, k ≠ 169 → k ≠ 170 → g k = h k) → g 169 3 = nI (c - 1) → (∀ j, j ≠ 3 → g 169 j = h 169 j) → (∀ x, x < i → g 170 x = h 172 (324 * (c - 1) + x)) → (∀ x, i ≤ x → g 170 x = h 170 x) → ∃ h', pm_rn d kX10_undo 21 [.ref 169, .int (nI i)] [] g = some (1, h') ∧ (∀ k, k ≠ 169 → k ≠ 170 → h' k = h k) ∧ h' 169 3 = nI (c - 1) ∧ (∀ j, j ≠ 3 → h' 169 j = h 169 j) ∧ (∀ x, x < 324 → h' 170 x = h 172 (324 * (c - 1) + x)) ∧ ∀ x, 324 ≤ x → h' 170 x = h 170 x := by
    intro n
    induction n with
    | zero =>
      intro i g hi g1 g2 g3 g4 g5
      have hi : i = 324 := by omega
      subst hi
      refine ⟨g, ?_, g1, g2, g3, g4, g5⟩
      rw [b_X10_undo_21, if_neg (nI_nlt (by omega) (by omega))]
    | succ n ih =>
      intro i g hi g1 g2 g3 g4 g5
      rw [b_X10_undo_21, if_pos (nI_lt (by omega) (by omega)), g2, pm_at_n (j := 324 * (c - 1) + i) (by rw [pk_mul, nI_add]) (by omega) (by omega), pm_at_c (by omega) (by omega), nI_1, g1 172 (by decide) (by decide)]
      refine ih (i + 1) _ (by omega) (fun k h1 h2 => by rw [pm_up_n h2]; exact g1 k h1 h2) (by rw [pm_up_k (by decide)]; exact g2) (fun j hj => by rw [pm_up_k (by decide)]; exact g3 j hj) (fun x hx => ?_) (fun x hx => by rw [pm_up_j (by omega)]; exact g5 x (by omega))
      by_cases ex : x = i
      · subst ex; rw [pm_up_s]
      · rw [pm_up_j ex]; exact g4 x (by omega)
  exact key 324 0 _ (by omega) (fun k h1 h2 => by rw [pm_up_n h1]) pm_up_s (fun j hj => by rw [pm_up_j hj]) (fun x hx => absurd hx (Nat.not_lt_zero x)) (fun x hx => by rw [pm_up_k (by decide)])
theorem m_undo0 {d : Nat} {h : pm_Hp} (hd : 1 ≤ d) (e : h 169 3 = nI 0) : pm_ev d 229 [.ref 169] h = some (0, h) := by
  obtain ⟨d, rfl, -⟩ := dpos hd
  rw [e_X10_undo, e, if_pos (show nI 0 = 0 from rfl)]
