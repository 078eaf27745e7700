/-! a stock copied: from a base to a base -/
theorem pm_cp_n {h : pm_Hp} {k0 k1 n a : Nat} (e : a ≠ k1) : pm_cp h k0 k1 0 0 n a = h a := funext (fun _ => if_neg (fun q => e q.1))
theorem pm_cp_s {h : pm_Hp} {k0 k1 n j : Nat} (hj : j < n) : pm_cp h k0 k1 0 0 n k1 j = h k0 j := by
  unfold pm_cp
  rw [if_pos ⟨rfl, Nat.zero_le _, by omega⟩]
  simp
def cpS (a b : Nat) (h h' : pm_Hp) : Prop := (∀ k, (k < b ∨ b + 9 ≤ k) → h' k = h k) ∧ (∀ j, 8 ≤ j → j < 12 → h' b j = h a j) ∧ (∀ r j, 1 ≤ r → r ≤ 7 → j < 16 → h' (b + r) j = h (a + r) j) ∧ ∀ j, j < 80 → h' (b + 8) j = h (a + 8) j
theorem c_copyS_k0 {d : Nat} (hd : 3 ≤ d) (h : pm_Hp) : ∃ h', pm_ev d 100 [.ref 79, .ref 2] h = some (0, h') ∧ cpS 2 79 h h' := by
  obtain ⟨d, rfl, -⟩ := dpos hd
  rw [e_X7_copyFrom_k0, r_3_80 (by omega), pm_bd_s, r_4_81 (by omega), pm_bd_s, r_5_82 (by omega), pm_bd_s, r_6_83 (by omega), pm_bd_s, r_7_84 (by omega), pm_bd_s, r_8_85 (by omega), pm_bd_s, r_9_86 (by omega), pm_bd_s, r_10_87 (by omega), pm_bd_s]
  refine ⟨_, rfl, fun k hk => ?_, fun j h1 h2 => ?_, fun r j h1 h2 hj => ?_, fun j hj => ?_⟩
  · simp (discharger := omega) only [pm_up_n, pm_cp_n]
  · have : j = 8 ∨ j = 9 ∨ j = 10 ∨ j = 11 := by omega
    rcases this with rfl | rfl | rfl | rfl <;> simp (discharger := omega) only [pm_up_s, pm_up_j, pm_up_n, pm_cp_n]
  · have : r = 1 ∨ r = 2 ∨ r = 3 ∨ r = 4 ∨ r = 5 ∨ r = 6 ∨ r = 7 := by omega
    rcases this with rfl | rfl | rfl | rfl | rfl | rfl | rfl <;> simp (discharger := omega) only [Nat.reduceAdd, pm_up_n, pm_cp_n, pm_cp_s]
  · simp (discharger := omega) only [Nat.reduceAdd, pm_up_n, pm_cp_n, pm_cp_s]
theorem c_copyS_g0 {d : Nat} (hd : 3 ≤ d) (h : pm_Hp) : ∃ h', pm_ev d 100 [.ref 2, .ref 79] h = some (0, h') ∧ cpS 79 2 h h' := by
  obtain ⟨d, rfl, -⟩ := dpos hd
  rw [e_X7_copyFrom_g0, r_80_3 (by omega), pm_bd_s, r_81_4 (by omega), pm_bd_s, r_82_5 (by omega), pm_bd_s, r_83_6 (by omega), pm_bd_s, r_84_7 (by omega), pm_bd_s, r_85_8 (by omega), pm_bd_s, r_86_9 (by omega), pm_bd_s, r_87_10 (by omega), pm_bd_s]
  refine ⟨_, rfl, fun k hk => ?_, fun j h1 h2 => ?_, fun r j h1 h2 hj => ?_, fun j hj => ?_⟩
  · simp (discharger := omega) only [pm_up_n, pm_cp_n]
  · have : j = 8 ∨ j = 9 ∨ j = 10 ∨ j = 11 := by omega
    rcases this with rfl | rfl | rfl | rfl <;> simp (discharger := omega) only [pm_up_s, pm_up_j, pm_up_n, pm_cp_n]
  · have : r = 1 ∨ r = 2 ∨ r = 3 ∨ r = 4 ∨ r = 5 ∨ r = 6 ∨ r = 7 := by omega
    rcases this with rfl | rfl | rfl | rfl | rfl | rfl | rfl <;> simp (discharger := omega) only [Nat.reduceAdd, pm_up_n, pm_cp_n, pm_cp_s]
  · simp (discharger := omega) only [Nat.reduceAdd, pm_up_n, pm_cp_n, pm_cp_s]
theorem c_copyS_k1 {d : Nat} (hd : 3 ≤ d) (h : pm_Hp) : ∃ h', pm_ev d 100 [.ref 88, .ref 2] h = some (0, h') ∧ cpS 2 88 h h' := by
  obtain ⟨d, rfl, -⟩ := dpos hd
  rw [e_X7_copyFrom_k1, r_3_89 (by omega), pm_bd_s, r_4_90 (by omega), pm_bd_s, r_5_91 (by omega), pm_bd_s, r_6_92 (by omega), pm_bd_s, r_7_93 (by omega), pm_bd_s, r_8_94 (by omega), pm_bd_s, r_9_95 (by omega), pm_bd_s, r_10_96 (by omega), pm_bd_s]
  refine ⟨_, rfl, fun k hk => ?_, fun j h1 h2 => ?_, fun r j h1 h2 hj => ?_, fun j hj => ?_⟩
  · simp (discharger := omega) only [pm_up_n, pm_cp_n]
  · have : j = 8 ∨ j = 9 ∨ j = 10 ∨ j = 11 := by omega
    rcases this with rfl | rfl | rfl | rfl <;> simp (discharger := omega) only [pm_up_s, pm_up_j, pm_up_n, pm_cp_n]
  · have : r = 1 ∨ r = 2 ∨ r = 3 ∨ r = 4 ∨ r = 5 ∨ r = 6 ∨ r = 7 := by omega
    rcases this with rfl | rfl | rfl | rfl | rfl | rfl | rfl <;> simp (discharger := omega) only [Nat.reduceAdd, pm_up_n, pm_cp_n, pm_cp_s]
  · simp (discharger := omega) only [Nat.reduceAdd, pm_up_n, pm_cp_n, pm_cp_s]
theorem c_copyS_g1 {d : Nat} (hd : 3 ≤ d) (h : pm_Hp) : ∃ h', pm_ev d 100 [.ref 2, .ref 88] h = some (0, h') ∧ cpS 88 2 h h' := by
  obtain ⟨d, rfl, -⟩ := dpos hd
  rw [e_X7_copyFrom_g1, r_89_3 (by omega), pm_bd_s, r_90_4 (by omega), pm_bd_s, r_91_5 (by omega), pm_bd_s, r_92_6 (by omega), pm_bd_s, r_93_7 (by omega), pm_bd_s, r_94_8 (by omega), pm_bd_s, r_95_9 (by omega), pm_bd_s, r_96_10 (by omega), pm_bd_s]
  refine ⟨_, rfl, fun k hk => ?_, fun j h1 h2 => ?_, fun r j h1 h2 hj => ?_, fun j hj => ?_⟩
  · simp (discharger := omega) only [pm_up_n, pm_cp_n]
  · have : j = 8 ∨ j = 9 ∨ j = 10 ∨ j = 11 := by omega
    rcases this with rfl | rfl | rfl | rfl <;> simp (discharger := omega) only [pm_up_s, pm_up_j, pm_up_n, pm_cp_n]
  · have : r = 1 ∨ r = 2 ∨ r = 3 ∨ r = 4 ∨ r = 5 ∨ r = 6 ∨ r = 7 := by omega
    rcases this with rfl | rfl | rfl | rfl | rfl | rfl | rfl <;> simp (discharger := omega) only [Nat.reduceAdd, pm_up_n, pm_cp_n, pm_cp_s]
  · simp (discharger := omega) only [Nat.reduceAdd, pm_up_n, pm_cp_n, pm_cp_s]
theorem c_copyS_k2 {d : Nat} (hd : 3 ≤ d) (h : pm_Hp) : ∃ h', pm_ev d 100 [.ref 97, .ref 2] h = some (0, h') ∧ cpS 2 97 h h' := by
  obtain ⟨d, rfl, -⟩ := dpos hd
  rw [e_X7_copyFrom_k2, r_3_98 (by omega), pm_bd_s, r_4_99 (by omega), pm_bd_s, r_5_100 (by omega), pm_bd_s, r_6_101 (by omega), pm_bd_s, r_7_102 (by omega), pm_bd_s, r_8_103 (by omega), pm_bd_s, r_9_104 (by omega), pm_bd_s, r_10_105 (by omega), pm_bd_s]
  refine ⟨_, rfl, fun k hk => ?_, fun j h1 h2 => ?_, fun r j h1 h2 hj => ?_, fun j hj => ?_⟩
  · simp (discharger := omega) only [pm_up_n, pm_cp_n]
  · have : j = 8 ∨ j = 9 ∨ j = 10 ∨ j = 11 := by omega
    rcases this with rfl | rfl | rfl | rfl <;> simp (discharger := omega) only [pm_up_s, pm_up_j, pm_up_n, pm_cp_n]
  · have : r = 1 ∨ r = 2 ∨ r = 3 ∨ r = 4 ∨ r = 5 ∨ r = 6 ∨ r = 7 := by omega
    rcases this with rfl | rfl | rfl | rfl | rfl | rfl | rfl <;> simp (discharger := omega) only [Nat.reduceAdd, pm_up_n, pm_cp_n, pm_cp_s]
  · simp (discharger := omega) only [Nat.reduceAdd, pm_up_n, pm_cp_n, pm_cp_s]
theorem c_copyS_g2 {d : Nat} (hd : 3 ≤ d) (h : pm_Hp) : ∃ h', pm_ev d 100 [.ref 2, .ref 97] h = some (0, h') ∧ cpS 97 2 h h' := by
  obtain ⟨d, rfl, -⟩ := dpos hd
  rw [e_X7_copyFrom_g2, r_98_3 (by omega), pm_bd_s, r_99_4 (by omega), pm_bd_s, r_100_5 (by omega), pm_bd_s, r_101_6 (by omega), pm_bd_s, r_102_7 (by omega), pm_bd_s, r_103_8 (by omega), pm_bd_s, r_104_9 (by omega), pm_bd_s, r_105_10 (by omega), pm_bd_s]
  refine ⟨_, rfl, fun k hk => ?_, fun j h1 h2 => ?_, fun r j h1 h2 hj => ?_, fun j hj => ?_⟩
  · simp (discharger := omega) only [pm_up_n, pm_cp_n]
  · have : j = 8 ∨ j = 9 ∨ j = 10 ∨ j = 11 := by omega
    rcases this with rfl | rfl | rfl | rfl <;> simp (discharger := omega) only [pm_up_s, pm_up_j, pm_up_n, pm_cp_n]
  · have : r = 1 ∨ r = 2 ∨ r = 3 ∨ r = 4 ∨ r = 5 ∨ r = 6 ∨ r = 7 := by omega
    rcases this with rfl | rfl | rfl | rfl | rfl | rfl | rfl <;> simp (discharger := omega) only [Nat.reduceAdd, pm_up_n, pm_cp_n, pm_cp_s]
  · simp (discharger := omega) only [Nat.reduceAdd, pm_up_n, pm_cp_n, pm_cp_s]
theorem c_copyS_k3 {d : Nat} (hd : 3 ≤ d) (h : pm_Hp) : ∃ h', pm_ev d 100 [.ref 106, .ref 2] h = some (0, h') ∧ cpS 2 106 h h' := by
  obtain ⟨d, rfl, -⟩ := dpos hd
  rw [e_X7_copyFrom_k3, r_3_107 (by omega), pm_bd_s, r_4_108 (by omega), pm_bd_s, r_5_109 (by omega), pm_bd_s, r_6_110 (by omega), pm_bd_s, r_7_111 (by omega), pm_bd_s, r_8_112 (by omega), pm_bd_s, r_9_113 (by omega), pm_bd_s, r_10_114 (by omega), pm_bd_s]
  refine ⟨_, rfl, fun k hk => ?_, fun j h1 h2 => ?_, fun r j h1 h2 hj => ?_, fun j hj => ?_⟩
  · simp (discharger := omega) only [pm_up_n, pm_cp_n]
  · have : j = 8 ∨ j = 9 ∨ j = 10 ∨ j = 11 := by omega
    rcases this with rfl | rfl | rfl | rfl <;> simp (discharger := omega) only [pm_up_s, pm_up_j, pm_up_n, pm_cp_n]
  · have : r = 1 ∨ r = 2 ∨ r = 3 ∨ r = 4 ∨ r = 5 ∨ r = 6 ∨ r = 7 := by omega
    rcases this with rfl | rfl | rfl | rfl | rfl | rfl | rfl <;> simp (discharger := omega) only [Nat.reduceAdd, pm_up_n, pm_cp_n, pm_cp_s]
  · simp (discharger := omega) only [Nat.reduceAdd, pm_up_n, pm_cp_n, pm_cp_s]
theorem c_copyS_g3 {d : Nat} (hd : 3 ≤ d) (h : pm_Hp) : ∃ h', pm_ev d 100 [.ref 2, .ref 106] h = some (0, h') ∧ cpS 106 2 h h' := by
  obtain ⟨d, rfl, -⟩ := dpos hd
  rw [e_X7_copyFrom_g3, r_107_3 (by omega), pm_bd_s, r_108_4 (by omega), pm_bd_s, r_109_5 (by omega), pm_bd_s, r_110_6 (by omega), pm_bd_s, r_111_7 (by omega), pm_bd_s, r_112_8 (by omega), pm_bd_s, r_113_9 (by omega), pm_bd_s, r_114_10 (by omega), pm_bd_s]
  refine ⟨_, rfl, fun k hk => ?_, fun j h1 h2 => ?_, fun r j h1 h2 hj => ?_, fun j hj => ?_⟩
  · simp (discharger := omega) only [pm_up_n, pm_cp_n]
  · have : j = 8 ∨ j = 9 ∨ j = 10 ∨ j = 11 := by omega
    rcases this with rfl | rfl | rfl | rfl <;> simp (discharger := omega) only [pm_up_s, pm_up_j, pm_up_n, pm_cp_n]
  · have : r = 1 ∨ r = 2 ∨ r = 3 ∨ r = 4 ∨ r = 5 ∨ r = 6 ∨ r = 7 := by omega
    rcases this with rfl | rfl | rfl | rfl | rfl | rfl | rfl <;> simp (discharger := omega) only [Nat.reduceAdd, pm_up_n, pm_cp_n, pm_cp_s]
  · simp (discharger := omega) only [Nat.reduceAdd, pm_up_n, pm_cp_n, pm_cp_s]
theorem c_copyS_k4 {d : Nat} (hd : 3 ≤ d) (h : pm_Hp) : ∃ h', pm_ev d 100 [.ref 115, .ref 2] h = some (0, h') ∧ cpS 2 115 h h' := by
  obtain ⟨d, rfl, -⟩ := dpos hd
  rw [e_X7_copyFrom_k4, r_3_116 (by omega), pm_bd_s, r_4_117 (by omega), pm_bd_s, r_5_118 (by omega), pm_bd_s, r_6_119 (by omega), pm_bd_s, r_7_120 (by omega), pm_bd_s, r_8_121 (by omega), pm_bd_s, r_9_122 (by omega), pm_bd_s, r_10_123 (by omega), pm_bd_s]
  refine ⟨_, rfl, fun k hk => ?_, fun j h1 h2 => ?_, fun r j h1 h2 hj => ?_, fun j hj => ?_⟩
  · simp (discharger := omega) only [pm_up_n, pm_cp_n]
  · have : j = 8 ∨ j = 9 ∨ j = 10 ∨ j = 11 := by omega
    rcases this with rfl | rfl | rfl | rfl <;> simp (discharger := omega) only [pm_up_s, pm_up_j, pm_up_n, pm_cp_n]
  · have : r = 1 ∨ r = 2 ∨ r = 3 ∨ r = 4 ∨ r = 5 ∨ r = 6 ∨ r = 7 := by omega
    rcases this with rfl | rfl | rfl | rfl | rfl | rfl | rfl <;> simp (discharger := omega) only [Nat.reduceAdd, pm_up_n, pm_cp_n, pm_cp_s]
  · simp (discharger := omega) only [Nat.reduceAdd, pm_up_n, pm_cp_n, pm_cp_s]
theorem c_copyS_g4 {d : Nat} (hd : 3 ≤ d) (h : pm_Hp) : ∃ h', pm_ev d 100 [.ref 2, .ref 115] h = some (0, h') ∧ cpS 115 2 h h' := by
  obtain ⟨d, rfl, -⟩ := dpos hd
  rw [e_X7_copyFrom_g4, r_116_3 (by omega), pm_bd_s, r_117_4 (by omega), pm_bd_s, r_118_5 (by omega), pm_bd_s, r_119_6 (by omega), pm_bd_s, r_120_7 (by omega), pm_bd_s, r_121_8 (by omega), pm_bd_s, r_122_9 (by omega), pm_bd_s, r_123_10 (by omega), pm_bd_s]
  refine ⟨_, rfl, fun k hk => ?_, fun j h1 h2 => ?_, fun r j h1 h2 hj => ?_, fun j hj => ?_⟩
  · simp (discharger := omega) only [pm_up_n, pm_cp_n]
  · have : j = 8 ∨ j = 9 ∨ j = 10 ∨ j = 11 := by omega
    rcases this with rfl | rfl | rfl | rfl <;> simp (discharger := omega) only [pm_up_s, pm_up_j, pm_up_n, pm_cp_n]
  · have : r = 1 ∨ r = 2 ∨ r = 3 ∨ r = 4 ∨ r = 5 ∨ r = 6 ∨ r = 7 := by omega
    rcases this with rfl | rfl | rfl | rfl | rfl | rfl | rfl <;> simp (discharger := omega) only [Nat.reduceAdd, pm_up_n, pm_cp_n, pm_cp_s]
  · simp (discharger := omega) only [Nat.reduceAdd, pm_up_n, pm_cp_n, pm_cp_s]
theorem c_copyS_k5 {d : Nat} (hd : 3 ≤ d) (h : pm_Hp) : ∃ h', pm_ev d 100 [.ref 124, .ref 2] h = some (0, h') ∧ cpS 2 124 h h' := by
  obtain ⟨d, rfl, -⟩ := dpos hd
  rw [e_X7_copyFrom_k5, r_3_125 (by omega), pm_bd_s, r_4_126 (by omega), pm_bd_s, r_5_127 (by omega), pm_bd_s, r_6_128 (by omega), pm_bd_s, r_7_129 (by omega), pm_bd_s, r_8_130 (by omega), pm_bd_s, r_9_131 (by omega), pm_bd_s, r_10_132 (by omega), pm_bd_s]
  refine ⟨_, rfl, fun k hk => ?_, fun j h1 h2 => ?_, fun r j h1 h2 hj => ?_, fun j hj => ?_⟩
  · simp (discharger := omega) only [pm_up_n, pm_cp_n]
  · have : j = 8 ∨ j = 9 ∨ j = 10 ∨ j = 11 := by omega
    rcases this with rfl | rfl | rfl | rfl <;> simp (discharger := omega) only [pm_up_s, pm_up_j, pm_up_n, pm_cp_n]
  · have : r = 1 ∨ r = 2 ∨ r = 3 ∨ r = 4 ∨ r = 5 ∨ r = 6 ∨ r = 7 := by omega
    rcases this with rfl | rfl | rfl | rfl | rfl | rfl | rfl <;> simp (discharger := omega) only [Nat.reduceAdd, pm_up_n, pm_cp_n, pm_cp_s]
  · simp (discharger := omega) only [Nat.reduceAdd, pm_up_n, pm_cp_n, pm_cp_s]
theorem c_copyS_g5 {d : Nat} (hd : 3 ≤ d) (h : pm_Hp) : ∃ h', pm_ev d 100 [.ref 2, .ref 124] h = some (0, h') ∧ cpS 124 2 h h' := by
  obtain ⟨d, rfl, -⟩ := dpos hd
  rw [e_X7_copyFrom_g5, r_125_3 (by omega), pm_bd_s, r_126_4 (by omega), pm_bd_s, r_127_5 (by omega), pm_bd_s, r_128_6 (by omega), pm_bd_s, r_129_7 (by omega), pm_bd_s, r_130_8 (by omega), pm_bd_s, r_131_9 (by omega), pm_bd_s, r_132_10 (by omega), pm_bd_s]
  refine ⟨_, rfl, fun k hk => ?_, fun j h1 h2 => ?_, fun r j h1 h2 hj => ?_, fun j hj => ?_⟩
  · simp (discharger := omega) only [pm_up_n, pm_cp_n]
  · have : j = 8 ∨ j = 9 ∨ j = 10 ∨ j = 11 := by omega
    rcases this with rfl | rfl | rfl | rfl <;> simp (discharger := omega) only [pm_up_s, pm_up_j, pm_up_n, pm_cp_n]
  · have : r = 1 ∨ r = 2 ∨ r = 3 ∨ r = 4 ∨ r = 5 ∨ r = 6 ∨ r = 7 := by omega
    rcases this with rfl | rfl | rfl | rfl | rfl | rfl | rfl <;> simp (discharger := omega) only [Nat.reduceAdd, pm_up_n, pm_cp_n, pm_cp_s]
  · simp (discharger := omega) only [Nat.reduceAdd, pm_up_n, pm_cp_n, pm_cp_s]
theorem c_copyS_im {d : Nat} (hd : 3 ≤ d) (h : pm_Hp) : ∃ h', pm_ev d 100 [.ref 40, .ref 2] h = some (0, h') ∧ cpS 2 40 h h' := by
  obtain ⟨d, rfl, -⟩ := dpos hd
  rw [e_X7_copyFrom_im, r_3_41 (by omega), pm_bd_s, r_4_42 (by omega), pm_bd_s, r_5_43 (by omega), pm_bd_s, r_6_44 (by omega), pm_bd_s, r_7_45 (by omega), pm_bd_s, r_8_46 (by omega), pm_bd_s, r_9_47 (by omega), pm_bd_s, r_10_48 (by omega), pm_bd_s]
  refine ⟨_, rfl, fun k hk => ?_, fun j h1 h2 => ?_, fun r j h1 h2 hj => ?_, fun j hj => ?_⟩
  · simp (discharger := omega) only [pm_up_n, pm_cp_n]
  · have : j = 8 ∨ j = 9 ∨ j = 10 ∨ j = 11 := by omega
    rcases this with rfl | rfl | rfl | rfl <;> simp (discharger := omega) only [pm_up_s, pm_up_j, pm_up_n, pm_cp_n]
  · have : r = 1 ∨ r = 2 ∨ r = 3 ∨ r = 4 ∨ r = 5 ∨ r = 6 ∨ r = 7 := by omega
    rcases this with rfl | rfl | rfl | rfl | rfl | rfl | rfl <;> simp (discharger := omega) only [Nat.reduceAdd, pm_up_n, pm_cp_n, pm_cp_s]
  · simp (discharger := omega) only [Nat.reduceAdd, pm_up_n, pm_cp_n, pm_cp_s]
theorem c_copyS_re {d : Nat} (hd : 3 ≤ d) (h : pm_Hp) : ∃ h', pm_ev d 100 [.ref 2, .ref 40] h = some (0, h') ∧ cpS 40 2 h h' := by
  obtain ⟨d, rfl, -⟩ := dpos hd
  rw [e_X7_copyFrom_re, r_41_3 (by omega), pm_bd_s, r_42_4 (by omega), pm_bd_s, r_43_5 (by omega), pm_bd_s, r_44_6 (by omega), pm_bd_s, r_45_7 (by omega), pm_bd_s, r_46_8 (by omega), pm_bd_s, r_47_9 (by omega), pm_bd_s, r_48_10 (by omega), pm_bd_s]
  refine ⟨_, rfl, fun k hk => ?_, fun j h1 h2 => ?_, fun r j h1 h2 hj => ?_, fun j hj => ?_⟩
  · simp (discharger := omega) only [pm_up_n, pm_cp_n]
  · have : j = 8 ∨ j = 9 ∨ j = 10 ∨ j = 11 := by omega
    rcases this with rfl | rfl | rfl | rfl <;> simp (discharger := omega) only [pm_up_s, pm_up_j, pm_up_n, pm_cp_n]
  · have : r = 1 ∨ r = 2 ∨ r = 3 ∨ r = 4 ∨ r = 5 ∨ r = 6 ∨ r = 7 := by omega
    rcases this with rfl | rfl | rfl | rfl | rfl | rfl | rfl <;> simp (discharger := omega) only [Nat.reduceAdd, pm_up_n, pm_cp_n, pm_cp_s]
  · simp (discharger := omega) only [Nat.reduceAdd, pm_up_n, pm_cp_n, pm_cp_s]
