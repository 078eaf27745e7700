/-! IMAGE: houses copied, class side -/
def cpL_im0 (h h' : pm_Hp) : Prop := (∀ k, (k < 56 ∨ 62 ≤ k) → h' k = h k) ∧ h' 56 6 = h 18 6 ∧ (∀ j, j < 400 → h' 57 j = h 19 j) ∧ ∀ r j, 2 ≤ r → r ≤ 5 → j < 16 → h' (56 + r) j = h (18 + r) j
theorem c_copyL_im0 {d : Nat} (hd : 3 ≤ d) (h : pm_Hp) : ∃ h', pm_ev d 45 [.ref 56, .ref 18] h = some (0, h') ∧ cpL_im0 h h' := by
  obtain ⟨d, rfl, -⟩ := dpos hd
  rw [e_X3_copyFrom_im0, r_19_57 (by omega), pm_bd_s, r_20_58 (by omega), pm_bd_s, r_21_59 (by omega), pm_bd_s, r_22_60 (by omega), pm_bd_s, r_23_61 (by omega), pm_bd_s]
  refine ⟨_, rfl, fun k hk => ?_, ?_, fun j hj => ?_, fun r j h1 h2 hj => ?_⟩
  · simp (discharger := omega) only [pm_up_n, pm_cp_n]
  · simp (discharger := omega) only [pm_up_s, pm_up_j, pm_up_n, pm_cp_n]
  · simp (discharger := omega) only [pm_up_n, pm_cp_n, pm_cp_s]
  · have : r = 2 ∨ r = 3 ∨ r = 4 ∨ r = 5 := by omega
    rcases this with rfl | rfl | rfl | rfl <;> simp (discharger := omega) only [Nat.reduceAdd, pm_up_n, pm_cp_n, pm_cp_s]
def cpL_im1 (h h' : pm_Hp) : Prop := (∀ k, (k < 63 ∨ 69 ≤ k) → h' k = h k) ∧ h' 63 6 = h 25 6 ∧ (∀ j, j < 400 → h' 64 j = h 26 j) ∧ ∀ r j, 2 ≤ r → r ≤ 5 → j < 16 → h' (63 + r) j = h (25 + r) j
theorem c_copyL_im1 {d : Nat} (hd : 3 ≤ d) (h : pm_Hp) : ∃ h', pm_ev d 45 [.ref 63, .ref 25] h = some (0, h') ∧ cpL_im1 h h' := by
  obtain ⟨d, rfl, -⟩ := dpos hd
  rw [e_X3_copyFrom_im1, r_26_64 (by omega), pm_bd_s, r_27_65 (by omega), pm_bd_s, r_28_66 (by omega), pm_bd_s, r_29_67 (by omega), pm_bd_s, r_30_68 (by omega), pm_bd_s]
  refine ⟨_, rfl, fun k hk => ?_, ?_, fun j hj => ?_, fun r j h1 h2 hj => ?_⟩
  · simp (discharger := omega) only [pm_up_n, pm_cp_n]
  · simp (discharger := omega) only [pm_up_s, pm_up_j, pm_up_n, pm_cp_n]
  · simp (discharger := omega) only [pm_up_n, pm_cp_n, pm_cp_s]
  · have : r = 2 ∨ r = 3 ∨ r = 4 ∨ r = 5 := by omega
    rcases this with rfl | rfl | rfl | rfl <;> simp (discharger := omega) only [Nat.reduceAdd, pm_up_n, pm_cp_n, pm_cp_s]
def cpL_re0 (h h' : pm_Hp) : Prop := (∀ k, (k < 18 ∨ 24 ≤ k) → h' k = h k) ∧ h' 18 6 = h 56 6 ∧ (∀ j, j < 400 → h' 19 j = h 57 j) ∧ ∀ r j, 2 ≤ r → r ≤ 5 → j < 16 → h' (18 + r) j = h (56 + r) j
theorem c_copyL_re0 {d : Nat} (hd : 3 ≤ d) (h : pm_Hp) : ∃ h', pm_ev d 45 [.ref 18, .ref 56] h = some (0, h') ∧ cpL_re0 h h' := by
  obtain ⟨d, rfl, -⟩ := dpos hd
  rw [e_X3_copyFrom_re0, r_57_19 (by omega), pm_bd_s, r_58_20 (by omega), pm_bd_s, r_59_21 (by omega), pm_bd_s, r_60_22 (by omega), pm_bd_s, r_61_23 (by omega), pm_bd_s]
  refine ⟨_, rfl, fun k hk => ?_, ?_, fun j hj => ?_, fun r j h1 h2 hj => ?_⟩
  · simp (discharger := omega) only [pm_up_n, pm_cp_n]
  · simp (discharger := omega) only [pm_up_s, pm_up_j, pm_up_n, pm_cp_n]
  · simp (discharger := omega) only [pm_up_n, pm_cp_n, pm_cp_s]
  · have : r = 2 ∨ r = 3 ∨ r = 4 ∨ r = 5 := by omega
    rcases this with rfl | rfl | rfl | rfl <;> simp (discharger := omega) only [Nat.reduceAdd, pm_up_n, pm_cp_n, pm_cp_s]
def cpL_re1 (h h' : pm_Hp) : Prop := (∀ k, (k < 25 ∨ 31 ≤ k) → h' k = h k) ∧ h' 25 6 = h 63 6 ∧ (∀ j, j < 400 → h' 26 j = h 64 j) ∧ ∀ r j, 2 ≤ r → r ≤ 5 → j < 16 → h' (25 + r) j = h (63 + r) j
theorem c_copyL_re1 {d : Nat} (hd : 3 ≤ d) (h : pm_Hp) : ∃ h', pm_ev d 45 [.ref 25, .ref 63] h = some (0, h') ∧ cpL_re1 h h' := by
  obtain ⟨d, rfl, -⟩ := dpos hd
  rw [e_X3_copyFrom_re1, r_64_26 (by omega), pm_bd_s, r_65_27 (by omega), pm_bd_s, r_66_28 (by omega), pm_bd_s, r_67_29 (by omega), pm_bd_s, r_68_30 (by omega), pm_bd_s]
  refine ⟨_, rfl, fun k hk => ?_, ?_, fun j hj => ?_, fun r j h1 h2 hj => ?_⟩
  · simp (discharger := omega) only [pm_up_n, pm_cp_n]
  · simp (discharger := omega) only [pm_up_s, pm_up_j, pm_up_n, pm_cp_n]
  · simp (discharger := omega) only [pm_up_n, pm_cp_n, pm_cp_s]
  · have : r = 2 ∨ r = 3 ∨ r = 4 ∨ r = 5 := by omega
    rcases this with rfl | rfl | rfl | rfl <;> simp (discharger := omega) only [Nat.reduceAdd, pm_up_n, pm_cp_n, pm_cp_s]
def cpL_t0 (h h' : pm_Hp) : Prop := (∀ k, (k < 18 ∨ 24 ≤ k) → h' k = h k) ∧ h' 18 6 = h 135 6 ∧ (∀ j, j < 400 → h' 19 j = h 136 j) ∧ ∀ r j, 2 ≤ r → r ≤ 5 → j < 16 → h' (18 + r) j = h (135 + r) j
theorem c_copyL_t0 {d : Nat} (hd : 3 ≤ d) (h : pm_Hp) : ∃ h', pm_ev d 45 [.ref 18, .ref 135] h = some (0, h') ∧ cpL_t0 h h' := by
  obtain ⟨d, rfl, -⟩ := dpos hd
  rw [e_X3_copyFrom_t0, r_136_19 (by omega), pm_bd_s, r_137_20 (by omega), pm_bd_s, r_138_21 (by omega), pm_bd_s, r_139_22 (by omega), pm_bd_s, r_140_23 (by omega), pm_bd_s]
  refine ⟨_, rfl, fun k hk => ?_, ?_, fun j hj => ?_, fun r j h1 h2 hj => ?_⟩
  · simp (discharger := omega) only [pm_up_n, pm_cp_n]
  · simp (discharger := omega) only [pm_up_s, pm_up_j, pm_up_n, pm_cp_n]
  · simp (discharger := omega) only [pm_up_n, pm_cp_n, pm_cp_s]
  · have : r = 2 ∨ r = 3 ∨ r = 4 ∨ r = 5 := by omega
    rcases this with rfl | rfl | rfl | rfl <;> simp (discharger := omega) only [Nat.reduceAdd, pm_up_n, pm_cp_n, pm_cp_s]
def cpL_t1 (h h' : pm_Hp) : Prop := (∀ k, (k < 25 ∨ 31 ≤ k) → h' k = h k) ∧ h' 25 6 = h 135 6 ∧ (∀ j, j < 400 → h' 26 j = h 136 j) ∧ ∀ r j, 2 ≤ r → r ≤ 5 → j < 16 → h' (25 + r) j = h (135 + r) j
theorem c_copyL_t1 {d : Nat} (hd : 3 ≤ d) (h : pm_Hp) : ∃ h', pm_ev d 45 [.ref 25, .ref 135] h = some (0, h') ∧ cpL_t1 h h' := by
  obtain ⟨d, rfl, -⟩ := dpos hd
  rw [e_X3_copyFrom_t1, r_136_26 (by omega), pm_bd_s, r_137_27 (by omega), pm_bd_s, r_138_28 (by omega), pm_bd_s, r_139_29 (by omega), pm_bd_s, r_140_30 (by omega), pm_bd_s]
  refine ⟨_, rfl, fun k hk => ?_, ?_, fun j hj => ?_, fun r j h1 h2 hj => ?_⟩
  · simp (discharger := omega) only [pm_up_n, pm_cp_n]
  · simp (discharger := omega) only [pm_up_s, pm_up_j, pm_up_n, pm_cp_n]
  · simp (discharger := omega) only [pm_up_n, pm_cp_n, pm_cp_s]
  · have : r = 2 ∨ r = 3 ∨ r = 4 ∨ r = 5 := by omega
    rcases this with rfl | rfl | rfl | rfl <;> simp (discharger := omega) only [Nat.reduceAdd, pm_up_n, pm_cp_n, pm_cp_s]
def cpT_im (h h' : pm_Hp) : Prop := (∀ k, (k < 70 ∨ 75 ≤ k) → h' k = h k) ∧ (h' 70 4 = h 32 4 ∧ h' 70 5 = h 32 5) ∧ ∀ r j, 1 ≤ r → r ≤ 4 → j < 6 → h' (70 + r) j = h (32 + r) j
theorem c_copyT_im {d : Nat} (hd : 3 ≤ d) (h : pm_Hp) : ∃ h', pm_ev d 97 [.ref 70, .ref 32] h = some (0, h') ∧ cpT_im h h' := by
  obtain ⟨d, rfl, -⟩ := dpos hd
  rw [e_X6_copyFrom_im, r_33_71 (by omega), pm_bd_s, r_34_72 (by omega), pm_bd_s, r_35_73 (by omega), pm_bd_s, r_36_74 (by omega), pm_bd_s]
  refine ⟨_, rfl, fun k hk => ?_, ⟨?_, ?_⟩, fun r j h1 h2 hj => ?_⟩
  · simp (discharger := omega) only [pm_up_n, pm_cp_n]
  · simp (discharger := omega) only [pm_up_s, pm_up_j, pm_up_n, pm_cp_n]
  · simp (discharger := omega) only [pm_up_s, pm_up_j, pm_up_n, pm_cp_n]
  · have : r = 1 ∨ r = 2 ∨ r = 3 ∨ r = 4 := by omega
    rcases this with rfl | rfl | rfl | rfl <;> simp (discharger := omega) only [Nat.reduceAdd, pm_up_n, pm_cp_n, pm_cp_s]
def cpT_re (h h' : pm_Hp) : Prop := (∀ k, (k < 32 ∨ 37 ≤ k) → h' k = h k) ∧ (h' 32 4 = h 70 4 ∧ h' 32 5 = h 70 5) ∧ ∀ r j, 1 ≤ r → r ≤ 4 → j < 6 → h' (32 + r) j = h (70 + r) j
theorem c_copyT_re {d : Nat} (hd : 3 ≤ d) (h : pm_Hp) : ∃ h', pm_ev d 97 [.ref 32, .ref 70] h = some (0, h') ∧ cpT_re h h' := by
  obtain ⟨d, rfl, -⟩ := dpos hd
  rw [e_X6_copyFrom_re, r_71_33 (by omega), pm_bd_s, r_72_34 (by omega), pm_bd_s, r_73_35 (by omega), pm_bd_s, r_74_36 (by omega), pm_bd_s]
  refine ⟨_, rfl, fun k hk => ?_, ⟨?_, ?_⟩, fun r j h1 h2 hj => ?_⟩
  · simp (discharger := omega) only [pm_up_n, pm_cp_n]
  · simp (discharger := omega) only [pm_up_s, pm_up_j, pm_up_n, pm_cp_n]
  · simp (discharger := omega) only [pm_up_s, pm_up_j, pm_up_n, pm_cp_n]
  · have : r = 1 ∨ r = 2 ∨ r = 3 ∨ r = 4 := by omega
    rcases this with rfl | rfl | rfl | rfl <;> simp (discharger := omega) only [Nat.reduceAdd, pm_up_n, pm_cp_n, pm_cp_s]
def cpT_t (h h' : pm_Hp) : Prop := (∀ k, (k < 32 ∨ 37 ≤ k) → h' k = h k) ∧ (h' 32 4 = h 142 4 ∧ h' 32 5 = h 142 5) ∧ ∀ r j, 1 ≤ r → r ≤ 4 → j < 6 → h' (32 + r) j = h (142 + r) j
theorem c_copyT_t {d : Nat} (hd : 3 ≤ d) (h : pm_Hp) : ∃ h', pm_ev d 97 [.ref 32, .ref 142] h = some (0, h') ∧ cpT_t h h' := by
  obtain ⟨d, rfl, -⟩ := dpos hd
  rw [e_X6_copyFrom_t, r_143_33 (by omega), pm_bd_s, r_144_34 (by omega), pm_bd_s, r_145_35 (by omega), pm_bd_s, r_146_36 (by omega), pm_bd_s]
  refine ⟨_, rfl, fun k hk => ?_, ⟨?_, ?_⟩, fun r j h1 h2 hj => ?_⟩
  · simp (discharger := omega) only [pm_up_n, pm_cp_n]
  · simp (discharger := omega) only [pm_up_s, pm_up_j, pm_up_n, pm_cp_n]
  · simp (discharger := omega) only [pm_up_s, pm_up_j, pm_up_n, pm_cp_n]
  · have : r = 1 ∨ r = 2 ∨ r = 3 ∨ r = 4 := by omega
    rcases this with rfl | rfl | rfl | rfl <;> simp (discharger := omega) only [Nat.reduceAdd, pm_up_n, pm_cp_n, pm_cp_s]
