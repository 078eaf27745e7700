theorem c_copyH_im {d : Nat} (hd : 4 ≤ d) (h : pm_Hp) : ∃ h', pm_ev d 5 [.ref 39, .ref 1] h = some (0, h') ∧ (∀ k, (k < 39 ∨ 77 ≤ k) → h' k = h k) ∧ ∀ k j, 1 ≤ k → k ≤ 36 → cel k j = true → h' (k + 38) j = h (k + 0) j := by
  obtain ⟨d, rfl, -⟩ := dpos hd
  obtain ⟨y1, e1, s1, s2, s3, s4⟩ := c_copyS_im (d := d) (by omega) h
  rw [e_X1_copyFrom_im, e1, pm_bd_s, r_11_49 (by omega), pm_bd_s, r_12_50 (by omega), pm_bd_s, r_13_51 (by omega), pm_bd_s, r_14_52 (by omega), pm_bd_s, r_15_53 (by omega), pm_bd_s, r_16_54 (by omega), pm_bd_s, r_17_55 (by omega), pm_bd_s]
  generalize hy2 : pm_cp _ _ _ _ _ _ = y2
  obtain ⟨y3, e3, l1, l2, l3, l4⟩ := c_copyL_im0 (d := d) (by omega) y2
  rw [e3, pm_bd_s]
  obtain ⟨y4, e4, m1, m2, m3, m4⟩ := c_copyL_im1 (d := d) (by omega) y3
  rw [e4, pm_bd_s]
  obtain ⟨y5, e5, t1, ⟨t2, t3⟩, t4⟩ := c_copyT_im (d := d) (by omega) y4
  rw [e5, pm_bd_s]
  have y2n : ∀ k, (k < 49 ∨ 56 ≤ k) → y2 k = y1 k := fun k hk => by
    rw [← hy2]
    simp (discharger := omega) only [pm_cp_n]
  have y2a : ∀ k, (k < 39 ∨ 77 ≤ k) → y2 k = h k := fun k hk => (y2n k (by omega)).trans (s1 k (by omega))
  refine ⟨_, rfl, fun k hk => ?_, fun k j h1 h2 hc => ?_⟩
  · simp (discharger := omega) only [pm_up_n]
    rw [t1 k (by omega), m1 k (by omega), l1 k (by omega)]; exact y2a k hk
  · have : k = 1 ∨ k = 2 ∨ k = 3 ∨ k = 4 ∨ k = 5 ∨ k = 6 ∨ k = 7 ∨ k = 8 ∨ k = 9 ∨ k = 10 ∨ k = 11 ∨ k = 12 ∨ k = 13 ∨ k = 14 ∨ k = 15 ∨ k = 16 ∨ k = 17 ∨ k = 18 ∨ k = 19 ∨ k = 20 ∨ k = 21 ∨ k = 22 ∨ k = 23 ∨ k = 24 ∨ k = 25 ∨ k = 26 ∨ k = 27 ∨ k = 28 ∨ k = 29 ∨ k = 30 ∨ k = 31 ∨ k = 32 ∨ k = 33 ∨ k = 34 ∨ k = 35 ∨ k = 36 := by omega
    rcases this with rfl | rfl | rfl | rfl | rfl | rfl | rfl | rfl | rfl | rfl | rfl | rfl | rfl | rfl | rfl | rfl | rfl | rfl | rfl | rfl | rfl | rfl | rfl | rfl | rfl | rfl | rfl | rfl | rfl | rfl | rfl | rfl | rfl | rfl | rfl | rfl
    · have : j = 11 ∨ j = 12 ∨ j = 13 ∨ j = 14 := by
        have := of_decide_eq_true (show decide (11 ≤ j ∧ j < 15) = true from hc)
        omega
      rcases this with rfl | rfl | rfl | rfl <;> simp (discharger := omega) only [Nat.reduceAdd, pm_up_s, pm_up_j, pm_up_n] <;> rw [t1 1 (by omega), m1 1 (by omega), l1 1 (by omega), y2a 1 (by omega)]
    · have hj := of_decide_eq_true (show decide (8 ≤ j ∧ j < 12) = true from hc)
      simp (discharger := omega) only [Nat.reduceAdd, pm_up_n]
      rw [t1 40 (by omega), m1 40 (by omega), l1 40 (by omega), y2n 40 (by omega)]
      exact s2 j hj.1 hj.2
    · have hj : j < 16 := of_decide_eq_true (show decide (j < 16) = true from hc)
      simp (discharger := omega) only [Nat.reduceAdd, pm_up_n]
      rw [t1 41 (by omega), m1 41 (by omega), l1 41 (by omega), y2n 41 (by omega)]
      exact s3 1 j (by omega) (by omega) hj
    · have hj : j < 16 := of_decide_eq_true (show decide (j < 16) = true from hc)
      simp (discharger := omega) only [Nat.reduceAdd, pm_up_n]
      rw [t1 42 (by omega), m1 42 (by omega), l1 42 (by omega), y2n 42 (by omega)]
      exact s3 2 j (by omega) (by omega) hj
    · have hj : j < 16 := of_decide_eq_true (show decide (j < 16) = true from hc)
      simp (discharger := omega) only [Nat.reduceAdd, pm_up_n]
      rw [t1 43 (by omega), m1 43 (by omega), l1 43 (by omega), y2n 43 (by omega)]
      exact s3 3 j (by omega) (by omega) hj
    · have hj : j < 16 := of_decide_eq_true (show decide (j < 16) = true from hc)
      simp (discharger := omega) only [Nat.reduceAdd, pm_up_n]
      rw [t1 44 (by omega), m1 44 (by omega), l1 44 (by omega), y2n 44 (by omega)]
      exact s3 4 j (by omega) (by omega) hj
    · have hj : j < 16 := of_decide_eq_true (show decide (j < 16) = true from hc)
      simp (discharger := omega) only [Nat.reduceAdd, pm_up_n]
      rw [t1 45 (by omega), m1 45 (by omega), l1 45 (by omega), y2n 45 (by omega)]
      exact s3 5 j (by omega) (by omega) hj
    · have hj : j < 16 := of_decide_eq_true (show decide (j < 16) = true from hc)
      simp (discharger := omega) only [Nat.reduceAdd, pm_up_n]
      rw [t1 46 (by omega), m1 46 (by omega), l1 46 (by omega), y2n 46 (by omega)]
      exact s3 6 j (by omega) (by omega) hj
    · have hj : j < 16 := of_decide_eq_true (show decide (j < 16) = true from hc)
      simp (discharger := omega) only [Nat.reduceAdd, pm_up_n]
      rw [t1 47 (by omega), m1 47 (by omega), l1 47 (by omega), y2n 47 (by omega)]
      exact s3 7 j (by omega) (by omega) hj
    · have hj : j < 80 := of_decide_eq_true (show decide (j < 80) = true from hc)
      simp (discharger := omega) only [Nat.reduceAdd, pm_up_n]
      rw [t1 48 (by omega), m1 48 (by omega), l1 48 (by omega), y2n 48 (by omega)]
      exact s4 j hj
    · have hj : j < 16 := of_decide_eq_true (show decide (j < 16) = true from hc)
      simp (discharger := omega) only [Nat.reduceAdd, pm_up_n]
      rw [t1 49 (by omega), m1 49 (by omega), l1 49 (by omega), ← hy2]
      simp (discharger := omega) only [pm_cp_n, pm_cp_s]
      rw [s1 11 (by omega)]
    · have hj : j < 16 := of_decide_eq_true (show decide (j < 16) = true from hc)
      simp (discharger := omega) only [Nat.reduceAdd, pm_up_n]
      rw [t1 50 (by omega), m1 50 (by omega), l1 50 (by omega), ← hy2]
      simp (discharger := omega) only [pm_cp_n, pm_cp_s]
      rw [s1 12 (by omega)]
    · have hj : j < 80 := of_decide_eq_true (show decide (j < 80) = true from hc)
      simp (discharger := omega) only [Nat.reduceAdd, pm_up_n]
      rw [t1 51 (by omega), m1 51 (by omega), l1 51 (by omega), ← hy2]
      simp (discharger := omega) only [pm_cp_n, pm_cp_s]
      rw [s1 13 (by omega)]
    · have hj : j < 30 := of_decide_eq_true (show decide (j < 30) = true from hc)
      simp (discharger := omega) only [Nat.reduceAdd, pm_up_n]
      rw [t1 52 (by omega), m1 52 (by omega), l1 52 (by omega), ← hy2]
      simp (discharger := omega) only [pm_cp_n, pm_cp_s]
      rw [s1 14 (by omega)]
    · have hj : j < 4 := of_decide_eq_true (show decide (j < 4) = true from hc)
      simp (discharger := omega) only [Nat.reduceAdd, pm_up_n]
      rw [t1 53 (by omega), m1 53 (by omega), l1 53 (by omega), ← hy2]
      simp (discharger := omega) only [pm_cp_n, pm_cp_s]
      rw [s1 15 (by omega)]
    · have hj : j < 480 := of_decide_eq_true (show decide (j < 480) = true from hc)
      simp (discharger := omega) only [Nat.reduceAdd, pm_up_n]
      rw [t1 54 (by omega), m1 54 (by omega), l1 54 (by omega), ← hy2]
      simp (discharger := omega) only [pm_cp_n, pm_cp_s]
      rw [s1 16 (by omega)]
    · have hj : j < 40 := of_decide_eq_true (show decide (j < 40) = true from hc)
      simp (discharger := omega) only [Nat.reduceAdd, pm_up_n]
      rw [t1 55 (by omega), m1 55 (by omega), l1 55 (by omega), ← hy2]
      simp (discharger := omega) only [pm_cp_n, pm_cp_s]
      rw [s1 17 (by omega)]
    · have hj : j = 6 := of_decide_eq_true (show decide (j = 6) = true from hc)
      subst hj
      simp (discharger := omega) only [Nat.reduceAdd, pm_up_n]
      rw [t1 56 (by omega), m1 56 (by omega), l2, y2a 18 (by omega)]
    · have hj : j < 400 := of_decide_eq_true (show decide (j < 400) = true from hc)
      simp (discharger := omega) only [Nat.reduceAdd, pm_up_n]
      rw [t1 57 (by omega), m1 57 (by omega), l3 j hj, y2a 19 (by omega)]
    · have hj : j < 16 := of_decide_eq_true (show decide (j < 16) = true from hc)
      simp (discharger := omega) only [Nat.reduceAdd, pm_up_n]
      rw [t1 58 (by omega), m1 58 (by omega)]
      exact (l4 2 j (by omega) (by omega) hj).trans (by rw [y2a 20 (by omega)])
    · have hj : j < 16 := of_decide_eq_true (show decide (j < 16) = true from hc)
      simp (discharger := omega) only [Nat.reduceAdd, pm_up_n]
      rw [t1 59 (by omega), m1 59 (by omega)]
      exact (l4 3 j (by omega) (by omega) hj).trans (by rw [y2a 21 (by omega)])
    · have hj : j < 16 := of_decide_eq_true (show decide (j < 16) = true from hc)
      simp (discharger := omega) only [Nat.reduceAdd, pm_up_n]
      rw [t1 60 (by omega), m1 60 (by omega)]
      exact (l4 4 j (by omega) (by omega) hj).trans (by rw [y2a 22 (by omega)])
    · have hj : j < 16 := of_decide_eq_true (show decide (j < 16) = true from hc)
      simp (discharger := omega) only [Nat.reduceAdd, pm_up_n]
      rw [t1 61 (by omega), m1 61 (by omega)]
      exact (l4 5 j (by omega) (by omega) hj).trans (by rw [y2a 23 (by omega)])
    · exact absurd hc (by simp [cel])
    · have hj : j = 6 := of_decide_eq_true (show decide (j = 6) = true from hc)
      subst hj
      simp (discharger := omega) only [Nat.reduceAdd, pm_up_n]
      rw [t1 63 (by omega), m2, l1 25 (by omega), y2a 25 (by omega)]
    · have hj : j < 400 := of_decide_eq_true (show decide (j < 400) = true from hc)
      simp (discharger := omega) only [Nat.reduceAdd, pm_up_n]
      rw [t1 64 (by omega), m3 j hj, l1 26 (by omega), y2a 26 (by omega)]
    · have hj : j < 16 := of_decide_eq_true (show decide (j < 16) = true from hc)
      simp (discharger := omega) only [Nat.reduceAdd, pm_up_n]
      rw [t1 65 (by omega)]
      exact (m4 2 j (by omega) (by omega) hj).trans (by rw [l1 27 (by omega), y2a 27 (by omega)])
    · have hj : j < 16 := of_decide_eq_true (show decide (j < 16) = true from hc)
      simp (discharger := omega) only [Nat.reduceAdd, pm_up_n]
      rw [t1 66 (by omega)]
      exact (m4 3 j (by omega) (by omega) hj).trans (by rw [l1 28 (by omega), y2a 28 (by omega)])
    · have hj : j < 16 := of_decide_eq_true (show decide (j < 16) = true from hc)
      simp (discharger := omega) only [Nat.reduceAdd, pm_up_n]
      rw [t1 67 (by omega)]
      exact (m4 4 j (by omega) (by omega) hj).trans (by rw [l1 29 (by omega), y2a 29 (by omega)])
    · have hj : j < 16 := of_decide_eq_true (show decide (j < 16) = true from hc)
      simp (discharger := omega) only [Nat.reduceAdd, pm_up_n]
      rw [t1 68 (by omega)]
      exact (m4 5 j (by omega) (by omega) hj).trans (by rw [l1 30 (by omega), y2a 30 (by omega)])
    · exact absurd hc (by simp [cel])
    · have hj := of_decide_eq_true (show decide (j = 4 ∨ j = 5) = true from hc)
      simp (discharger := omega) only [Nat.reduceAdd, pm_up_n]
      rcases hj with rfl | rfl
      · rw [t2, m1 32 (by omega), l1 32 (by omega), y2a 32 (by omega)]
      · rw [t3, m1 32 (by omega), l1 32 (by omega), y2a 32 (by omega)]
    · have hj : j < 6 := of_decide_eq_true (show decide (j < 6) = true from hc)
      simp (discharger := omega) only [Nat.reduceAdd, pm_up_n]
      exact (t4 1 j (by omega) (by omega) hj).trans (by rw [m1 33 (by omega), l1 33 (by omega), y2a 33 (by omega)])
    · have hj : j < 6 := of_decide_eq_true (show decide (j < 6) = true from hc)
      simp (discharger := omega) only [Nat.reduceAdd, pm_up_n]
      exact (t4 2 j (by omega) (by omega) hj).trans (by rw [m1 34 (by omega), l1 34 (by omega), y2a 34 (by omega)])
    · have hj : j < 6 := of_decide_eq_true (show decide (j < 6) = true from hc)
      simp (discharger := omega) only [Nat.reduceAdd, pm_up_n]
      exact (t4 3 j (by omega) (by omega) hj).trans (by rw [m1 35 (by omega), l1 35 (by omega), y2a 35 (by omega)])
    · have hj : j < 6 := of_decide_eq_true (show decide (j < 6) = true from hc)
      simp (discharger := omega) only [Nat.reduceAdd, pm_up_n]
      exact (t4 4 j (by omega) (by omega) hj).trans (by rw [m1 36 (by omega), l1 36 (by omega), y2a 36 (by omega)])
theorem c_copyH_re {d : Nat} (hd : 4 ≤ d) (h : pm_Hp) : ∃ h', pm_ev d 5 [.ref 1, .ref 39] h = some (0, h') ∧ (∀ k, (k < 1 ∨ 39 ≤ k) → h' k = h k) ∧ ∀ k j, 1 ≤ k → k ≤ 36 → cel k j = true → h' (k + 0) j = h (k + 38) j := by
  obtain ⟨d, rfl, -⟩ := dpos hd
  obtain ⟨y1, e1, s1, s2, s3, s4⟩ := c_copyS_re (d := d) (by omega) h
  rw [e_X1_copyFrom_re, e1, pm_bd_s, r_49_11 (by omega), pm_bd_s, r_50_12 (by omega), pm_bd_s, r_51_13 (by omega), pm_bd_s, r_52_14 (by omega), pm_bd_s, r_53_15 (by omega), pm_bd_s, r_54_16 (by omega), pm_bd_s, r_55_17 (by omega), pm_bd_s]
  generalize hy2 : pm_cp _ _ _ _ _ _ = y2
  obtain ⟨y3, e3, l1, l2, l3, l4⟩ := c_copyL_re0 (d := d) (by omega) y2
  rw [e3, pm_bd_s]
  obtain ⟨y4, e4, m1, m2, m3, m4⟩ := c_copyL_re1 (d := d) (by omega) y3
  rw [e4, pm_bd_s]
  obtain ⟨y5, e5, t1, ⟨t2, t3⟩, t4⟩ := c_copyT_re (d := d) (by omega) y4
  rw [e5, pm_bd_s]
  have y2n : ∀ k, (k < 11 ∨ 18 ≤ k) → y2 k = y1 k := fun k hk => by
    rw [← hy2]
    simp (discharger := omega) only [pm_cp_n]
  have y2a : ∀ k, (k < 1 ∨ 39 ≤ k) → y2 k = h k := fun k hk => (y2n k (by omega)).trans (s1 k (by omega))
  refine ⟨_, rfl, fun k hk => ?_, fun k j h1 h2 hc => ?_⟩
  · simp (discharger := omega) only [pm_up_n]
    rw [t1 k (by omega), m1 k (by omega), l1 k (by omega)]; exact y2a k hk
  · have : k = 1 ∨ k = 2 ∨ k = 3 ∨ k = 4 ∨ k = 5 ∨ k = 6 ∨ k = 7 ∨ k = 8 ∨ k = 9 ∨ k = 10 ∨ k = 11 ∨ k = 12 ∨ k = 13 ∨ k = 14 ∨ k = 15 ∨ k = 16 ∨ k = 17 ∨ k = 18 ∨ k = 19 ∨ k = 20 ∨ k = 21 ∨ k = 22 ∨ k = 23 ∨ k = 24 ∨ k = 25 ∨ k = 26 ∨ k = 27 ∨ k = 28 ∨ k = 29 ∨ k = 30 ∨ k = 31 ∨ k = 32 ∨ k = 33 ∨ k = 34 ∨ k = 35 ∨ k = 36 := by omega
    rcases this with rfl | rfl | rfl | rfl | rfl | rfl | rfl | rfl | rfl | rfl | rfl | rfl | rfl | rfl | rfl | rfl | rfl | rfl | rfl | rfl | rfl | rfl | rfl | rfl | rfl | rfl | rfl | rfl | rfl | rfl | rfl | rfl | rfl | rfl | rfl | rfl
    · have : j = 11 ∨ j = 12 ∨ j = 13 ∨ j = 14 := by
        have := of_decide_eq_true (show decide (11 ≤ j ∧ j < 15) = true from hc)
        omega
      rcases this with rfl | rfl | rfl | rfl <;> simp (discharger := omega) only [Nat.reduceAdd, pm_up_s, pm_up_j, pm_up_n] <;> rw [t1 39 (by omega), m1 39 (by omega), l1 39 (by omega), y2a 39 (by omega)]
    · have hj := of_decide_eq_true (show decide (8 ≤ j ∧ j < 12) = true from hc)
      simp (discharger := omega) only [Nat.reduceAdd, pm_up_n]
      rw [t1 2 (by omega), m1 2 (by omega), l1 2 (by omega), y2n 2 (by omega)]
      exact s2 j hj.1 hj.2
    · have hj : j < 16 := of_decide_eq_true (show decide (j < 16) = true from hc)
      simp (discharger := omega) only [Nat.reduceAdd, pm_up_n]
      rw [t1 3 (by omega), m1 3 (by omega), l1 3 (by omega), y2n 3 (by omega)]
      exact s3 1 j (by omega) (by omega) hj
    · have hj : j < 16 := of_decide_eq_true (show decide (j < 16) = true from hc)
      simp (discharger := omega) only [Nat.reduceAdd, pm_up_n]
      rw [t1 4 (by omega), m1 4 (by omega), l1 4 (by omega), y2n 4 (by omega)]
      exact s3 2 j (by omega) (by omega) hj
    · have hj : j < 16 := of_decide_eq_true (show decide (j < 16) = true from hc)
      simp (discharger := omega) only [Nat.reduceAdd, pm_up_n]
      rw [t1 5 (by omega), m1 5 (by omega), l1 5 (by omega), y2n 5 (by omega)]
      exact s3 3 j (by omega) (by omega) hj
    · have hj : j < 16 := of_decide_eq_true (show decide (j < 16) = true from hc)
      simp (discharger := omega) only [Nat.reduceAdd, pm_up_n]
      rw [t1 6 (by omega), m1 6 (by omega), l1 6 (by omega), y2n 6 (by omega)]
      exact s3 4 j (by omega) (by omega) hj
    · have hj : j < 16 := of_decide_eq_true (show decide (j < 16) = true from hc)
      simp (discharger := omega) only [Nat.reduceAdd, pm_up_n]
      rw [t1 7 (by omega), m1 7 (by omega), l1 7 (by omega), y2n 7 (by omega)]
      exact s3 5 j (by omega) (by omega) hj
    · have hj : j < 16 := of_decide_eq_true (show decide (j < 16) = true from hc)
      simp (discharger := omega) only [Nat.reduceAdd, pm_up_n]
      rw [t1 8 (by omega), m1 8 (by omega), l1 8 (by omega), y2n 8 (by omega)]
      exact s3 6 j (by omega) (by omega) hj
    · have hj : j < 16 := of_decide_eq_true (show decide (j < 16) = true from hc)
      simp (discharger := omega) only [Nat.reduceAdd, pm_up_n]
      rw [t1 9 (by omega), m1 9 (by omega), l1 9 (by omega), y2n 9 (by omega)]
      exact s3 7 j (by omega) (by omega) hj
    · have hj : j < 80 := of_decide_eq_true (show decide (j < 80) = true from hc)
      simp (discharger := omega) only [Nat.reduceAdd, pm_up_n]
      rw [t1 10 (by omega), m1 10 (by omega), l1 10 (by omega), y2n 10 (by omega)]
      exact s4 j hj
    · have hj : j < 16 := of_decide_eq_true (show decide (j < 16) = true from hc)
      simp (discharger := omega) only [Nat.reduceAdd, pm_up_n]
      rw [t1 11 (by omega), m1 11 (by omega), l1 11 (by omega), ← hy2]
      simp (discharger := omega) only [pm_cp_n, pm_cp_s]
      rw [s1 49 (by omega)]
    · have hj : j < 16 := of_decide_eq_true (show decide (j < 16) = true from hc)
      simp (discharger := omega) only [Nat.reduceAdd, pm_up_n]
      rw [t1 12 (by omega), m1 12 (by omega), l1 12 (by omega), ← hy2]
      simp (discharger := omega) only [pm_cp_n, pm_cp_s]
      rw [s1 50 (by omega)]
    · have hj : j < 80 := of_decide_eq_true (show decide (j < 80) = true from hc)
      simp (discharger := omega) only [Nat.reduceAdd, pm_up_n]
      rw [t1 13 (by omega), m1 13 (by omega), l1 13 (by omega), ← hy2]
      simp (discharger := omega) only [pm_cp_n, pm_cp_s]
      rw [s1 51 (by omega)]
    · have hj : j < 30 := of_decide_eq_true (show decide (j < 30) = true from hc)
      simp (discharger := omega) only [Nat.reduceAdd, pm_up_n]
      rw [t1 14 (by omega), m1 14 (by omega), l1 14 (by omega), ← hy2]
      simp (discharger := omega) only [pm_cp_n, pm_cp_s]
      rw [s1 52 (by omega)]
    · have hj : j < 4 := of_decide_eq_true (show decide (j < 4) = true from hc)
      simp (discharger := omega) only [Nat.reduceAdd, pm_up_n]
      rw [t1 15 (by omega), m1 15 (by omega), l1 15 (by omega), ← hy2]
      simp (discharger := omega) only [pm_cp_n, pm_cp_s]
      rw [s1 53 (by omega)]
    · have hj : j < 480 := of_decide_eq_true (show decide (j < 480) = true from hc)
      simp (discharger := omega) only [Nat.reduceAdd, pm_up_n]
      rw [t1 16 (by omega), m1 16 (by omega), l1 16 (by omega), ← hy2]
      simp (discharger := omega) only [pm_cp_n, pm_cp_s]
      rw [s1 54 (by omega)]
    · have hj : j < 40 := of_decide_eq_true (show decide (j < 40) = true from hc)
      simp (discharger := omega) only [Nat.reduceAdd, pm_up_n]
      rw [t1 17 (by omega), m1 17 (by omega), l1 17 (by omega), ← hy2]
      simp (discharger := omega) only [pm_cp_n, pm_cp_s]
      rw [s1 55 (by omega)]
    · have hj : j = 6 := of_decide_eq_true (show decide (j = 6) = true from hc)
      subst hj
      simp (discharger := omega) only [Nat.reduceAdd, pm_up_n]
      rw [t1 18 (by omega), m1 18 (by omega), l2, y2a 56 (by omega)]
    · have hj : j < 400 := of_decide_eq_true (show decide (j < 400) = true from hc)
      simp (discharger := omega) only [Nat.reduceAdd, pm_up_n]
      rw [t1 19 (by omega), m1 19 (by omega), l3 j hj, y2a 57 (by omega)]
    · have hj : j < 16 := of_decide_eq_true (show decide (j < 16) = true from hc)
      simp (discharger := omega) only [Nat.reduceAdd, pm_up_n]
      rw [t1 20 (by omega), m1 20 (by omega)]
      exact (l4 2 j (by omega) (by omega) hj).trans (by rw [y2a 58 (by omega)])
    · have hj : j < 16 := of_decide_eq_true (show decide (j < 16) = true from hc)
      simp (discharger := omega) only [Nat.reduceAdd, pm_up_n]
      rw [t1 21 (by omega), m1 21 (by omega)]
      exact (l4 3 j (by omega) (by omega) hj).trans (by rw [y2a 59 (by omega)])
    · have hj : j < 16 := of_decide_eq_true (show decide (j < 16) = true from hc)
      simp (discharger := omega) only [Nat.reduceAdd, pm_up_n]
      rw [t1 22 (by omega), m1 22 (by omega)]
      exact (l4 4 j (by omega) (by omega) hj).trans (by rw [y2a 60 (by omega)])
    · have hj : j < 16 := of_decide_eq_true (show decide (j < 16) = true from hc)
      simp (discharger := omega) only [Nat.reduceAdd, pm_up_n]
      rw [t1 23 (by omega), m1 23 (by omega)]
      exact (l4 5 j (by omega) (by omega) hj).trans (by rw [y2a 61 (by omega)])
    · exact absurd hc (by simp [cel])
    · have hj : j = 6 := of_decide_eq_true (show decide (j = 6) = true from hc)
      subst hj
      simp (discharger := omega) only [Nat.reduceAdd, pm_up_n]
      rw [t1 25 (by omega), m2, l1 63 (by omega), y2a 63 (by omega)]
    · have hj : j < 400 := of_decide_eq_true (show decide (j < 400) = true from hc)
      simp (discharger := omega) only [Nat.reduceAdd, pm_up_n]
      rw [t1 26 (by omega), m3 j hj, l1 64 (by omega), y2a 64 (by omega)]
    · have hj : j < 16 := of_decide_eq_true (show decide (j < 16) = true from hc)
      simp (discharger := omega) only [Nat.reduceAdd, pm_up_n]
      rw [t1 27 (by omega)]
      exact (m4 2 j (by omega) (by omega) hj).trans (by rw [l1 65 (by omega), y2a 65 (by omega)])
    · have hj : j < 16 := of_decide_eq_true (show decide (j < 16) = true from hc)
      simp (discharger := omega) only [Nat.reduceAdd, pm_up_n]
      rw [t1 28 (by omega)]
      exact (m4 3 j (by omega) (by omega) hj).trans (by rw [l1 66 (by omega), y2a 66 (by omega)])
    · have hj : j < 16 := of_decide_eq_true (show decide (j < 16) = true from hc)
      simp (discharger := omega) only [Nat.reduceAdd, pm_up_n]
      rw [t1 29 (by omega)]
      exact (m4 4 j (by omega) (by omega) hj).trans (by rw [l1 67 (by omega), y2a 67 (by omega)])
    · have hj : j < 16 := of_decide_eq_true (show decide (j < 16) = true from hc)
      simp (discharger := omega) only [Nat.reduceAdd, pm_up_n]
      rw [t1 30 (by omega)]
      exact (m4 5 j (by omega) (by omega) hj).trans (by rw [l1 68 (by omega), y2a 68 (by omega)])
    · exact absurd hc (by simp [cel])
    · have hj := of_decide_eq_true (show decide (j = 4 ∨ j = 5) = true from hc)
      simp (discharger := omega) only [Nat.reduceAdd, pm_up_n]
      rcases hj with rfl | rfl
      · rw [t2, m1 70 (by omega), l1 70 (by omega), y2a 70 (by omega)]
      · rw [t3, m1 70 (by omega), l1 70 (by omega), y2a 70 (by omega)]
    · have hj : j < 6 := of_decide_eq_true (show decide (j < 6) = true from hc)
      simp (discharger := omega) only [Nat.reduceAdd, pm_up_n]
      exact (t4 1 j (by omega) (by omega) hj).trans (by rw [m1 71 (by omega), l1 71 (by omega), y2a 71 (by omega)])
    · have hj : j < 6 := of_decide_eq_true (show decide (j < 6) = true from hc)
      simp (discharger := omega) only [Nat.reduceAdd, pm_up_n]
      exact (t4 2 j (by omega) (by omega) hj).trans (by rw [m1 72 (by omega), l1 72 (by omega), y2a 72 (by omega)])
    · have hj : j < 6 := of_decide_eq_true (show decide (j < 6) = true from hc)
      simp (discharger := omega) only [Nat.reduceAdd, pm_up_n]
      exact (t4 3 j (by omega) (by omega) hj).trans (by rw [m1 73 (by omega), l1 73 (by omega), y2a 73 (by omega)])
    · have hj : j < 6 := of_decide_eq_true (show decide (j < 6) = true from hc)
      simp (discharger := omega) only [Nat.reduceAdd, pm_up_n]
      exact (t4 4 j (by omega) (by omega) hj).trans (by rw [m1 74 (by omega), l1 74 (by omega), y2a 74 (by omega)])
