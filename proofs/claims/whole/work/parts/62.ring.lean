/-! THE RING through an act's beginning: the class keeps, then (after its other writes) the model keeps -/
theorem ring_ix {nx x : Nat} (hn : nx < 6) (hx : x < 5) : ((nx + 1) % 6 + 5 - (x + 1)) % 6 = (nx + 5 - x) % 6 := by omega
theorem ring_nw {nx : Nat} (hn : nx < 6) : ((nx + 1) % 6 + 5 - 0) % 6 = nx := by omega
theorem ring_ne {nx x : Nat} (hn : nx < 6) (hx : x < 5) : (nx + 5 - x) % 6 ≠ nx := by omega
theorem kh_st {i j : Nat} {h : pm_Hp} {k x : Nat} (h1 : 2 ≤ k) (h2 : k ≤ 10) : kh i j h k x = h (79 + 9 * i + (k - 2)) x := if_pos ⟨h1, h2⟩
theorem kh_w {i j : Nat} {h : pm_Hp} {x : Nat} (hx : x < 324) : kh i j h 170 x = h 172 (324 * j + x) := by
  unfold kh
  rw [if_neg (by omega), if_pos ⟨rfl, hx⟩]
theorem kh_o {i j : Nat} {h : pm_Hp} {k x : Nat} (h1 : ¬ (2 ≤ k ∧ k ≤ 10)) (h2 : ¬ (k = 170 ∧ x < 324)) : kh i j h k x = h k x := by
  unfold kh
  rw [if_neg h1, if_neg h2]
/-- two views through kept stocks are alike, cell by cell -/
theorem kh_ag {i j i' j' : Nat} {h h' : pm_Hp} (s0 : ∀ x, 8 ≤ x → x < 12 → h' (79 + 9 * i') x = h (79 + 9 * i) x) (s1 : ∀ r x, 1 ≤ r → r ≤ 7 → x < 16 → h' (79 + 9 * i' + r) x = h (79 + 9 * i + r) x) (s2 : ∀ x, x < 80 → h' (79 + 9 * i' + 8) x = h (79 + 9 * i + 8) x) (w : ∀ x, x < 324 → h' 172 (324 * j' + x) = h 172 (324 * j + x)) (o1 : h' 1 = h 1) (o2 : ∀ k, 11 ≤ k → k ≤ 15 → h' k = h k) (o3 : ∀ x, 324 ≤ x → x < 396 → h' 170 x = h 170 x) : agS (kh i j h) (kh i' j' h') := by
  refine ⟨fun x hx => ?_, ⟨?_, ?_⟩, fun r hr => ?_, ⟨?_, ?_⟩, fun r hr => ?_, fun x h1 h2 => ?_, fun k x h1 h2 h3 h4 => ?_, fun x hx => ⟨?_, ?_⟩, fun x hx => ?_⟩
  · rw [kh_w hx, kh_w hx]; exact w x hx
  · rw [kh_o (by omega) (by omega), kh_o (by omega) (by omega)]; exact o3 _ (by omega) (by omega)
  · rw [kh_o (by omega) (by omega), kh_o (by omega) (by omega)]; exact o3 _ (by omega) (by omega)
  · rw [kh_o (by omega) (by omega), kh_o (by omega) (by omega)]; exact o3 _ (by omega) (by omega)
  · rw [kh_o (by omega) (by omega), kh_o (by omega) (by omega), o1]
  · rw [kh_o (by omega) (by omega), kh_o (by omega) (by omega), o1]
  · rw [kh_o (by omega) (by omega), kh_o (by omega) (by omega), o2 15 (by omega) (by omega)]
  · rw [kh_st (by omega) (by omega), kh_st (by omega) (by omega)]; exact s0 x h1 h2
  · by_cases g : k ≤ 10
    · rw [kh_st (by omega) g, kh_st (by omega) g]
      exact s1 (k - 2) x (by omega) (by omega) h4
    · rw [kh_o (by omega) (by omega), kh_o (by omega) (by omega), o2 k (by omega) (by omega)]
  · rw [kh_st (by omega) (by omega), kh_st (by omega) (by omega)]; exact s2 x hx
  · rw [kh_o (by omega) (by omega), kh_o (by omega) (by omega), o2 13 (by omega) (by omega)]
  · rw [kh_o (by omega) (by omega), kh_o (by omega) (by omega), o2 14 (by omega) (by omega)]
/-- the state itself and a view -/
theorem kh_nw {i j : Nat} {h h' : pm_Hp} (s0 : ∀ x, 8 ≤ x → x < 12 → h' (79 + 9 * i) x = h 2 x) (s1 : ∀ r x, 1 ≤ r → r ≤ 7 → x < 16 → h' (79 + 9 * i + r) x = h (2 + r) x) (s2 : ∀ x, x < 80 → h' (79 + 9 * i + 8) x = h 10 x) (w : ∀ x, x < 324 → h' 172 (324 * j + x) = h 170 x) (o1 : h' 1 = h 1) (o2 : ∀ k, 11 ≤ k → k ≤ 15 → h' k = h k) (o3 : ∀ x, 324 ≤ x → x < 396 → h' 170 x = h 170 x) : agS h (kh i j h') := by
  refine ⟨fun x hx => ?_, ⟨?_, ?_⟩, fun r hr => ?_, ⟨?_, ?_⟩, fun r hr => ?_, fun x h1 h2 => ?_, fun k x h1 h2 h3 h4 => ?_, fun x hx => ⟨?_, ?_⟩, fun x hx => ?_⟩
  · rw [kh_w hx]; exact w x hx
  · rw [kh_o (by omega) (by omega)]; exact o3 _ (by omega) (by omega)
  · rw [kh_o (by omega) (by omega)]; exact o3 _ (by omega) (by omega)
  · rw [kh_o (by omega) (by omega)]; exact o3 _ (by omega) (by omega)
  · rw [kh_o (by omega) (by omega), o1]
  · rw [kh_o (by omega) (by omega), o1]
  · rw [kh_o (by omega) (by omega), o2 15 (by omega) (by omega)]
  · rw [kh_st (by omega) (by omega)]; exact s0 x h1 h2
  · by_cases g : k ≤ 10
    · rw [kh_st (by omega) g]
      have := s1 (k - 2) x (by omega) (by omega) h4
      rw [show 2 + (k - 2) = k by omega] at this
      exact this
    · rw [kh_o (by omega) (by omega), o2 k (by omega) (by omega)]
  · rw [kh_st (by omega) (by omega)]; exact s2 x hx
  · rw [kh_o (by omega) (by omega), o2 13 (by omega) (by omega)]
  · rw [kh_o (by omega) (by omega), o2 14 (by omega) (by omega)]
