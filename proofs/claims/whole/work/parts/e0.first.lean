/-! THE FIRST STATE -/
def gh (k j : Nat) : Int32 := (g_at g_w2 (g_pi k)).2.2.1 j
def gh0 (L : Nat) (xs : Nat → Int32) : pm_Hp := fun k j => if k = 300 then xs j else if k = 301 then nI L else gh k j
theorem iv_of (g : pm_Hp) (c : g 170 324 = 0 ∧ g 1 11 = 0 ∧ g 170 326 = 0 ∧ g 1 13 = 0 ∧ g 2 9 = g 170 0 ∧ g 2 8 = g 170 1 ∧ g 2 11 = g 170 2 ∧ g 2 10 = g 170 3 ∧ g 170 0 = 0 ∧ g 170 2 = 0 ∧ g 170 325 = 0 ∧ g 1 12 = 0 ∧ g 18 6 = 0 ∧ g 170 329 = 0 ∧ g 25 6 = 0 ∧ g 170 330 = 0 ∧ g 32 4 = 0 ∧ g 170 327 = 0 ∧ g 32 5 = 0 ∧ g 170 328 = 0 ∧ g 1 14 = 0 ∧ g 170 331 = 0 ∧ g 77 1 = 0 ∧ g 77 2 = 0 ∧ g 169 3 = 0 ∧ g 0 7 = 0 ∧ g 169 4 = 0 ∧ g 150 0 = 0 ∧ g 133 1 = 0 ∧ g 169 18 = 0 ∧ g 133 2 = g 169 25 ∧ g 133 3 = g 169 27 ∧ g 169 34 = -1 ∧ g 169 35 = -1) (b : ∀ i, i < 480 → g 16 i = g 170 (396 + i)) (d : ∀ t, t < 16 → g 3 t = 0 ∧ g 4 t = 0 ∧ g 5 t = 0 ∧ g 6 t = -1 ∧ g 7 t = -1 ∧ g 8 t = -1 ∧ g 9 t = 0 ∧ ∀ m, m < 5 → g 10 (t * 5 + m) = 0 ∧ g 13 (t * 5 + m) = 0) (a : ∀ a, a < 6 → ∀ m, m < 5 → g 14 (a * 5 + m) = 0) (L : Nat) (xs : Nat → Int32) : IV (fun k j => if k = 300 then xs j else if k = 301 then nI L else g k j) := by
  obtain ⟨f1, f2, f3, f4, f5, f6, f7, f8, f9, f10, f11, f12, f13, f14, f15, f16, f17, f18, f19, f20, f21, f22, f23, f24, f25, f26, f27, f28, f29, f30, f31, f32, f33, f34⟩ := c
  have no : ∀ {P : Prop} (t : Nat), t < 0 → P := fun t ht => absurd ht (Nat.not_lt_zero t)
  refine ⟨⟨0, 0, 0, 0, 0, 0, 0, 0, fun _ => (0, [], []), fun _ => (0, [], []), ⟨⟨?_, fun t ht => no t ht, ?_, ?_, fun t ht => no t ht⟩, ?_, ?_, ?_, ?_, ?_, ?_⟩, ⟨0, 0, ?_⟩, Or.inl f28⟩, Or.inl ⟨f26, f27⟩, TP.nil f29 f30 f31 f32 f33 f34⟩
  · exact ⟨by omega, by omega, f1, f2, f3, f4, fun t f ht => no t ht, fun r hr => no r hr, fun t ht => no t ht, fun _ => 0, fun t ht => no t ht⟩
  · exact ⟨f5, f6, f7, f8, ⟨0, by omega, f9⟩, ⟨0, by omega, f10⟩⟩
  · exact ⟨fun t _ ht => d t ht, fun a_ _ ha m hm => a a_ ha m hm⟩
  · exact ⟨by omega, f11, f12, fun a m ha => no a ha⟩
  · exact ⟨f13, f14, by omega, fun j hj => no j hj⟩
  · exact ⟨f15, f16, by omega, fun j hj => no j hj⟩
  · exact ⟨by omega, by omega, f17, f18, f19, f20, fun i hi => no i hi, fun i hi => no i hi⟩
  · exact ⟨by omega, f21, f22, fun i k hi => no i hi⟩
  · exact fun i hi => b i hi
  · exact KR.no (by omega) f23 f24 f25
theorem gh_c : gh 170 324 = 0 ∧ gh 1 11 = 0 ∧ gh 170 326 = 0 ∧ gh 1 13 = 0 ∧ gh 2 9 = gh 170 0 ∧ gh 2 8 = gh 170 1 ∧ gh 2 11 = gh 170 2 ∧ gh 2 10 = gh 170 3 ∧ gh 170 0 = 0 ∧ gh 170 2 = 0 ∧ gh 170 325 = 0 ∧ gh 1 12 = 0 ∧ gh 18 6 = 0 ∧ gh 170 329 = 0 ∧ gh 25 6 = 0 ∧ gh 170 330 = 0 ∧ gh 32 4 = 0 ∧ gh 170 327 = 0 ∧ gh 32 5 = 0 ∧ gh 170 328 = 0 ∧ gh 1 14 = 0 ∧ gh 170 331 = 0 ∧ gh 77 1 = 0 ∧ gh 77 2 = 0 ∧ gh 169 3 = 0 ∧ gh 0 7 = 0 ∧ gh 169 4 = 0 ∧ gh 150 0 = 0 ∧ gh 133 1 = 0 ∧ gh 169 18 = 0 ∧ gh 133 2 = gh 169 25 ∧ gh 133 3 = gh 169 27 ∧ gh 169 34 = -1 ∧ gh 169 35 = -1 := by decide +kernel
theorem gh_b : ∀ i, i < 480 → gh 16 i = gh 170 (396 + i) := by decide +kernel
theorem gh_d : ∀ t, t < 16 → gh 3 t = 0 ∧ gh 4 t = 0 ∧ gh 5 t = 0 ∧ gh 6 t = -1 ∧ gh 7 t = -1 ∧ gh 8 t = -1 ∧ gh 9 t = 0 ∧ ∀ m, m < 5 → gh 10 (t * 5 + m) = 0 ∧ gh 13 (t * 5 + m) = 0 := by decide +kernel
theorem gh_a : ∀ a, a < 6 → ∀ m, m < 5 → gh 14 (a * 5 + m) = 0 := by decide +kernel
theorem gh_iv (L : Nat) (xs : Nat → Int32) : IV (gh0 L xs) := iv_of gh gh_c gh_b gh_d gh_a L xs
