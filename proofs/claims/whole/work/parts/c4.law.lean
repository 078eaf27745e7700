def pm_law (pc : Nat) : Option pm_RI := bif Nat.ble pc 15 then none else kL_law pc
theorem pm_Gl_0 : (List.range 100).all (fun k => pm_ck 25 (some .boolean) code pm_law (0 + k)) = true := by decide +kernel
theorem pm_Gl_100 : (List.range 100).all (fun k => pm_ck 25 (some .boolean) code pm_law (100 + k)) = true := by decide +kernel
theorem pm_Gl_200 : (List.range 100).all (fun k => pm_ck 25 (some .boolean) code pm_law (200 + k)) = true := by decide +kernel
theorem pm_Gl_300 : (List.range 100).all (fun k => pm_ck 25 (some .boolean) code pm_law (300 + k)) = true := by decide +kernel
theorem pm_Gl_400 : (List.range 100).all (fun k => pm_ck 25 (some .boolean) code pm_law (400 + k)) = true := by decide +kernel
theorem pm_Gl_500 : (List.range 100).all (fun k => pm_ck 25 (some .boolean) code pm_law (500 + k)) = true := by decide +kernel
theorem pm_Gl_600 : (List.range 100).all (fun k => pm_ck 25 (some .boolean) code pm_law (600 + k)) = true := by decide +kernel
theorem pm_Gl_700 : (List.range 100).all (fun k => pm_ck 25 (some .boolean) code pm_law (700 + k)) = true := by decide +kernel
theorem pm_Gl_800 : (List.range 100).all (fun k => pm_ck 25 (some .boolean) code pm_law (800 + k)) = true := by decide +kernel
theorem pm_Gl_900 : (List.range 100).all (fun k => pm_ck 25 (some .boolean) code pm_law (900 + k)) = true := by decide +kernel
theorem pm_Gl_1000 : (List.range 100).all (fun k => pm_ck 25 (some .boolean) code pm_law (1000 + k)) = true := by decide +kernel
theorem pm_Gl_1100 : (List.range 100).all (fun k => pm_ck 25 (some .boolean) code pm_law (1100 + k)) = true := by decide +kernel
theorem pm_Gl_1200 : (List.range 100).all (fun k => pm_ck 25 (some .boolean) code pm_law (1200 + k)) = true := by decide +kernel
theorem pm_Gl_1300 : (List.range 100).all (fun k => pm_ck 25 (some .boolean) code pm_law (1300 + k)) = true := by decide +kernel
theorem pm_Gl_1400 : (List.range 100).all (fun k => pm_ck 25 (some .boolean) code pm_law (1400 + k)) = true := by decide +kernel
theorem pm_Gl_1500 : (List.range 51).all (fun k => pm_ck 25 (some .boolean) code pm_law (1500 + k)) = true := by decide +kernel
theorem pm_ck_at {a n pc : Nat} {f : Nat → Bool} (h : (List.range n).all (fun k => f (a + k)) = true) (h1 : a ≤ pc) (h2 : pc < a + n) : f pc = true := by
  have h3 := List.all_eq_true.mp h (pc - a) (List.mem_range.mpr (by omega))
  rwa [show a + (pc - a) = pc by omega] at h3
theorem pm_Gl_all : (List.range 1551).all (pm_ck 25 (some .boolean) code pm_law) = true := by
  refine List.all_eq_true.mpr (fun pc h => ?_)
  have h := List.mem_range.mp h
  rcases Nat.lt_or_ge pc 100 with g | g
  · exact pm_ck_at pm_Gl_0 (by omega) (by omega)
  rcases Nat.lt_or_ge pc 200 with g | g
  · exact pm_ck_at pm_Gl_100 (by omega) (by omega)
  rcases Nat.lt_or_ge pc 300 with g | g
  · exact pm_ck_at pm_Gl_200 (by omega) (by omega)
  rcases Nat.lt_or_ge pc 400 with g | g
  · exact pm_ck_at pm_Gl_300 (by omega) (by omega)
  rcases Nat.lt_or_ge pc 500 with g | g
  · exact pm_ck_at pm_Gl_400 (by omega) (by omega)
  rcases Nat.lt_or_ge pc 600 with g | g
  · exact pm_ck_at pm_Gl_500 (by omega) (by omega)
  rcases Nat.lt_or_ge pc 700 with g | g
  · exact pm_ck_at pm_Gl_600 (by omega) (by omega)
  rcases Nat.lt_or_ge pc 800 with g | g
  · exact pm_ck_at pm_Gl_700 (by omega) (by omega)
  rcases Nat.lt_or_ge pc 900 with g | g
  · exact pm_ck_at pm_Gl_800 (by omega) (by omega)
  rcases Nat.lt_or_ge pc 1000 with g | g
  · exact pm_ck_at pm_Gl_900 (by omega) (by omega)
  rcases Nat.lt_or_ge pc 1100 with g | g
  · exact pm_ck_at pm_Gl_1000 (by omega) (by omega)
  rcases Nat.lt_or_ge pc 1200 with g | g
  · exact pm_ck_at pm_Gl_1100 (by omega) (by omega)
  rcases Nat.lt_or_ge pc 1300 with g | g
  · exact pm_ck_at pm_Gl_1200 (by omega) (by omega)
  rcases Nat.lt_or_ge pc 1400 with g | g
  · exact pm_ck_at pm_Gl_1300 (by omega) (by omega)
  rcases Nat.lt_or_ge pc 1500 with g | g
  · exact pm_ck_at pm_Gl_1400 (by omega) (by omega)
  exact pm_ck_at pm_Gl_1500 (by omega) (by omega)
theorem pm_Glaw : pm_good 25 (some .boolean) code pm_law := pm_good_of 1551 pm_Gl_all (fun pc h => by
  have h1 : kL_law pc = none := pm_out_of 1551 pc _ h
  show (bif Nat.ble pc 15 then none else kL_law pc) = none
  rw [h1]
  cases Nat.ble pc 15 <;> rfl)
