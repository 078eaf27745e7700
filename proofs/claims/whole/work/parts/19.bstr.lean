/-! STRINGS, the planner's rows of rows -/
set_option maxRecDepth 100000 in
theorem e_J0_length_8abf5_400 (d : Nat) (h : pm_Hp) : pm_ev (d + 1) 299 [.ref 400] h = pm_bd (pm_ev d 303 [.ref 400] h) fun r1 y1 => some (pm_shr (nI 122) r1, y1) := (pm_ev_b d 299 400 (fun pc => false) _ h).trans rfl
set_option maxRecDepth 100000 in
theorem e_J0_coder_7d493_400 (d : Nat) (h : pm_Hp) : pm_ev (d + 1) 303 [.ref 400] h = some (0, h) := (pm_ev_b d 303 400 (fun pc => false) _ h).trans rfl
set_option maxRecDepth 100000 in
theorem e_J0_isLatin1_aae02_400 (d : Nat) (h : pm_Hp) : pm_ev (d + 1) 304 [.ref 400] h = some (1, h) := (pm_ev_b d 304 400 (fun pc => false) _ h).trans rfl
set_option maxRecDepth 100000 in
theorem e_J0_charAt_5068e_400 (d : Nat) (h : pm_Hp) (v1 : Int32) : pm_ev (d + 1) 300 [.ref 400, .int v1] h = pm_bd (pm_ev d 304 [.ref 400] h) fun r1 y1 => if r1 = 0 then (none) else (pm_bd (pm_ev d 305 [.ref 500, .int v1] y1) fun r2 y2 => if narrow .char (.int r2) = .int r2 then some (r2, y2) else none) := (pm_ev_b d 300 400 (fun pc => false) _ h).trans rfl
set_option maxRecDepth 100000 in
theorem e_J1_charAt_3b067_400 (d : Nat) (h : pm_Hp) (v1 : Int32) : pm_ev (d + 1) 305 [.ref 500, .int v1] h = if v1 < 0 ∨ nI 122 ≤ v1 then none else (pm_at v1 122 fun j1 => if narrow .char (.int (pm_i2c (((bytJS.getD 0 []).getD j1 0) &&& (nI 255)))) = .int (pm_i2c (((bytJS.getD 0 []).getD j1 0) &&& (nI 255))) then some (pm_i2c (((bytJS.getD 0 []).getD j1 0) &&& (nI 255)), h) else none) := (pm_ev_b d 305 400 (fun pc => false) _ h).trans rfl
set_option maxRecDepth 100000 in
theorem e_J0_length_8abf5_401 (d : Nat) (h : pm_Hp) : pm_ev (d + 1) 299 [.ref 401] h = pm_bd (pm_ev d 303 [.ref 401] h) fun r1 y1 => some (pm_shr (nI 10) r1, y1) := (pm_ev_b d 299 400 (fun pc => false) _ h).trans rfl
set_option maxRecDepth 100000 in
theorem e_J0_coder_7d493_401 (d : Nat) (h : pm_Hp) : pm_ev (d + 1) 303 [.ref 401] h = some (0, h) := (pm_ev_b d 303 400 (fun pc => false) _ h).trans rfl
set_option maxRecDepth 100000 in
theorem e_J0_isLatin1_aae02_401 (d : Nat) (h : pm_Hp) : pm_ev (d + 1) 304 [.ref 401] h = some (1, h) := (pm_ev_b d 304 400 (fun pc => false) _ h).trans rfl
set_option maxRecDepth 100000 in
theorem e_J0_charAt_5068e_401 (d : Nat) (h : pm_Hp) (v1 : Int32) : pm_ev (d + 1) 300 [.ref 401, .int v1] h = pm_bd (pm_ev d 304 [.ref 401] h) fun r1 y1 => if r1 = 0 then (none) else (pm_bd (pm_ev d 305 [.ref 501, .int v1] y1) fun r2 y2 => if narrow .char (.int r2) = .int r2 then some (r2, y2) else none) := (pm_ev_b d 300 400 (fun pc => false) _ h).trans rfl
set_option maxRecDepth 100000 in
theorem e_J1_charAt_3b067_401 (d : Nat) (h : pm_Hp) (v1 : Int32) : pm_ev (d + 1) 305 [.ref 501, .int v1] h = if v1 < 0 ∨ nI 10 ≤ v1 then none else (pm_at v1 10 fun j1 => if narrow .char (.int (pm_i2c (((bytJS.getD 1 []).getD j1 0) &&& (nI 255)))) = .int (pm_i2c (((bytJS.getD 1 []).getD j1 0) &&& (nI 255))) then some (pm_i2c (((bytJS.getD 1 []).getD j1 0) &&& (nI 255)), h) else none) := (pm_ev_b d 305 400 (fun pc => false) _ h).trans rfl
set_option maxRecDepth 100000 in
theorem e_J0_length_8abf5_402 (d : Nat) (h : pm_Hp) : pm_ev (d + 1) 299 [.ref 402] h = pm_bd (pm_ev d 303 [.ref 402] h) fun r1 y1 => some (pm_shr (nI 5) r1, y1) := (pm_ev_b d 299 400 (fun pc => false) _ h).trans rfl
set_option maxRecDepth 100000 in
theorem e_J0_coder_7d493_402 (d : Nat) (h : pm_Hp) : pm_ev (d + 1) 303 [.ref 402] h = some (0, h) := (pm_ev_b d 303 400 (fun pc => false) _ h).trans rfl
set_option maxRecDepth 100000 in
theorem e_J0_isLatin1_aae02_402 (d : Nat) (h : pm_Hp) : pm_ev (d + 1) 304 [.ref 402] h = some (1, h) := (pm_ev_b d 304 400 (fun pc => false) _ h).trans rfl
set_option maxRecDepth 100000 in
theorem e_J0_charAt_5068e_402 (d : Nat) (h : pm_Hp) (v1 : Int32) : pm_ev (d + 1) 300 [.ref 402, .int v1] h = pm_bd (pm_ev d 304 [.ref 402] h) fun r1 y1 => if r1 = 0 then (none) else (pm_bd (pm_ev d 305 [.ref 502, .int v1] y1) fun r2 y2 => if narrow .char (.int r2) = .int r2 then some (r2, y2) else none) := (pm_ev_b d 300 400 (fun pc => false) _ h).trans rfl
set_option maxRecDepth 100000 in
theorem e_J1_charAt_3b067_402 (d : Nat) (h : pm_Hp) (v1 : Int32) : pm_ev (d + 1) 305 [.ref 502, .int v1] h = if v1 < 0 ∨ nI 5 ≤ v1 then none else (pm_at v1 5 fun j1 => if narrow .char (.int (pm_i2c (((bytJS.getD 2 []).getD j1 0) &&& (nI 255)))) = .int (pm_i2c (((bytJS.getD 2 []).getD j1 0) &&& (nI 255))) then some (pm_i2c (((bytJS.getD 2 []).getD j1 0) &&& (nI 255)), h) else none) := (pm_ev_b d 305 400 (fun pc => false) _ h).trans rfl
set_option maxRecDepth 100000 in
theorem e_J0_length_8abf5_403 (d : Nat) (h : pm_Hp) : pm_ev (d + 1) 299 [.ref 403] h = pm_bd (pm_ev d 303 [.ref 403] h) fun r1 y1 => some (pm_shr (nI 4) r1, y1) := (pm_ev_b d 299 400 (fun pc => false) _ h).trans rfl
set_option maxRecDepth 100000 in
theorem e_J0_coder_7d493_403 (d : Nat) (h : pm_Hp) : pm_ev (d + 1) 303 [.ref 403] h = some (0, h) := (pm_ev_b d 303 400 (fun pc => false) _ h).trans rfl
set_option maxRecDepth 100000 in
theorem e_J0_isLatin1_aae02_403 (d : Nat) (h : pm_Hp) : pm_ev (d + 1) 304 [.ref 403] h = some (1, h) := (pm_ev_b d 304 400 (fun pc => false) _ h).trans rfl
set_option maxRecDepth 100000 in
theorem e_J0_charAt_5068e_403 (d : Nat) (h : pm_Hp) (v1 : Int32) : pm_ev (d + 1) 300 [.ref 403, .int v1] h = pm_bd (pm_ev d 304 [.ref 403] h) fun r1 y1 => if r1 = 0 then (none) else (pm_bd (pm_ev d 305 [.ref 503, .int v1] y1) fun r2 y2 => if narrow .char (.int r2) = .int r2 then some (r2, y2) else none) := (pm_ev_b d 300 400 (fun pc => false) _ h).trans rfl
set_option maxRecDepth 100000 in
theorem e_J1_charAt_3b067_403 (d : Nat) (h : pm_Hp) (v1 : Int32) : pm_ev (d + 1) 305 [.ref 503, .int v1] h = if v1 < 0 ∨ nI 4 ≤ v1 then none else (pm_at v1 4 fun j1 => if narrow .char (.int (pm_i2c (((bytJS.getD 3 []).getD j1 0) &&& (nI 255)))) = .int (pm_i2c (((bytJS.getD 3 []).getD j1 0) &&& (nI 255))) then some (pm_i2c (((bytJS.getD 3 []).getD j1 0) &&& (nI 255)), h) else none) := (pm_ev_b d 305 400 (fun pc => false) _ h).trans rfl
set_option maxRecDepth 100000 in
theorem e_J0_length_8abf5_404 (d : Nat) (h : pm_Hp) : pm_ev (d + 1) 299 [.ref 404] h = pm_bd (pm_ev d 303 [.ref 404] h) fun r1 y1 => some (pm_shr (nI 5) r1, y1) := (pm_ev_b d 299 400 (fun pc => false) _ h).trans rfl
set_option maxRecDepth 100000 in
theorem e_J0_coder_7d493_404 (d : Nat) (h : pm_Hp) : pm_ev (d + 1) 303 [.ref 404] h = some (0, h) := (pm_ev_b d 303 400 (fun pc => false) _ h).trans rfl
set_option maxRecDepth 100000 in
theorem e_J0_isLatin1_aae02_404 (d : Nat) (h : pm_Hp) : pm_ev (d + 1) 304 [.ref 404] h = some (1, h) := (pm_ev_b d 304 400 (fun pc => false) _ h).trans rfl
set_option maxRecDepth 100000 in
theorem e_J0_charAt_5068e_404 (d : Nat) (h : pm_Hp) (v1 : Int32) : pm_ev (d + 1) 300 [.ref 404, .int v1] h = pm_bd (pm_ev d 304 [.ref 404] h) fun r1 y1 => if r1 = 0 then (none) else (pm_bd (pm_ev d 305 [.ref 504, .int v1] y1) fun r2 y2 => if narrow .char (.int r2) = .int r2 then some (r2, y2) else none) := (pm_ev_b d 300 400 (fun pc => false) _ h).trans rfl
set_option maxRecDepth 100000 in
theorem e_J1_charAt_3b067_404 (d : Nat) (h : pm_Hp) (v1 : Int32) : pm_ev (d + 1) 305 [.ref 504, .int v1] h = if v1 < 0 ∨ nI 5 ≤ v1 then none else (pm_at v1 5 fun j1 => if narrow .char (.int (pm_i2c (((bytJS.getD 4 []).getD j1 0) &&& (nI 255)))) = .int (pm_i2c (((bytJS.getD 4 []).getD j1 0) &&& (nI 255))) then some (pm_i2c (((bytJS.getD 4 []).getD j1 0) &&& (nI 255)), h) else none) := (pm_ev_b d 305 400 (fun pc => false) _ h).trans rfl
set_option maxRecDepth 100000 in
theorem e_J0_length_8abf5_405 (d : Nat) (h : pm_Hp) : pm_ev (d + 1) 299 [.ref 405] h = pm_bd (pm_ev d 303 [.ref 405] h) fun r1 y1 => some (pm_shr (nI 4) r1, y1) := (pm_ev_b d 299 400 (fun pc => false) _ h).trans rfl
set_option maxRecDepth 100000 in
theorem e_J0_coder_7d493_405 (d : Nat) (h : pm_Hp) : pm_ev (d + 1) 303 [.ref 405] h = some (0, h) := (pm_ev_b d 303 400 (fun pc => false) _ h).trans rfl
set_option maxRecDepth 100000 in
theorem e_J0_isLatin1_aae02_405 (d : Nat) (h : pm_Hp) : pm_ev (d + 1) 304 [.ref 405] h = some (1, h) := (pm_ev_b d 304 400 (fun pc => false) _ h).trans rfl
set_option maxRecDepth 100000 in
theorem e_J0_charAt_5068e_405 (d : Nat) (h : pm_Hp) (v1 : Int32) : pm_ev (d + 1) 300 [.ref 405, .int v1] h = pm_bd (pm_ev d 304 [.ref 405] h) fun r1 y1 => if r1 = 0 then (none) else (pm_bd (pm_ev d 305 [.ref 505, .int v1] y1) fun r2 y2 => if narrow .char (.int r2) = .int r2 then some (r2, y2) else none) := (pm_ev_b d 300 400 (fun pc => false) _ h).trans rfl
set_option maxRecDepth 100000 in
theorem e_J1_charAt_3b067_405 (d : Nat) (h : pm_Hp) (v1 : Int32) : pm_ev (d + 1) 305 [.ref 505, .int v1] h = if v1 < 0 ∨ nI 4 ≤ v1 then none else (pm_at v1 4 fun j1 => if narrow .char (.int (pm_i2c (((bytJS.getD 5 []).getD j1 0) &&& (nI 255)))) = .int (pm_i2c (((bytJS.getD 5 []).getD j1 0) &&& (nI 255))) then some (pm_i2c (((bytJS.getD 5 []).getD j1 0) &&& (nI 255)), h) else none) := (pm_ev_b d 305 400 (fun pc => false) _ h).trans rfl
set_option maxRecDepth 100000 in
theorem e_J0_length_8abf5_406 (d : Nat) (h : pm_Hp) : pm_ev (d + 1) 299 [.ref 406] h = pm_bd (pm_ev d 303 [.ref 406] h) fun r1 y1 => some (pm_shr (nI 7) r1, y1) := (pm_ev_b d 299 400 (fun pc => false) _ h).trans rfl
set_option maxRecDepth 100000 in
theorem e_J0_coder_7d493_406 (d : Nat) (h : pm_Hp) : pm_ev (d + 1) 303 [.ref 406] h = some (0, h) := (pm_ev_b d 303 400 (fun pc => false) _ h).trans rfl
set_option maxRecDepth 100000 in
theorem e_J0_isLatin1_aae02_406 (d : Nat) (h : pm_Hp) : pm_ev (d + 1) 304 [.ref 406] h = some (1, h) := (pm_ev_b d 304 400 (fun pc => false) _ h).trans rfl
set_option maxRecDepth 100000 in
theorem e_J0_charAt_5068e_406 (d : Nat) (h : pm_Hp) (v1 : Int32) : pm_ev (d + 1) 300 [.ref 406, .int v1] h = pm_bd (pm_ev d 304 [.ref 406] h) fun r1 y1 => if r1 = 0 then (none) else (pm_bd (pm_ev d 305 [.ref 506, .int v1] y1) fun r2 y2 => if narrow .char (.int r2) = .int r2 then some (r2, y2) else none) := (pm_ev_b d 300 400 (fun pc => false) _ h).trans rfl
set_option maxRecDepth 100000 in
theorem e_J1_charAt_3b067_406 (d : Nat) (h : pm_Hp) (v1 : Int32) : pm_ev (d + 1) 305 [.ref 506, .int v1] h = if v1 < 0 ∨ nI 7 ≤ v1 then none else (pm_at v1 7 fun j1 => if narrow .char (.int (pm_i2c (((bytJS.getD 6 []).getD j1 0) &&& (nI 255)))) = .int (pm_i2c (((bytJS.getD 6 []).getD j1 0) &&& (nI 255))) then some (pm_i2c (((bytJS.getD 6 []).getD j1 0) &&& (nI 255)), h) else none) := (pm_ev_b d 305 400 (fun pc => false) _ h).trans rfl
set_option maxRecDepth 100000 in
theorem e_J0_length_8abf5_407 (d : Nat) (h : pm_Hp) : pm_ev (d + 1) 299 [.ref 407] h = pm_bd (pm_ev d 303 [.ref 407] h) fun r1 y1 => some (pm_shr (nI 4) r1, y1) := (pm_ev_b d 299 400 (fun pc => false) _ h).trans rfl
set_option maxRecDepth 100000 in
theorem e_J0_coder_7d493_407 (d : Nat) (h : pm_Hp) : pm_ev (d + 1) 303 [.ref 407] h = some (0, h) := (pm_ev_b d 303 400 (fun pc => false) _ h).trans rfl
set_option maxRecDepth 100000 in
theorem e_J0_isLatin1_aae02_407 (d : Nat) (h : pm_Hp) : pm_ev (d + 1) 304 [.ref 407] h = some (1, h) := (pm_ev_b d 304 400 (fun pc => false) _ h).trans rfl
set_option maxRecDepth 100000 in
theorem e_J0_charAt_5068e_407 (d : Nat) (h : pm_Hp) (v1 : Int32) : pm_ev (d + 1) 300 [.ref 407, .int v1] h = pm_bd (pm_ev d 304 [.ref 407] h) fun r1 y1 => if r1 = 0 then (none) else (pm_bd (pm_ev d 305 [.ref 507, .int v1] y1) fun r2 y2 => if narrow .char (.int r2) = .int r2 then some (r2, y2) else none) := (pm_ev_b d 300 400 (fun pc => false) _ h).trans rfl
set_option maxRecDepth 100000 in
theorem e_J1_charAt_3b067_407 (d : Nat) (h : pm_Hp) (v1 : Int32) : pm_ev (d + 1) 305 [.ref 507, .int v1] h = if v1 < 0 ∨ nI 4 ≤ v1 then none else (pm_at v1 4 fun j1 => if narrow .char (.int (pm_i2c (((bytJS.getD 7 []).getD j1 0) &&& (nI 255)))) = .int (pm_i2c (((bytJS.getD 7 []).getD j1 0) &&& (nI 255))) then some (pm_i2c (((bytJS.getD 7 []).getD j1 0) &&& (nI 255)), h) else none) := (pm_ev_b d 305 400 (fun pc => false) _ h).trans rfl
set_option maxRecDepth 100000 in
theorem e_J0_length_8abf5_408 (d : Nat) (h : pm_Hp) : pm_ev (d + 1) 299 [.ref 408] h = pm_bd (pm_ev d 303 [.ref 408] h) fun r1 y1 => some (pm_shr (nI 3) r1, y1) := (pm_ev_b d 299 400 (fun pc => false) _ h).trans rfl
set_option maxRecDepth 100000 in
theorem e_J0_coder_7d493_408 (d : Nat) (h : pm_Hp) : pm_ev (d + 1) 303 [.ref 408] h = some (0, h) := (pm_ev_b d 303 400 (fun pc => false) _ h).trans rfl
set_option maxRecDepth 100000 in
theorem e_J0_isLatin1_aae02_408 (d : Nat) (h : pm_Hp) : pm_ev (d + 1) 304 [.ref 408] h = some (1, h) := (pm_ev_b d 304 400 (fun pc => false) _ h).trans rfl
set_option maxRecDepth 100000 in
theorem e_J0_charAt_5068e_408 (d : Nat) (h : pm_Hp) (v1 : Int32) : pm_ev (d + 1) 300 [.ref 408, .int v1] h = pm_bd (pm_ev d 304 [.ref 408] h) fun r1 y1 => if r1 = 0 then (none) else (pm_bd (pm_ev d 305 [.ref 508, .int v1] y1) fun r2 y2 => if narrow .char (.int r2) = .int r2 then some (r2, y2) else none) := (pm_ev_b d 300 400 (fun pc => false) _ h).trans rfl
set_option maxRecDepth 100000 in
theorem e_J1_charAt_3b067_408 (d : Nat) (h : pm_Hp) (v1 : Int32) : pm_ev (d + 1) 305 [.ref 508, .int v1] h = if v1 < 0 ∨ nI 3 ≤ v1 then none else (pm_at v1 3 fun j1 => if narrow .char (.int (pm_i2c (((bytJS.getD 8 []).getD j1 0) &&& (nI 255)))) = .int (pm_i2c (((bytJS.getD 8 []).getD j1 0) &&& (nI 255))) then some (pm_i2c (((bytJS.getD 8 []).getD j1 0) &&& (nI 255)), h) else none) := (pm_ev_b d 305 400 (fun pc => false) _ h).trans rfl
set_option maxRecDepth 100000 in
theorem e_J0_length_8abf5_409 (d : Nat) (h : pm_Hp) : pm_ev (d + 1) 299 [.ref 409] h = pm_bd (pm_ev d 303 [.ref 409] h) fun r1 y1 => some (pm_shr (nI 4) r1, y1) := (pm_ev_b d 299 400 (fun pc => false) _ h).trans rfl
set_option maxRecDepth 100000 in
theorem e_J0_coder_7d493_409 (d : Nat) (h : pm_Hp) : pm_ev (d + 1) 303 [.ref 409] h = some (0, h) := (pm_ev_b d 303 400 (fun pc => false) _ h).trans rfl
set_option maxRecDepth 100000 in
theorem e_J0_isLatin1_aae02_409 (d : Nat) (h : pm_Hp) : pm_ev (d + 1) 304 [.ref 409] h = some (1, h) := (pm_ev_b d 304 400 (fun pc => false) _ h).trans rfl
set_option maxRecDepth 100000 in
theorem e_J0_charAt_5068e_409 (d : Nat) (h : pm_Hp) (v1 : Int32) : pm_ev (d + 1) 300 [.ref 409, .int v1] h = pm_bd (pm_ev d 304 [.ref 409] h) fun r1 y1 => if r1 = 0 then (none) else (pm_bd (pm_ev d 305 [.ref 509, .int v1] y1) fun r2 y2 => if narrow .char (.int r2) = .int r2 then some (r2, y2) else none) := (pm_ev_b d 300 400 (fun pc => false) _ h).trans rfl
set_option maxRecDepth 100000 in
theorem e_J1_charAt_3b067_409 (d : Nat) (h : pm_Hp) (v1 : Int32) : pm_ev (d + 1) 305 [.ref 509, .int v1] h = if v1 < 0 ∨ nI 4 ≤ v1 then none else (pm_at v1 4 fun j1 => if narrow .char (.int (pm_i2c (((bytJS.getD 9 []).getD j1 0) &&& (nI 255)))) = .int (pm_i2c (((bytJS.getD 9 []).getD j1 0) &&& (nI 255))) then some (pm_i2c (((bytJS.getD 9 []).getD j1 0) &&& (nI 255)), h) else none) := (pm_ev_b d 305 400 (fun pc => false) _ h).trans rfl
set_option maxRecDepth 100000 in
theorem e_J0_length_8abf5_410 (d : Nat) (h : pm_Hp) : pm_ev (d + 1) 299 [.ref 410] h = pm_bd (pm_ev d 303 [.ref 410] h) fun r1 y1 => some (pm_shr (nI 2) r1, y1) := (pm_ev_b d 299 400 (fun pc => false) _ h).trans rfl
set_option maxRecDepth 100000 in
theorem e_J0_coder_7d493_410 (d : Nat) (h : pm_Hp) : pm_ev (d + 1) 303 [.ref 410] h = some (0, h) := (pm_ev_b d 303 400 (fun pc => false) _ h).trans rfl
set_option maxRecDepth 100000 in
theorem e_J0_isLatin1_aae02_410 (d : Nat) (h : pm_Hp) : pm_ev (d + 1) 304 [.ref 410] h = some (1, h) := (pm_ev_b d 304 400 (fun pc => false) _ h).trans rfl
set_option maxRecDepth 100000 in
theorem e_J0_charAt_5068e_410 (d : Nat) (h : pm_Hp) (v1 : Int32) : pm_ev (d + 1) 300 [.ref 410, .int v1] h = pm_bd (pm_ev d 304 [.ref 410] h) fun r1 y1 => if r1 = 0 then (none) else (pm_bd (pm_ev d 305 [.ref 510, .int v1] y1) fun r2 y2 => if narrow .char (.int r2) = .int r2 then some (r2, y2) else none) := (pm_ev_b d 300 400 (fun pc => false) _ h).trans rfl
set_option maxRecDepth 100000 in
theorem e_J1_charAt_3b067_410 (d : Nat) (h : pm_Hp) (v1 : Int32) : pm_ev (d + 1) 305 [.ref 510, .int v1] h = if v1 < 0 ∨ nI 2 ≤ v1 then none else (pm_at v1 2 fun j1 => if narrow .char (.int (pm_i2c (((bytJS.getD 10 []).getD j1 0) &&& (nI 255)))) = .int (pm_i2c (((bytJS.getD 10 []).getD j1 0) &&& (nI 255))) then some (pm_i2c (((bytJS.getD 10 []).getD j1 0) &&& (nI 255)), h) else none) := (pm_ev_b d 305 400 (fun pc => false) _ h).trans rfl
set_option maxRecDepth 100000 in
theorem e_J0_length_8abf5_411 (d : Nat) (h : pm_Hp) : pm_ev (d + 1) 299 [.ref 411] h = pm_bd (pm_ev d 303 [.ref 411] h) fun r1 y1 => some (pm_shr (nI 3) r1, y1) := (pm_ev_b d 299 400 (fun pc => false) _ h).trans rfl
set_option maxRecDepth 100000 in
theorem e_J0_coder_7d493_411 (d : Nat) (h : pm_Hp) : pm_ev (d + 1) 303 [.ref 411] h = some (0, h) := (pm_ev_b d 303 400 (fun pc => false) _ h).trans rfl
set_option maxRecDepth 100000 in
theorem e_J0_isLatin1_aae02_411 (d : Nat) (h : pm_Hp) : pm_ev (d + 1) 304 [.ref 411] h = some (1, h) := (pm_ev_b d 304 400 (fun pc => false) _ h).trans rfl
set_option maxRecDepth 100000 in
theorem e_J0_charAt_5068e_411 (d : Nat) (h : pm_Hp) (v1 : Int32) : pm_ev (d + 1) 300 [.ref 411, .int v1] h = pm_bd (pm_ev d 304 [.ref 411] h) fun r1 y1 => if r1 = 0 then (none) else (pm_bd (pm_ev d 305 [.ref 511, .int v1] y1) fun r2 y2 => if narrow .char (.int r2) = .int r2 then some (r2, y2) else none) := (pm_ev_b d 300 400 (fun pc => false) _ h).trans rfl
set_option maxRecDepth 100000 in
theorem e_J1_charAt_3b067_411 (d : Nat) (h : pm_Hp) (v1 : Int32) : pm_ev (d + 1) 305 [.ref 511, .int v1] h = if v1 < 0 ∨ nI 3 ≤ v1 then none else (pm_at v1 3 fun j1 => if narrow .char (.int (pm_i2c (((bytJS.getD 11 []).getD j1 0) &&& (nI 255)))) = .int (pm_i2c (((bytJS.getD 11 []).getD j1 0) &&& (nI 255))) then some (pm_i2c (((bytJS.getD 11 []).getD j1 0) &&& (nI 255)), h) else none) := (pm_ev_b d 305 400 (fun pc => false) _ h).trans rfl
set_option maxRecDepth 100000 in
theorem e_J0_length_8abf5_412 (d : Nat) (h : pm_Hp) : pm_ev (d + 1) 299 [.ref 412] h = pm_bd (pm_ev d 303 [.ref 412] h) fun r1 y1 => some (pm_shr (nI 3) r1, y1) := (pm_ev_b d 299 400 (fun pc => false) _ h).trans rfl
set_option maxRecDepth 100000 in
theorem e_J0_coder_7d493_412 (d : Nat) (h : pm_Hp) : pm_ev (d + 1) 303 [.ref 412] h = some (0, h) := (pm_ev_b d 303 400 (fun pc => false) _ h).trans rfl
set_option maxRecDepth 100000 in
theorem e_J0_isLatin1_aae02_412 (d : Nat) (h : pm_Hp) : pm_ev (d + 1) 304 [.ref 412] h = some (1, h) := (pm_ev_b d 304 400 (fun pc => false) _ h).trans rfl
set_option maxRecDepth 100000 in
theorem e_J0_charAt_5068e_412 (d : Nat) (h : pm_Hp) (v1 : Int32) : pm_ev (d + 1) 300 [.ref 412, .int v1] h = pm_bd (pm_ev d 304 [.ref 412] h) fun r1 y1 => if r1 = 0 then (none) else (pm_bd (pm_ev d 305 [.ref 512, .int v1] y1) fun r2 y2 => if narrow .char (.int r2) = .int r2 then some (r2, y2) else none) := (pm_ev_b d 300 400 (fun pc => false) _ h).trans rfl
set_option maxRecDepth 100000 in
theorem e_J1_charAt_3b067_412 (d : Nat) (h : pm_Hp) (v1 : Int32) : pm_ev (d + 1) 305 [.ref 512, .int v1] h = if v1 < 0 ∨ nI 3 ≤ v1 then none else (pm_at v1 3 fun j1 => if narrow .char (.int (pm_i2c (((bytJS.getD 12 []).getD j1 0) &&& (nI 255)))) = .int (pm_i2c (((bytJS.getD 12 []).getD j1 0) &&& (nI 255))) then some (pm_i2c (((bytJS.getD 12 []).getD j1 0) &&& (nI 255)), h) else none) := (pm_ev_b d 305 400 (fun pc => false) _ h).trans rfl
set_option maxRecDepth 100000 in
theorem e_J0_length_8abf5_413 (d : Nat) (h : pm_Hp) : pm_ev (d + 1) 299 [.ref 413] h = pm_bd (pm_ev d 303 [.ref 413] h) fun r1 y1 => some (pm_shr (nI 4) r1, y1) := (pm_ev_b d 299 400 (fun pc => false) _ h).trans rfl
set_option maxRecDepth 100000 in
theorem e_J0_coder_7d493_413 (d : Nat) (h : pm_Hp) : pm_ev (d + 1) 303 [.ref 413] h = some (0, h) := (pm_ev_b d 303 400 (fun pc => false) _ h).trans rfl
set_option maxRecDepth 100000 in
theorem e_J0_isLatin1_aae02_413 (d : Nat) (h : pm_Hp) : pm_ev (d + 1) 304 [.ref 413] h = some (1, h) := (pm_ev_b d 304 400 (fun pc => false) _ h).trans rfl
set_option maxRecDepth 100000 in
theorem e_J0_charAt_5068e_413 (d : Nat) (h : pm_Hp) (v1 : Int32) : pm_ev (d + 1) 300 [.ref 413, .int v1] h = pm_bd (pm_ev d 304 [.ref 413] h) fun r1 y1 => if r1 = 0 then (none) else (pm_bd (pm_ev d 305 [.ref 513, .int v1] y1) fun r2 y2 => if narrow .char (.int r2) = .int r2 then some (r2, y2) else none) := (pm_ev_b d 300 400 (fun pc => false) _ h).trans rfl
set_option maxRecDepth 100000 in
theorem e_J1_charAt_3b067_413 (d : Nat) (h : pm_Hp) (v1 : Int32) : pm_ev (d + 1) 305 [.ref 513, .int v1] h = if v1 < 0 ∨ nI 4 ≤ v1 then none else (pm_at v1 4 fun j1 => if narrow .char (.int (pm_i2c (((bytJS.getD 13 []).getD j1 0) &&& (nI 255)))) = .int (pm_i2c (((bytJS.getD 13 []).getD j1 0) &&& (nI 255))) then some (pm_i2c (((bytJS.getD 13 []).getD j1 0) &&& (nI 255)), h) else none) := (pm_ev_b d 305 400 (fun pc => false) _ h).trans rfl
set_option maxRecDepth 100000 in
theorem e_J0_length_8abf5_414 (d : Nat) (h : pm_Hp) : pm_ev (d + 1) 299 [.ref 414] h = pm_bd (pm_ev d 303 [.ref 414] h) fun r1 y1 => some (pm_shr (nI 4) r1, y1) := (pm_ev_b d 299 400 (fun pc => false) _ h).trans rfl
set_option maxRecDepth 100000 in
theorem e_J0_coder_7d493_414 (d : Nat) (h : pm_Hp) : pm_ev (d + 1) 303 [.ref 414] h = some (0, h) := (pm_ev_b d 303 400 (fun pc => false) _ h).trans rfl
set_option maxRecDepth 100000 in
theorem e_J0_isLatin1_aae02_414 (d : Nat) (h : pm_Hp) : pm_ev (d + 1) 304 [.ref 414] h = some (1, h) := (pm_ev_b d 304 400 (fun pc => false) _ h).trans rfl
set_option maxRecDepth 100000 in
theorem e_J0_charAt_5068e_414 (d : Nat) (h : pm_Hp) (v1 : Int32) : pm_ev (d + 1) 300 [.ref 414, .int v1] h = pm_bd (pm_ev d 304 [.ref 414] h) fun r1 y1 => if r1 = 0 then (none) else (pm_bd (pm_ev d 305 [.ref 514, .int v1] y1) fun r2 y2 => if narrow .char (.int r2) = .int r2 then some (r2, y2) else none) := (pm_ev_b d 300 400 (fun pc => false) _ h).trans rfl
set_option maxRecDepth 100000 in
theorem e_J1_charAt_3b067_414 (d : Nat) (h : pm_Hp) (v1 : Int32) : pm_ev (d + 1) 305 [.ref 514, .int v1] h = if v1 < 0 ∨ nI 4 ≤ v1 then none else (pm_at v1 4 fun j1 => if narrow .char (.int (pm_i2c (((bytJS.getD 14 []).getD j1 0) &&& (nI 255)))) = .int (pm_i2c (((bytJS.getD 14 []).getD j1 0) &&& (nI 255))) then some (pm_i2c (((bytJS.getD 14 []).getD j1 0) &&& (nI 255)), h) else none) := (pm_ev_b d 305 400 (fun pc => false) _ h).trans rfl
set_option maxRecDepth 100000 in
theorem e_J0_length_8abf5_415 (d : Nat) (h : pm_Hp) : pm_ev (d + 1) 299 [.ref 415] h = pm_bd (pm_ev d 303 [.ref 415] h) fun r1 y1 => some (pm_shr (nI 4) r1, y1) := (pm_ev_b d 299 400 (fun pc => false) _ h).trans rfl
set_option maxRecDepth 100000 in
theorem e_J0_coder_7d493_415 (d : Nat) (h : pm_Hp) : pm_ev (d + 1) 303 [.ref 415] h = some (0, h) := (pm_ev_b d 303 400 (fun pc => false) _ h).trans rfl
set_option maxRecDepth 100000 in
theorem e_J0_isLatin1_aae02_415 (d : Nat) (h : pm_Hp) : pm_ev (d + 1) 304 [.ref 415] h = some (1, h) := (pm_ev_b d 304 400 (fun pc => false) _ h).trans rfl
set_option maxRecDepth 100000 in
theorem e_J0_charAt_5068e_415 (d : Nat) (h : pm_Hp) (v1 : Int32) : pm_ev (d + 1) 300 [.ref 415, .int v1] h = pm_bd (pm_ev d 304 [.ref 415] h) fun r1 y1 => if r1 = 0 then (none) else (pm_bd (pm_ev d 305 [.ref 515, .int v1] y1) fun r2 y2 => if narrow .char (.int r2) = .int r2 then some (r2, y2) else none) := (pm_ev_b d 300 400 (fun pc => false) _ h).trans rfl
set_option maxRecDepth 100000 in
theorem e_J1_charAt_3b067_415 (d : Nat) (h : pm_Hp) (v1 : Int32) : pm_ev (d + 1) 305 [.ref 515, .int v1] h = if v1 < 0 ∨ nI 4 ≤ v1 then none else (pm_at v1 4 fun j1 => if narrow .char (.int (pm_i2c (((bytJS.getD 15 []).getD j1 0) &&& (nI 255)))) = .int (pm_i2c (((bytJS.getD 15 []).getD j1 0) &&& (nI 255))) then some (pm_i2c (((bytJS.getD 15 []).getD j1 0) &&& (nI 255)), h) else none) := (pm_ev_b d 305 400 (fun pc => false) _ h).trans rfl
set_option maxRecDepth 100000 in
theorem e_J0_length_8abf5_416 (d : Nat) (h : pm_Hp) : pm_ev (d + 1) 299 [.ref 416] h = pm_bd (pm_ev d 303 [.ref 416] h) fun r1 y1 => some (pm_shr (nI 6) r1, y1) := (pm_ev_b d 299 400 (fun pc => false) _ h).trans rfl
set_option maxRecDepth 100000 in
theorem e_J0_coder_7d493_416 (d : Nat) (h : pm_Hp) : pm_ev (d + 1) 303 [.ref 416] h = some (0, h) := (pm_ev_b d 303 400 (fun pc => false) _ h).trans rfl
set_option maxRecDepth 100000 in
theorem e_J0_isLatin1_aae02_416 (d : Nat) (h : pm_Hp) : pm_ev (d + 1) 304 [.ref 416] h = some (1, h) := (pm_ev_b d 304 400 (fun pc => false) _ h).trans rfl
set_option maxRecDepth 100000 in
theorem e_J0_charAt_5068e_416 (d : Nat) (h : pm_Hp) (v1 : Int32) : pm_ev (d + 1) 300 [.ref 416, .int v1] h = pm_bd (pm_ev d 304 [.ref 416] h) fun r1 y1 => if r1 = 0 then (none) else (pm_bd (pm_ev d 305 [.ref 516, .int v1] y1) fun r2 y2 => if narrow .char (.int r2) = .int r2 then some (r2, y2) else none) := (pm_ev_b d 300 400 (fun pc => false) _ h).trans rfl
set_option maxRecDepth 100000 in
theorem e_J1_charAt_3b067_416 (d : Nat) (h : pm_Hp) (v1 : Int32) : pm_ev (d + 1) 305 [.ref 516, .int v1] h = if v1 < 0 ∨ nI 6 ≤ v1 then none else (pm_at v1 6 fun j1 => if narrow .char (.int (pm_i2c (((bytJS.getD 16 []).getD j1 0) &&& (nI 255)))) = .int (pm_i2c (((bytJS.getD 16 []).getD j1 0) &&& (nI 255))) then some (pm_i2c (((bytJS.getD 16 []).getD j1 0) &&& (nI 255)), h) else none) := (pm_ev_b d 305 400 (fun pc => false) _ h).trans rfl
set_option maxRecDepth 100000 in
theorem e_J0_length_8abf5_417 (d : Nat) (h : pm_Hp) : pm_ev (d + 1) 299 [.ref 417] h = pm_bd (pm_ev d 303 [.ref 417] h) fun r1 y1 => some (pm_shr (nI 2) r1, y1) := (pm_ev_b d 299 400 (fun pc => false) _ h).trans rfl
set_option maxRecDepth 100000 in
theorem e_J0_coder_7d493_417 (d : Nat) (h : pm_Hp) : pm_ev (d + 1) 303 [.ref 417] h = some (0, h) := (pm_ev_b d 303 400 (fun pc => false) _ h).trans rfl
set_option maxRecDepth 100000 in
theorem e_J0_isLatin1_aae02_417 (d : Nat) (h : pm_Hp) : pm_ev (d + 1) 304 [.ref 417] h = some (1, h) := (pm_ev_b d 304 400 (fun pc => false) _ h).trans rfl
set_option maxRecDepth 100000 in
theorem e_J0_charAt_5068e_417 (d : Nat) (h : pm_Hp) (v1 : Int32) : pm_ev (d + 1) 300 [.ref 417, .int v1] h = pm_bd (pm_ev d 304 [.ref 417] h) fun r1 y1 => if r1 = 0 then (none) else (pm_bd (pm_ev d 305 [.ref 517, .int v1] y1) fun r2 y2 => if narrow .char (.int r2) = .int r2 then some (r2, y2) else none) := (pm_ev_b d 300 400 (fun pc => false) _ h).trans rfl
set_option maxRecDepth 100000 in
theorem e_J1_charAt_3b067_417 (d : Nat) (h : pm_Hp) (v1 : Int32) : pm_ev (d + 1) 305 [.ref 517, .int v1] h = if v1 < 0 ∨ nI 2 ≤ v1 then none else (pm_at v1 2 fun j1 => if narrow .char (.int (pm_i2c (((bytJS.getD 17 []).getD j1 0) &&& (nI 255)))) = .int (pm_i2c (((bytJS.getD 17 []).getD j1 0) &&& (nI 255))) then some (pm_i2c (((bytJS.getD 17 []).getD j1 0) &&& (nI 255)), h) else none) := (pm_ev_b d 305 400 (fun pc => false) _ h).trans rfl
set_option maxRecDepth 100000 in
theorem e_J0_length_8abf5_418 (d : Nat) (h : pm_Hp) : pm_ev (d + 1) 299 [.ref 418] h = pm_bd (pm_ev d 303 [.ref 418] h) fun r1 y1 => some (pm_shr (nI 3) r1, y1) := (pm_ev_b d 299 400 (fun pc => false) _ h).trans rfl
set_option maxRecDepth 100000 in
theorem e_J0_coder_7d493_418 (d : Nat) (h : pm_Hp) : pm_ev (d + 1) 303 [.ref 418] h = some (0, h) := (pm_ev_b d 303 400 (fun pc => false) _ h).trans rfl
set_option maxRecDepth 100000 in
theorem e_J0_isLatin1_aae02_418 (d : Nat) (h : pm_Hp) : pm_ev (d + 1) 304 [.ref 418] h = some (1, h) := (pm_ev_b d 304 400 (fun pc => false) _ h).trans rfl
set_option maxRecDepth 100000 in
theorem e_J0_charAt_5068e_418 (d : Nat) (h : pm_Hp) (v1 : Int32) : pm_ev (d + 1) 300 [.ref 418, .int v1] h = pm_bd (pm_ev d 304 [.ref 418] h) fun r1 y1 => if r1 = 0 then (none) else (pm_bd (pm_ev d 305 [.ref 518, .int v1] y1) fun r2 y2 => if narrow .char (.int r2) = .int r2 then some (r2, y2) else none) := (pm_ev_b d 300 400 (fun pc => false) _ h).trans rfl
set_option maxRecDepth 100000 in
theorem e_J1_charAt_3b067_418 (d : Nat) (h : pm_Hp) (v1 : Int32) : pm_ev (d + 1) 305 [.ref 518, .int v1] h = if v1 < 0 ∨ nI 3 ≤ v1 then none else (pm_at v1 3 fun j1 => if narrow .char (.int (pm_i2c (((bytJS.getD 18 []).getD j1 0) &&& (nI 255)))) = .int (pm_i2c (((bytJS.getD 18 []).getD j1 0) &&& (nI 255))) then some (pm_i2c (((bytJS.getD 18 []).getD j1 0) &&& (nI 255)), h) else none) := (pm_ev_b d 305 400 (fun pc => false) _ h).trans rfl
set_option maxRecDepth 100000 in
theorem e_J0_length_8abf5_419 (d : Nat) (h : pm_Hp) : pm_ev (d + 1) 299 [.ref 419] h = pm_bd (pm_ev d 303 [.ref 419] h) fun r1 y1 => some (pm_shr (nI 7) r1, y1) := (pm_ev_b d 299 400 (fun pc => false) _ h).trans rfl
set_option maxRecDepth 100000 in
theorem e_J0_coder_7d493_419 (d : Nat) (h : pm_Hp) : pm_ev (d + 1) 303 [.ref 419] h = some (0, h) := (pm_ev_b d 303 400 (fun pc => false) _ h).trans rfl
set_option maxRecDepth 100000 in
theorem e_J0_isLatin1_aae02_419 (d : Nat) (h : pm_Hp) : pm_ev (d + 1) 304 [.ref 419] h = some (1, h) := (pm_ev_b d 304 400 (fun pc => false) _ h).trans rfl
set_option maxRecDepth 100000 in
theorem e_J0_charAt_5068e_419 (d : Nat) (h : pm_Hp) (v1 : Int32) : pm_ev (d + 1) 300 [.ref 419, .int v1] h = pm_bd (pm_ev d 304 [.ref 419] h) fun r1 y1 => if r1 = 0 then (none) else (pm_bd (pm_ev d 305 [.ref 519, .int v1] y1) fun r2 y2 => if narrow .char (.int r2) = .int r2 then some (r2, y2) else none) := (pm_ev_b d 300 400 (fun pc => false) _ h).trans rfl
set_option maxRecDepth 100000 in
theorem e_J1_charAt_3b067_419 (d : Nat) (h : pm_Hp) (v1 : Int32) : pm_ev (d + 1) 305 [.ref 519, .int v1] h = if v1 < 0 ∨ nI 7 ≤ v1 then none else (pm_at v1 7 fun j1 => if narrow .char (.int (pm_i2c (((bytJS.getD 19 []).getD j1 0) &&& (nI 255)))) = .int (pm_i2c (((bytJS.getD 19 []).getD j1 0) &&& (nI 255))) then some (pm_i2c (((bytJS.getD 19 []).getD j1 0) &&& (nI 255)), h) else none) := (pm_ev_b d 305 400 (fun pc => false) _ h).trans rfl
set_option maxRecDepth 100000 in
theorem e_J0_length_8abf5_420 (d : Nat) (h : pm_Hp) : pm_ev (d + 1) 299 [.ref 420] h = pm_bd (pm_ev d 303 [.ref 420] h) fun r1 y1 => some (pm_shr (nI 4) r1, y1) := (pm_ev_b d 299 400 (fun pc => false) _ h).trans rfl
set_option maxRecDepth 100000 in
theorem e_J0_coder_7d493_420 (d : Nat) (h : pm_Hp) : pm_ev (d + 1) 303 [.ref 420] h = some (0, h) := (pm_ev_b d 303 400 (fun pc => false) _ h).trans rfl
set_option maxRecDepth 100000 in
theorem e_J0_isLatin1_aae02_420 (d : Nat) (h : pm_Hp) : pm_ev (d + 1) 304 [.ref 420] h = some (1, h) := (pm_ev_b d 304 400 (fun pc => false) _ h).trans rfl
set_option maxRecDepth 100000 in
theorem e_J0_charAt_5068e_420 (d : Nat) (h : pm_Hp) (v1 : Int32) : pm_ev (d + 1) 300 [.ref 420, .int v1] h = pm_bd (pm_ev d 304 [.ref 420] h) fun r1 y1 => if r1 = 0 then (none) else (pm_bd (pm_ev d 305 [.ref 520, .int v1] y1) fun r2 y2 => if narrow .char (.int r2) = .int r2 then some (r2, y2) else none) := (pm_ev_b d 300 400 (fun pc => false) _ h).trans rfl
set_option maxRecDepth 100000 in
theorem e_J1_charAt_3b067_420 (d : Nat) (h : pm_Hp) (v1 : Int32) : pm_ev (d + 1) 305 [.ref 520, .int v1] h = if v1 < 0 ∨ nI 4 ≤ v1 then none else (pm_at v1 4 fun j1 => if narrow .char (.int (pm_i2c (((bytJS.getD 20 []).getD j1 0) &&& (nI 255)))) = .int (pm_i2c (((bytJS.getD 20 []).getD j1 0) &&& (nI 255))) then some (pm_i2c (((bytJS.getD 20 []).getD j1 0) &&& (nI 255)), h) else none) := (pm_ev_b d 305 400 (fun pc => false) _ h).trans rfl
set_option maxRecDepth 100000 in
theorem e_J0_length_8abf5_421 (d : Nat) (h : pm_Hp) : pm_ev (d + 1) 299 [.ref 421] h = pm_bd (pm_ev d 303 [.ref 421] h) fun r1 y1 => some (pm_shr (nI 4) r1, y1) := (pm_ev_b d 299 400 (fun pc => false) _ h).trans rfl
set_option maxRecDepth 100000 in
theorem e_J0_coder_7d493_421 (d : Nat) (h : pm_Hp) : pm_ev (d + 1) 303 [.ref 421] h = some (0, h) := (pm_ev_b d 303 400 (fun pc => false) _ h).trans rfl
set_option maxRecDepth 100000 in
theorem e_J0_isLatin1_aae02_421 (d : Nat) (h : pm_Hp) : pm_ev (d + 1) 304 [.ref 421] h = some (1, h) := (pm_ev_b d 304 400 (fun pc => false) _ h).trans rfl
set_option maxRecDepth 100000 in
theorem e_J0_charAt_5068e_421 (d : Nat) (h : pm_Hp) (v1 : Int32) : pm_ev (d + 1) 300 [.ref 421, .int v1] h = pm_bd (pm_ev d 304 [.ref 421] h) fun r1 y1 => if r1 = 0 then (none) else (pm_bd (pm_ev d 305 [.ref 521, .int v1] y1) fun r2 y2 => if narrow .char (.int r2) = .int r2 then some (r2, y2) else none) := (pm_ev_b d 300 400 (fun pc => false) _ h).trans rfl
set_option maxRecDepth 100000 in
theorem e_J1_charAt_3b067_421 (d : Nat) (h : pm_Hp) (v1 : Int32) : pm_ev (d + 1) 305 [.ref 521, .int v1] h = if v1 < 0 ∨ nI 4 ≤ v1 then none else (pm_at v1 4 fun j1 => if narrow .char (.int (pm_i2c (((bytJS.getD 21 []).getD j1 0) &&& (nI 255)))) = .int (pm_i2c (((bytJS.getD 21 []).getD j1 0) &&& (nI 255))) then some (pm_i2c (((bytJS.getD 21 []).getD j1 0) &&& (nI 255)), h) else none) := (pm_ev_b d 305 400 (fun pc => false) _ h).trans rfl
set_option maxRecDepth 100000 in
theorem e_J0_length_8abf5_422 (d : Nat) (h : pm_Hp) : pm_ev (d + 1) 299 [.ref 422] h = pm_bd (pm_ev d 303 [.ref 422] h) fun r1 y1 => some (pm_shr (nI 4) r1, y1) := (pm_ev_b d 299 400 (fun pc => false) _ h).trans rfl
set_option maxRecDepth 100000 in
theorem e_J0_coder_7d493_422 (d : Nat) (h : pm_Hp) : pm_ev (d + 1) 303 [.ref 422] h = some (0, h) := (pm_ev_b d 303 400 (fun pc => false) _ h).trans rfl
set_option maxRecDepth 100000 in
theorem e_J0_isLatin1_aae02_422 (d : Nat) (h : pm_Hp) : pm_ev (d + 1) 304 [.ref 422] h = some (1, h) := (pm_ev_b d 304 400 (fun pc => false) _ h).trans rfl
set_option maxRecDepth 100000 in
theorem e_J0_charAt_5068e_422 (d : Nat) (h : pm_Hp) (v1 : Int32) : pm_ev (d + 1) 300 [.ref 422, .int v1] h = pm_bd (pm_ev d 304 [.ref 422] h) fun r1 y1 => if r1 = 0 then (none) else (pm_bd (pm_ev d 305 [.ref 522, .int v1] y1) fun r2 y2 => if narrow .char (.int r2) = .int r2 then some (r2, y2) else none) := (pm_ev_b d 300 400 (fun pc => false) _ h).trans rfl
set_option maxRecDepth 100000 in
theorem e_J1_charAt_3b067_422 (d : Nat) (h : pm_Hp) (v1 : Int32) : pm_ev (d + 1) 305 [.ref 522, .int v1] h = if v1 < 0 ∨ nI 4 ≤ v1 then none else (pm_at v1 4 fun j1 => if narrow .char (.int (pm_i2c (((bytJS.getD 22 []).getD j1 0) &&& (nI 255)))) = .int (pm_i2c (((bytJS.getD 22 []).getD j1 0) &&& (nI 255))) then some (pm_i2c (((bytJS.getD 22 []).getD j1 0) &&& (nI 255)), h) else none) := (pm_ev_b d 305 400 (fun pc => false) _ h).trans rfl
set_option maxRecDepth 100000 in
theorem e_J0_length_8abf5_423 (d : Nat) (h : pm_Hp) : pm_ev (d + 1) 299 [.ref 423] h = pm_bd (pm_ev d 303 [.ref 423] h) fun r1 y1 => some (pm_shr (nI 4) r1, y1) := (pm_ev_b d 299 400 (fun pc => false) _ h).trans rfl
set_option maxRecDepth 100000 in
theorem e_J0_coder_7d493_423 (d : Nat) (h : pm_Hp) : pm_ev (d + 1) 303 [.ref 423] h = some (0, h) := (pm_ev_b d 303 400 (fun pc => false) _ h).trans rfl
set_option maxRecDepth 100000 in
theorem e_J0_isLatin1_aae02_423 (d : Nat) (h : pm_Hp) : pm_ev (d + 1) 304 [.ref 423] h = some (1, h) := (pm_ev_b d 304 400 (fun pc => false) _ h).trans rfl
set_option maxRecDepth 100000 in
theorem e_J0_charAt_5068e_423 (d : Nat) (h : pm_Hp) (v1 : Int32) : pm_ev (d + 1) 300 [.ref 423, .int v1] h = pm_bd (pm_ev d 304 [.ref 423] h) fun r1 y1 => if r1 = 0 then (none) else (pm_bd (pm_ev d 305 [.ref 523, .int v1] y1) fun r2 y2 => if narrow .char (.int r2) = .int r2 then some (r2, y2) else none) := (pm_ev_b d 300 400 (fun pc => false) _ h).trans rfl
set_option maxRecDepth 100000 in
theorem e_J1_charAt_3b067_423 (d : Nat) (h : pm_Hp) (v1 : Int32) : pm_ev (d + 1) 305 [.ref 523, .int v1] h = if v1 < 0 ∨ nI 4 ≤ v1 then none else (pm_at v1 4 fun j1 => if narrow .char (.int (pm_i2c (((bytJS.getD 23 []).getD j1 0) &&& (nI 255)))) = .int (pm_i2c (((bytJS.getD 23 []).getD j1 0) &&& (nI 255))) then some (pm_i2c (((bytJS.getD 23 []).getD j1 0) &&& (nI 255)), h) else none) := (pm_ev_b d 305 400 (fun pc => false) _ h).trans rfl
set_option maxRecDepth 100000 in
theorem e_J0_length_8abf5_424 (d : Nat) (h : pm_Hp) : pm_ev (d + 1) 299 [.ref 424] h = pm_bd (pm_ev d 303 [.ref 424] h) fun r1 y1 => some (pm_shr (nI 4) r1, y1) := (pm_ev_b d 299 400 (fun pc => false) _ h).trans rfl
set_option maxRecDepth 100000 in
theorem e_J0_coder_7d493_424 (d : Nat) (h : pm_Hp) : pm_ev (d + 1) 303 [.ref 424] h = some (0, h) := (pm_ev_b d 303 400 (fun pc => false) _ h).trans rfl
set_option maxRecDepth 100000 in
theorem e_J0_isLatin1_aae02_424 (d : Nat) (h : pm_Hp) : pm_ev (d + 1) 304 [.ref 424] h = some (1, h) := (pm_ev_b d 304 400 (fun pc => false) _ h).trans rfl
set_option maxRecDepth 100000 in
theorem e_J0_charAt_5068e_424 (d : Nat) (h : pm_Hp) (v1 : Int32) : pm_ev (d + 1) 300 [.ref 424, .int v1] h = pm_bd (pm_ev d 304 [.ref 424] h) fun r1 y1 => if r1 = 0 then (none) else (pm_bd (pm_ev d 305 [.ref 524, .int v1] y1) fun r2 y2 => if narrow .char (.int r2) = .int r2 then some (r2, y2) else none) := (pm_ev_b d 300 400 (fun pc => false) _ h).trans rfl
set_option maxRecDepth 100000 in
theorem e_J1_charAt_3b067_424 (d : Nat) (h : pm_Hp) (v1 : Int32) : pm_ev (d + 1) 305 [.ref 524, .int v1] h = if v1 < 0 ∨ nI 4 ≤ v1 then none else (pm_at v1 4 fun j1 => if narrow .char (.int (pm_i2c (((bytJS.getD 24 []).getD j1 0) &&& (nI 255)))) = .int (pm_i2c (((bytJS.getD 24 []).getD j1 0) &&& (nI 255))) then some (pm_i2c (((bytJS.getD 24 []).getD j1 0) &&& (nI 255)), h) else none) := (pm_ev_b d 305 400 (fun pc => false) _ h).trans rfl
set_option maxRecDepth 100000 in
theorem e_J0_length_8abf5_425 (d : Nat) (h : pm_Hp) : pm_ev (d + 1) 299 [.ref 425] h = pm_bd (pm_ev d 303 [.ref 425] h) fun r1 y1 => some (pm_shr (nI 4) r1, y1) := (pm_ev_b d 299 400 (fun pc => false) _ h).trans rfl
set_option maxRecDepth 100000 in
theorem e_J0_coder_7d493_425 (d : Nat) (h : pm_Hp) : pm_ev (d + 1) 303 [.ref 425] h = some (0, h) := (pm_ev_b d 303 400 (fun pc => false) _ h).trans rfl
set_option maxRecDepth 100000 in
theorem e_J0_isLatin1_aae02_425 (d : Nat) (h : pm_Hp) : pm_ev (d + 1) 304 [.ref 425] h = some (1, h) := (pm_ev_b d 304 400 (fun pc => false) _ h).trans rfl
set_option maxRecDepth 100000 in
theorem e_J0_charAt_5068e_425 (d : Nat) (h : pm_Hp) (v1 : Int32) : pm_ev (d + 1) 300 [.ref 425, .int v1] h = pm_bd (pm_ev d 304 [.ref 425] h) fun r1 y1 => if r1 = 0 then (none) else (pm_bd (pm_ev d 305 [.ref 525, .int v1] y1) fun r2 y2 => if narrow .char (.int r2) = .int r2 then some (r2, y2) else none) := (pm_ev_b d 300 400 (fun pc => false) _ h).trans rfl
set_option maxRecDepth 100000 in
theorem e_J1_charAt_3b067_425 (d : Nat) (h : pm_Hp) (v1 : Int32) : pm_ev (d + 1) 305 [.ref 525, .int v1] h = if v1 < 0 ∨ nI 4 ≤ v1 then none else (pm_at v1 4 fun j1 => if narrow .char (.int (pm_i2c (((bytJS.getD 25 []).getD j1 0) &&& (nI 255)))) = .int (pm_i2c (((bytJS.getD 25 []).getD j1 0) &&& (nI 255))) then some (pm_i2c (((bytJS.getD 25 []).getD j1 0) &&& (nI 255)), h) else none) := (pm_ev_b d 305 400 (fun pc => false) _ h).trans rfl
set_option maxRecDepth 100000 in
theorem e_J0_indexOf_0f7a4 (d : Nat) (h : pm_Hp) (v1 : Int32) : pm_ev (d + 1) 301 [.ref 401, .int v1] h = pm_bd (pm_ev d 302 [.ref 401, .int v1, .int 0] h) fun r1 y1 => some (r1, y1) := (pm_ev_b d 301 400 (fun pc => false) _ h).trans rfl
set_option maxRecDepth 100000 in
theorem e_J0_indexOf_7cf53 (d : Nat) (h : pm_Hp) (v1 v2 : Int32) : pm_ev (d + 1) 302 [.ref 401, .int v1, .int v2] h = pm_bd (pm_ev d 304 [.ref 401] h) fun r1 y1 => if r1 = 0 then (pm_bd (pm_ev d 299 [.ref 401] y1) fun r2 y2 => none) else (pm_bd (pm_ev d 299 [.ref 401] y1) fun r3 y3 => pm_bd (pm_ev d 307 [.ref 501, .int v1, .int v2, .int r3] y3) fun r4 y4 => some (r4, y4)) := (pm_ev_b d 302 400 (fun pc => false) _ h).trans rfl
set_option maxRecDepth 100000 in
theorem e_J1_indexOf_4cfef (d : Nat) (h : pm_Hp) (v1 v2 v3 : Int32) : pm_ev (d + 1) 307 [.ref 501, .int v1, .int v2, .int v3] h = pm_bd (pm_ev d 306 [.int v1] h) fun r1 y1 => if r1 = 0 then (some ((-1), y1)) else (pm_bd (pm_ev d 297 [.int v2, .int 0] y1) fun r2 y2 => pm_bd (pm_ev d 298 [.int v3, .int (nI 10)] y2) fun r3 y3 => if r2 < r3 then (pm_bd (pm_ev d 308 [.ref 501, .int v1, .int r2, .int r3] y3) fun r4 y4 => some (r4, y4)) else (some ((-1), y3))) := (pm_ev_b d 307 400 (fun pc => false) _ h).trans rfl
set_option maxRecDepth 100000 in
theorem e_J1_indexOfChar_4cfef (d : Nat) (h : pm_Hp) (v1 v2 v3 : Int32) : pm_ev (d + 1) 308 [.ref 501, .int v1, .int v2, .int v3] h = pm_rn d kJ1_indexOfChar_4cfef 7 [.ref 501, .int v1, .int v2, .int v3, .int v1.toInt8.toInt32, .int v2] [] h := (pm_ev_b d 308 400 (fun pc => Nat.beq pc 7) _ h).trans rfl
set_option maxRecDepth 100000 in
theorem b_J1_indexOfChar_4cfef_7 (d : Nat) (h : pm_Hp) (v3 v4 v5 : Int32) (u1 u2 : Value) : pm_rn d kJ1_indexOfChar_4cfef 7 [.ref 501, u1, u2, .int v3, .int v4, .int v5] [] h = if v5 < v3 then (pm_at v5 10 fun j1 => if (bytJS.getD 1 []).getD j1 0 = v4 then (some (v5, h)) else (pm_rn d kJ1_indexOfChar_4cfef 7 [.ref 501, u1, u2, .int v3, .int v4, .int (v5 + 1)] [] h)) else (some ((-1), h)) := (pm_rn_b d _ (fun pc => Nat.beq pc 7) 400 _ _ _ h).trans rfl
set_option maxRecDepth 100000 in
theorem e_X10_is_402 (d : Nat) (h : pm_Hp) : pm_ev (d + 1) 181 [.ref 169, .ref 402] h = pm_bd (pm_ev d 299 [.ref 402] h) fun r1 y1 => if (h 169 19) - (h 169 21) = r1 then (pm_rn d kX10_is 24 [.ref 169, .ref 402, .int 1, .int 0] [] y1) else (pm_rn d kX10_is 24 [.ref 169, .ref 402, .int 0, .int 0] [] y1) := (pm_ev_b d 181 400 (fun pc => Nat.beq pc 24) _ h).trans rfl
set_option maxRecDepth 100000 in
theorem b_X10_is_402_24 (d : Nat) (h : pm_Hp) (v2 v3 : Int32) : pm_rn d kX10_is 24 [.ref 169, .ref 402, .int v2, .int v3] [] h = pm_bd (pm_ev d 299 [.ref 402] h) fun r1 y1 => if v3 < r1 then (if v2 = 0 then (pm_bw v2 (some (v2, y1))) else (pm_at ((y1 169 21) + v3) 400 fun j1 => pm_bd (pm_ev d 300 [.ref 402, .int v3] y1) fun r2 y2 => if y1 177 j1 = r2 then (pm_rn d kX10_is 24 [.ref 169, .ref 402, .int 1, .int (v3 + 1)] [] y2) else (pm_rn d kX10_is 24 [.ref 169, .ref 402, .int 0, .int (v3 + 1)] [] y2))) else (pm_bw v2 (some (v2, y1))) := (pm_rn_b d _ (fun pc => Nat.beq pc 24) 400 _ _ _ h).trans rfl
set_option maxRecDepth 100000 in
theorem e_X10_is_403 (d : Nat) (h : pm_Hp) : pm_ev (d + 1) 181 [.ref 169, .ref 403] h = pm_bd (pm_ev d 299 [.ref 403] h) fun r1 y1 => if (h 169 19) - (h 169 21) = r1 then (pm_rn d kX10_is 24 [.ref 169, .ref 403, .int 1, .int 0] [] y1) else (pm_rn d kX10_is 24 [.ref 169, .ref 403, .int 0, .int 0] [] y1) := (pm_ev_b d 181 400 (fun pc => Nat.beq pc 24) _ h).trans rfl
set_option maxRecDepth 100000 in
theorem b_X10_is_403_24 (d : Nat) (h : pm_Hp) (v2 v3 : Int32) : pm_rn d kX10_is 24 [.ref 169, .ref 403, .int v2, .int v3] [] h = pm_bd (pm_ev d 299 [.ref 403] h) fun r1 y1 => if v3 < r1 then (if v2 = 0 then (pm_bw v2 (some (v2, y1))) else (pm_at ((y1 169 21) + v3) 400 fun j1 => pm_bd (pm_ev d 300 [.ref 403, .int v3] y1) fun r2 y2 => if y1 177 j1 = r2 then (pm_rn d kX10_is 24 [.ref 169, .ref 403, .int 1, .int (v3 + 1)] [] y2) else (pm_rn d kX10_is 24 [.ref 169, .ref 403, .int 0, .int (v3 + 1)] [] y2))) else (pm_bw v2 (some (v2, y1))) := (pm_rn_b d _ (fun pc => Nat.beq pc 24) 400 _ _ _ h).trans rfl
set_option maxRecDepth 100000 in
theorem e_X10_is_404 (d : Nat) (h : pm_Hp) : pm_ev (d + 1) 181 [.ref 169, .ref 404] h = pm_bd (pm_ev d 299 [.ref 404] h) fun r1 y1 => if (h 169 19) - (h 169 21) = r1 then (pm_rn d kX10_is 24 [.ref 169, .ref 404, .int 1, .int 0] [] y1) else (pm_rn d kX10_is 24 [.ref 169, .ref 404, .int 0, .int 0] [] y1) := (pm_ev_b d 181 400 (fun pc => Nat.beq pc 24) _ h).trans rfl
set_option maxRecDepth 100000 in
theorem b_X10_is_404_24 (d : Nat) (h : pm_Hp) (v2 v3 : Int32) : pm_rn d kX10_is 24 [.ref 169, .ref 404, .int v2, .int v3] [] h = pm_bd (pm_ev d 299 [.ref 404] h) fun r1 y1 => if v3 < r1 then (if v2 = 0 then (pm_bw v2 (some (v2, y1))) else (pm_at ((y1 169 21) + v3) 400 fun j1 => pm_bd (pm_ev d 300 [.ref 404, .int v3] y1) fun r2 y2 => if y1 177 j1 = r2 then (pm_rn d kX10_is 24 [.ref 169, .ref 404, .int 1, .int (v3 + 1)] [] y2) else (pm_rn d kX10_is 24 [.ref 169, .ref 404, .int 0, .int (v3 + 1)] [] y2))) else (pm_bw v2 (some (v2, y1))) := (pm_rn_b d _ (fun pc => Nat.beq pc 24) 400 _ _ _ h).trans rfl
set_option maxRecDepth 100000 in
theorem e_X10_is_405 (d : Nat) (h : pm_Hp) : pm_ev (d + 1) 181 [.ref 169, .ref 405] h = pm_bd (pm_ev d 299 [.ref 405] h) fun r1 y1 => if (h 169 19) - (h 169 21) = r1 then (pm_rn d kX10_is 24 [.ref 169, .ref 405, .int 1, .int 0] [] y1) else (pm_rn d kX10_is 24 [.ref 169, .ref 405, .int 0, .int 0] [] y1) := (pm_ev_b d 181 400 (fun pc => Nat.beq pc 24) _ h).trans rfl
set_option maxRecDepth 100000 in
theorem b_X10_is_405_24 (d : Nat) (h : pm_Hp) (v2 v3 : Int32) : pm_rn d kX10_is 24 [.ref 169, .ref 405, .int v2, .int v3] [] h = pm_bd (pm_ev d 299 [.ref 405] h) fun r1 y1 => if v3 < r1 then (if v2 = 0 then (pm_bw v2 (some (v2, y1))) else (pm_at ((y1 169 21) + v3) 400 fun j1 => pm_bd (pm_ev d 300 [.ref 405, .int v3] y1) fun r2 y2 => if y1 177 j1 = r2 then (pm_rn d kX10_is 24 [.ref 169, .ref 405, .int 1, .int (v3 + 1)] [] y2) else (pm_rn d kX10_is 24 [.ref 169, .ref 405, .int 0, .int (v3 + 1)] [] y2))) else (pm_bw v2 (some (v2, y1))) := (pm_rn_b d _ (fun pc => Nat.beq pc 24) 400 _ _ _ h).trans rfl
set_option maxRecDepth 100000 in
theorem e_X10_is_406 (d : Nat) (h : pm_Hp) : pm_ev (d + 1) 181 [.ref 169, .ref 406] h = pm_bd (pm_ev d 299 [.ref 406] h) fun r1 y1 => if (h 169 19) - (h 169 21) = r1 then (pm_rn d kX10_is 24 [.ref 169, .ref 406, .int 1, .int 0] [] y1) else (pm_rn d kX10_is 24 [.ref 169, .ref 406, .int 0, .int 0] [] y1) := (pm_ev_b d 181 400 (fun pc => Nat.beq pc 24) _ h).trans rfl
set_option maxRecDepth 100000 in
theorem b_X10_is_406_24 (d : Nat) (h : pm_Hp) (v2 v3 : Int32) : pm_rn d kX10_is 24 [.ref 169, .ref 406, .int v2, .int v3] [] h = pm_bd (pm_ev d 299 [.ref 406] h) fun r1 y1 => if v3 < r1 then (if v2 = 0 then (pm_bw v2 (some (v2, y1))) else (pm_at ((y1 169 21) + v3) 400 fun j1 => pm_bd (pm_ev d 300 [.ref 406, .int v3] y1) fun r2 y2 => if y1 177 j1 = r2 then (pm_rn d kX10_is 24 [.ref 169, .ref 406, .int 1, .int (v3 + 1)] [] y2) else (pm_rn d kX10_is 24 [.ref 169, .ref 406, .int 0, .int (v3 + 1)] [] y2))) else (pm_bw v2 (some (v2, y1))) := (pm_rn_b d _ (fun pc => Nat.beq pc 24) 400 _ _ _ h).trans rfl
set_option maxRecDepth 100000 in
theorem e_X10_is_407 (d : Nat) (h : pm_Hp) : pm_ev (d + 1) 181 [.ref 169, .ref 407] h = pm_bd (pm_ev d 299 [.ref 407] h) fun r1 y1 => if (h 169 19) - (h 169 21) = r1 then (pm_rn d kX10_is 24 [.ref 169, .ref 407, .int 1, .int 0] [] y1) else (pm_rn d kX10_is 24 [.ref 169, .ref 407, .int 0, .int 0] [] y1) := (pm_ev_b d 181 400 (fun pc => Nat.beq pc 24) _ h).trans rfl
set_option maxRecDepth 100000 in
theorem b_X10_is_407_24 (d : Nat) (h : pm_Hp) (v2 v3 : Int32) : pm_rn d kX10_is 24 [.ref 169, .ref 407, .int v2, .int v3] [] h = pm_bd (pm_ev d 299 [.ref 407] h) fun r1 y1 => if v3 < r1 then (if v2 = 0 then (pm_bw v2 (some (v2, y1))) else (pm_at ((y1 169 21) + v3) 400 fun j1 => pm_bd (pm_ev d 300 [.ref 407, .int v3] y1) fun r2 y2 => if y1 177 j1 = r2 then (pm_rn d kX10_is 24 [.ref 169, .ref 407, .int 1, .int (v3 + 1)] [] y2) else (pm_rn d kX10_is 24 [.ref 169, .ref 407, .int 0, .int (v3 + 1)] [] y2))) else (pm_bw v2 (some (v2, y1))) := (pm_rn_b d _ (fun pc => Nat.beq pc 24) 400 _ _ _ h).trans rfl
set_option maxRecDepth 100000 in
theorem e_X10_is_408 (d : Nat) (h : pm_Hp) : pm_ev (d + 1) 181 [.ref 169, .ref 408] h = pm_bd (pm_ev d 299 [.ref 408] h) fun r1 y1 => if (h 169 19) - (h 169 21) = r1 then (pm_rn d kX10_is 24 [.ref 169, .ref 408, .int 1, .int 0] [] y1) else (pm_rn d kX10_is 24 [.ref 169, .ref 408, .int 0, .int 0] [] y1) := (pm_ev_b d 181 400 (fun pc => Nat.beq pc 24) _ h).trans rfl
set_option maxRecDepth 100000 in
theorem b_X10_is_408_24 (d : Nat) (h : pm_Hp) (v2 v3 : Int32) : pm_rn d kX10_is 24 [.ref 169, .ref 408, .int v2, .int v3] [] h = pm_bd (pm_ev d 299 [.ref 408] h) fun r1 y1 => if v3 < r1 then (if v2 = 0 then (pm_bw v2 (some (v2, y1))) else (pm_at ((y1 169 21) + v3) 400 fun j1 => pm_bd (pm_ev d 300 [.ref 408, .int v3] y1) fun r2 y2 => if y1 177 j1 = r2 then (pm_rn d kX10_is 24 [.ref 169, .ref 408, .int 1, .int (v3 + 1)] [] y2) else (pm_rn d kX10_is 24 [.ref 169, .ref 408, .int 0, .int (v3 + 1)] [] y2))) else (pm_bw v2 (some (v2, y1))) := (pm_rn_b d _ (fun pc => Nat.beq pc 24) 400 _ _ _ h).trans rfl
set_option maxRecDepth 100000 in
theorem e_X10_is_409 (d : Nat) (h : pm_Hp) : pm_ev (d + 1) 181 [.ref 169, .ref 409] h = pm_bd (pm_ev d 299 [.ref 409] h) fun r1 y1 => if (h 169 19) - (h 169 21) = r1 then (pm_rn d kX10_is 24 [.ref 169, .ref 409, .int 1, .int 0] [] y1) else (pm_rn d kX10_is 24 [.ref 169, .ref 409, .int 0, .int 0] [] y1) := (pm_ev_b d 181 400 (fun pc => Nat.beq pc 24) _ h).trans rfl
set_option maxRecDepth 100000 in
theorem b_X10_is_409_24 (d : Nat) (h : pm_Hp) (v2 v3 : Int32) : pm_rn d kX10_is 24 [.ref 169, .ref 409, .int v2, .int v3] [] h = pm_bd (pm_ev d 299 [.ref 409] h) fun r1 y1 => if v3 < r1 then (if v2 = 0 then (pm_bw v2 (some (v2, y1))) else (pm_at ((y1 169 21) + v3) 400 fun j1 => pm_bd (pm_ev d 300 [.ref 409, .int v3] y1) fun r2 y2 => if y1 177 j1 = r2 then (pm_rn d kX10_is 24 [.ref 169, .ref 409, .int 1, .int (v3 + 1)] [] y2) else (pm_rn d kX10_is 24 [.ref 169, .ref 409, .int 0, .int (v3 + 1)] [] y2))) else (pm_bw v2 (some (v2, y1))) := (pm_rn_b d _ (fun pc => Nat.beq pc 24) 400 _ _ _ h).trans rfl
set_option maxRecDepth 100000 in
theorem e_X10_is_410 (d : Nat) (h : pm_Hp) : pm_ev (d + 1) 181 [.ref 169, .ref 410] h = pm_bd (pm_ev d 299 [.ref 410] h) fun r1 y1 => if (h 169 19) - (h 169 21) = r1 then (pm_rn d kX10_is 24 [.ref 169, .ref 410, .int 1, .int 0] [] y1) else (pm_rn d kX10_is 24 [.ref 169, .ref 410, .int 0, .int 0] [] y1) := (pm_ev_b d 181 400 (fun pc => Nat.beq pc 24) _ h).trans rfl
set_option maxRecDepth 100000 in
theorem b_X10_is_410_24 (d : Nat) (h : pm_Hp) (v2 v3 : Int32) : pm_rn d kX10_is 24 [.ref 169, .ref 410, .int v2, .int v3] [] h = pm_bd (pm_ev d 299 [.ref 410] h) fun r1 y1 => if v3 < r1 then (if v2 = 0 then (pm_bw v2 (some (v2, y1))) else (pm_at ((y1 169 21) + v3) 400 fun j1 => pm_bd (pm_ev d 300 [.ref 410, .int v3] y1) fun r2 y2 => if y1 177 j1 = r2 then (pm_rn d kX10_is 24 [.ref 169, .ref 410, .int 1, .int (v3 + 1)] [] y2) else (pm_rn d kX10_is 24 [.ref 169, .ref 410, .int 0, .int (v3 + 1)] [] y2))) else (pm_bw v2 (some (v2, y1))) := (pm_rn_b d _ (fun pc => Nat.beq pc 24) 400 _ _ _ h).trans rfl
set_option maxRecDepth 100000 in
theorem e_X10_is_411 (d : Nat) (h : pm_Hp) : pm_ev (d + 1) 181 [.ref 169, .ref 411] h = pm_bd (pm_ev d 299 [.ref 411] h) fun r1 y1 => if (h 169 19) - (h 169 21) = r1 then (pm_rn d kX10_is 24 [.ref 169, .ref 411, .int 1, .int 0] [] y1) else (pm_rn d kX10_is 24 [.ref 169, .ref 411, .int 0, .int 0] [] y1) := (pm_ev_b d 181 400 (fun pc => Nat.beq pc 24) _ h).trans rfl
set_option maxRecDepth 100000 in
theorem b_X10_is_411_24 (d : Nat) (h : pm_Hp) (v2 v3 : Int32) : pm_rn d kX10_is 24 [.ref 169, .ref 411, .int v2, .int v3] [] h = pm_bd (pm_ev d 299 [.ref 411] h) fun r1 y1 => if v3 < r1 then (if v2 = 0 then (pm_bw v2 (some (v2, y1))) else (pm_at ((y1 169 21) + v3) 400 fun j1 => pm_bd (pm_ev d 300 [.ref 411, .int v3] y1) fun r2 y2 => if y1 177 j1 = r2 then (pm_rn d kX10_is 24 [.ref 169, .ref 411, .int 1, .int (v3 + 1)] [] y2) else (pm_rn d kX10_is 24 [.ref 169, .ref 411, .int 0, .int (v3 + 1)] [] y2))) else (pm_bw v2 (some (v2, y1))) := (pm_rn_b d _ (fun pc => Nat.beq pc 24) 400 _ _ _ h).trans rfl
set_option maxRecDepth 100000 in
theorem e_X10_is_412 (d : Nat) (h : pm_Hp) : pm_ev (d + 1) 181 [.ref 169, .ref 412] h = pm_bd (pm_ev d 299 [.ref 412] h) fun r1 y1 => if (h 169 19) - (h 169 21) = r1 then (pm_rn d kX10_is 24 [.ref 169, .ref 412, .int 1, .int 0] [] y1) else (pm_rn d kX10_is 24 [.ref 169, .ref 412, .int 0, .int 0] [] y1) := (pm_ev_b d 181 400 (fun pc => Nat.beq pc 24) _ h).trans rfl
set_option maxRecDepth 100000 in
theorem b_X10_is_412_24 (d : Nat) (h : pm_Hp) (v2 v3 : Int32) : pm_rn d kX10_is 24 [.ref 169, .ref 412, .int v2, .int v3] [] h = pm_bd (pm_ev d 299 [.ref 412] h) fun r1 y1 => if v3 < r1 then (if v2 = 0 then (pm_bw v2 (some (v2, y1))) else (pm_at ((y1 169 21) + v3) 400 fun j1 => pm_bd (pm_ev d 300 [.ref 412, .int v3] y1) fun r2 y2 => if y1 177 j1 = r2 then (pm_rn d kX10_is 24 [.ref 169, .ref 412, .int 1, .int (v3 + 1)] [] y2) else (pm_rn d kX10_is 24 [.ref 169, .ref 412, .int 0, .int (v3 + 1)] [] y2))) else (pm_bw v2 (some (v2, y1))) := (pm_rn_b d _ (fun pc => Nat.beq pc 24) 400 _ _ _ h).trans rfl
set_option maxRecDepth 100000 in
theorem e_X10_is_413 (d : Nat) (h : pm_Hp) : pm_ev (d + 1) 181 [.ref 169, .ref 413] h = pm_bd (pm_ev d 299 [.ref 413] h) fun r1 y1 => if (h 169 19) - (h 169 21) = r1 then (pm_rn d kX10_is 24 [.ref 169, .ref 413, .int 1, .int 0] [] y1) else (pm_rn d kX10_is 24 [.ref 169, .ref 413, .int 0, .int 0] [] y1) := (pm_ev_b d 181 400 (fun pc => Nat.beq pc 24) _ h).trans rfl
set_option maxRecDepth 100000 in
theorem b_X10_is_413_24 (d : Nat) (h : pm_Hp) (v2 v3 : Int32) : pm_rn d kX10_is 24 [.ref 169, .ref 413, .int v2, .int v3] [] h = pm_bd (pm_ev d 299 [.ref 413] h) fun r1 y1 => if v3 < r1 then (if v2 = 0 then (pm_bw v2 (some (v2, y1))) else (pm_at ((y1 169 21) + v3) 400 fun j1 => pm_bd (pm_ev d 300 [.ref 413, .int v3] y1) fun r2 y2 => if y1 177 j1 = r2 then (pm_rn d kX10_is 24 [.ref 169, .ref 413, .int 1, .int (v3 + 1)] [] y2) else (pm_rn d kX10_is 24 [.ref 169, .ref 413, .int 0, .int (v3 + 1)] [] y2))) else (pm_bw v2 (some (v2, y1))) := (pm_rn_b d _ (fun pc => Nat.beq pc 24) 400 _ _ _ h).trans rfl
set_option maxRecDepth 100000 in
theorem e_X10_is_414 (d : Nat) (h : pm_Hp) : pm_ev (d + 1) 181 [.ref 169, .ref 414] h = pm_bd (pm_ev d 299 [.ref 414] h) fun r1 y1 => if (h 169 19) - (h 169 21) = r1 then (pm_rn d kX10_is 24 [.ref 169, .ref 414, .int 1, .int 0] [] y1) else (pm_rn d kX10_is 24 [.ref 169, .ref 414, .int 0, .int 0] [] y1) := (pm_ev_b d 181 400 (fun pc => Nat.beq pc 24) _ h).trans rfl
set_option maxRecDepth 100000 in
theorem b_X10_is_414_24 (d : Nat) (h : pm_Hp) (v2 v3 : Int32) : pm_rn d kX10_is 24 [.ref 169, .ref 414, .int v2, .int v3] [] h = pm_bd (pm_ev d 299 [.ref 414] h) fun r1 y1 => if v3 < r1 then (if v2 = 0 then (pm_bw v2 (some (v2, y1))) else (pm_at ((y1 169 21) + v3) 400 fun j1 => pm_bd (pm_ev d 300 [.ref 414, .int v3] y1) fun r2 y2 => if y1 177 j1 = r2 then (pm_rn d kX10_is 24 [.ref 169, .ref 414, .int 1, .int (v3 + 1)] [] y2) else (pm_rn d kX10_is 24 [.ref 169, .ref 414, .int 0, .int (v3 + 1)] [] y2))) else (pm_bw v2 (some (v2, y1))) := (pm_rn_b d _ (fun pc => Nat.beq pc 24) 400 _ _ _ h).trans rfl
set_option maxRecDepth 100000 in
theorem e_X10_is_415 (d : Nat) (h : pm_Hp) : pm_ev (d + 1) 181 [.ref 169, .ref 415] h = pm_bd (pm_ev d 299 [.ref 415] h) fun r1 y1 => if (h 169 19) - (h 169 21) = r1 then (pm_rn d kX10_is 24 [.ref 169, .ref 415, .int 1, .int 0] [] y1) else (pm_rn d kX10_is 24 [.ref 169, .ref 415, .int 0, .int 0] [] y1) := (pm_ev_b d 181 400 (fun pc => Nat.beq pc 24) _ h).trans rfl
set_option maxRecDepth 100000 in
theorem b_X10_is_415_24 (d : Nat) (h : pm_Hp) (v2 v3 : Int32) : pm_rn d kX10_is 24 [.ref 169, .ref 415, .int v2, .int v3] [] h = pm_bd (pm_ev d 299 [.ref 415] h) fun r1 y1 => if v3 < r1 then (if v2 = 0 then (pm_bw v2 (some (v2, y1))) else (pm_at ((y1 169 21) + v3) 400 fun j1 => pm_bd (pm_ev d 300 [.ref 415, .int v3] y1) fun r2 y2 => if y1 177 j1 = r2 then (pm_rn d kX10_is 24 [.ref 169, .ref 415, .int 1, .int (v3 + 1)] [] y2) else (pm_rn d kX10_is 24 [.ref 169, .ref 415, .int 0, .int (v3 + 1)] [] y2))) else (pm_bw v2 (some (v2, y1))) := (pm_rn_b d _ (fun pc => Nat.beq pc 24) 400 _ _ _ h).trans rfl
set_option maxRecDepth 100000 in
theorem e_X10_is_416 (d : Nat) (h : pm_Hp) : pm_ev (d + 1) 181 [.ref 169, .ref 416] h = pm_bd (pm_ev d 299 [.ref 416] h) fun r1 y1 => if (h 169 19) - (h 169 21) = r1 then (pm_rn d kX10_is 24 [.ref 169, .ref 416, .int 1, .int 0] [] y1) else (pm_rn d kX10_is 24 [.ref 169, .ref 416, .int 0, .int 0] [] y1) := (pm_ev_b d 181 400 (fun pc => Nat.beq pc 24) _ h).trans rfl
set_option maxRecDepth 100000 in
theorem b_X10_is_416_24 (d : Nat) (h : pm_Hp) (v2 v3 : Int32) : pm_rn d kX10_is 24 [.ref 169, .ref 416, .int v2, .int v3] [] h = pm_bd (pm_ev d 299 [.ref 416] h) fun r1 y1 => if v3 < r1 then (if v2 = 0 then (pm_bw v2 (some (v2, y1))) else (pm_at ((y1 169 21) + v3) 400 fun j1 => pm_bd (pm_ev d 300 [.ref 416, .int v3] y1) fun r2 y2 => if y1 177 j1 = r2 then (pm_rn d kX10_is 24 [.ref 169, .ref 416, .int 1, .int (v3 + 1)] [] y2) else (pm_rn d kX10_is 24 [.ref 169, .ref 416, .int 0, .int (v3 + 1)] [] y2))) else (pm_bw v2 (some (v2, y1))) := (pm_rn_b d _ (fun pc => Nat.beq pc 24) 400 _ _ _ h).trans rfl
set_option maxRecDepth 100000 in
theorem e_X10_is_417 (d : Nat) (h : pm_Hp) : pm_ev (d + 1) 181 [.ref 169, .ref 417] h = pm_bd (pm_ev d 299 [.ref 417] h) fun r1 y1 => if (h 169 19) - (h 169 21) = r1 then (pm_rn d kX10_is 24 [.ref 169, .ref 417, .int 1, .int 0] [] y1) else (pm_rn d kX10_is 24 [.ref 169, .ref 417, .int 0, .int 0] [] y1) := (pm_ev_b d 181 400 (fun pc => Nat.beq pc 24) _ h).trans rfl
set_option maxRecDepth 100000 in
theorem b_X10_is_417_24 (d : Nat) (h : pm_Hp) (v2 v3 : Int32) : pm_rn d kX10_is 24 [.ref 169, .ref 417, .int v2, .int v3] [] h = pm_bd (pm_ev d 299 [.ref 417] h) fun r1 y1 => if v3 < r1 then (if v2 = 0 then (pm_bw v2 (some (v2, y1))) else (pm_at ((y1 169 21) + v3) 400 fun j1 => pm_bd (pm_ev d 300 [.ref 417, .int v3] y1) fun r2 y2 => if y1 177 j1 = r2 then (pm_rn d kX10_is 24 [.ref 169, .ref 417, .int 1, .int (v3 + 1)] [] y2) else (pm_rn d kX10_is 24 [.ref 169, .ref 417, .int 0, .int (v3 + 1)] [] y2))) else (pm_bw v2 (some (v2, y1))) := (pm_rn_b d _ (fun pc => Nat.beq pc 24) 400 _ _ _ h).trans rfl
set_option maxRecDepth 100000 in
theorem e_X10_is_418 (d : Nat) (h : pm_Hp) : pm_ev (d + 1) 181 [.ref 169, .ref 418] h = pm_bd (pm_ev d 299 [.ref 418] h) fun r1 y1 => if (h 169 19) - (h 169 21) = r1 then (pm_rn d kX10_is 24 [.ref 169, .ref 418, .int 1, .int 0] [] y1) else (pm_rn d kX10_is 24 [.ref 169, .ref 418, .int 0, .int 0] [] y1) := (pm_ev_b d 181 400 (fun pc => Nat.beq pc 24) _ h).trans rfl
set_option maxRecDepth 100000 in
theorem b_X10_is_418_24 (d : Nat) (h : pm_Hp) (v2 v3 : Int32) : pm_rn d kX10_is 24 [.ref 169, .ref 418, .int v2, .int v3] [] h = pm_bd (pm_ev d 299 [.ref 418] h) fun r1 y1 => if v3 < r1 then (if v2 = 0 then (pm_bw v2 (some (v2, y1))) else (pm_at ((y1 169 21) + v3) 400 fun j1 => pm_bd (pm_ev d 300 [.ref 418, .int v3] y1) fun r2 y2 => if y1 177 j1 = r2 then (pm_rn d kX10_is 24 [.ref 169, .ref 418, .int 1, .int (v3 + 1)] [] y2) else (pm_rn d kX10_is 24 [.ref 169, .ref 418, .int 0, .int (v3 + 1)] [] y2))) else (pm_bw v2 (some (v2, y1))) := (pm_rn_b d _ (fun pc => Nat.beq pc 24) 400 _ _ _ h).trans rfl
set_option maxRecDepth 100000 in
theorem e_X10_is_419 (d : Nat) (h : pm_Hp) : pm_ev (d + 1) 181 [.ref 169, .ref 419] h = pm_bd (pm_ev d 299 [.ref 419] h) fun r1 y1 => if (h 169 19) - (h 169 21) = r1 then (pm_rn d kX10_is 24 [.ref 169, .ref 419, .int 1, .int 0] [] y1) else (pm_rn d kX10_is 24 [.ref 169, .ref 419, .int 0, .int 0] [] y1) := (pm_ev_b d 181 400 (fun pc => Nat.beq pc 24) _ h).trans rfl
set_option maxRecDepth 100000 in
theorem b_X10_is_419_24 (d : Nat) (h : pm_Hp) (v2 v3 : Int32) : pm_rn d kX10_is 24 [.ref 169, .ref 419, .int v2, .int v3] [] h = pm_bd (pm_ev d 299 [.ref 419] h) fun r1 y1 => if v3 < r1 then (if v2 = 0 then (pm_bw v2 (some (v2, y1))) else (pm_at ((y1 169 21) + v3) 400 fun j1 => pm_bd (pm_ev d 300 [.ref 419, .int v3] y1) fun r2 y2 => if y1 177 j1 = r2 then (pm_rn d kX10_is 24 [.ref 169, .ref 419, .int 1, .int (v3 + 1)] [] y2) else (pm_rn d kX10_is 24 [.ref 169, .ref 419, .int 0, .int (v3 + 1)] [] y2))) else (pm_bw v2 (some (v2, y1))) := (pm_rn_b d _ (fun pc => Nat.beq pc 24) 400 _ _ _ h).trans rfl
set_option maxRecDepth 100000 in
theorem e_X10_is_420 (d : Nat) (h : pm_Hp) : pm_ev (d + 1) 181 [.ref 169, .ref 420] h = pm_bd (pm_ev d 299 [.ref 420] h) fun r1 y1 => if (h 169 19) - (h 169 21) = r1 then (pm_rn d kX10_is 24 [.ref 169, .ref 420, .int 1, .int 0] [] y1) else (pm_rn d kX10_is 24 [.ref 169, .ref 420, .int 0, .int 0] [] y1) := (pm_ev_b d 181 400 (fun pc => Nat.beq pc 24) _ h).trans rfl
set_option maxRecDepth 100000 in
theorem b_X10_is_420_24 (d : Nat) (h : pm_Hp) (v2 v3 : Int32) : pm_rn d kX10_is 24 [.ref 169, .ref 420, .int v2, .int v3] [] h = pm_bd (pm_ev d 299 [.ref 420] h) fun r1 y1 => if v3 < r1 then (if v2 = 0 then (pm_bw v2 (some (v2, y1))) else (pm_at ((y1 169 21) + v3) 400 fun j1 => pm_bd (pm_ev d 300 [.ref 420, .int v3] y1) fun r2 y2 => if y1 177 j1 = r2 then (pm_rn d kX10_is 24 [.ref 169, .ref 420, .int 1, .int (v3 + 1)] [] y2) else (pm_rn d kX10_is 24 [.ref 169, .ref 420, .int 0, .int (v3 + 1)] [] y2))) else (pm_bw v2 (some (v2, y1))) := (pm_rn_b d _ (fun pc => Nat.beq pc 24) 400 _ _ _ h).trans rfl
set_option maxRecDepth 100000 in
theorem e_X10_is_421 (d : Nat) (h : pm_Hp) : pm_ev (d + 1) 181 [.ref 169, .ref 421] h = pm_bd (pm_ev d 299 [.ref 421] h) fun r1 y1 => if (h 169 19) - (h 169 21) = r1 then (pm_rn d kX10_is 24 [.ref 169, .ref 421, .int 1, .int 0] [] y1) else (pm_rn d kX10_is 24 [.ref 169, .ref 421, .int 0, .int 0] [] y1) := (pm_ev_b d 181 400 (fun pc => Nat.beq pc 24) _ h).trans rfl
set_option maxRecDepth 100000 in
theorem b_X10_is_421_24 (d : Nat) (h : pm_Hp) (v2 v3 : Int32) : pm_rn d kX10_is 24 [.ref 169, .ref 421, .int v2, .int v3] [] h = pm_bd (pm_ev d 299 [.ref 421] h) fun r1 y1 => if v3 < r1 then (if v2 = 0 then (pm_bw v2 (some (v2, y1))) else (pm_at ((y1 169 21) + v3) 400 fun j1 => pm_bd (pm_ev d 300 [.ref 421, .int v3] y1) fun r2 y2 => if y1 177 j1 = r2 then (pm_rn d kX10_is 24 [.ref 169, .ref 421, .int 1, .int (v3 + 1)] [] y2) else (pm_rn d kX10_is 24 [.ref 169, .ref 421, .int 0, .int (v3 + 1)] [] y2))) else (pm_bw v2 (some (v2, y1))) := (pm_rn_b d _ (fun pc => Nat.beq pc 24) 400 _ _ _ h).trans rfl
set_option maxRecDepth 100000 in
theorem e_X10_is_422 (d : Nat) (h : pm_Hp) : pm_ev (d + 1) 181 [.ref 169, .ref 422] h = pm_bd (pm_ev d 299 [.ref 422] h) fun r1 y1 => if (h 169 19) - (h 169 21) = r1 then (pm_rn d kX10_is 24 [.ref 169, .ref 422, .int 1, .int 0] [] y1) else (pm_rn d kX10_is 24 [.ref 169, .ref 422, .int 0, .int 0] [] y1) := (pm_ev_b d 181 400 (fun pc => Nat.beq pc 24) _ h).trans rfl
set_option maxRecDepth 100000 in
theorem b_X10_is_422_24 (d : Nat) (h : pm_Hp) (v2 v3 : Int32) : pm_rn d kX10_is 24 [.ref 169, .ref 422, .int v2, .int v3] [] h = pm_bd (pm_ev d 299 [.ref 422] h) fun r1 y1 => if v3 < r1 then (if v2 = 0 then (pm_bw v2 (some (v2, y1))) else (pm_at ((y1 169 21) + v3) 400 fun j1 => pm_bd (pm_ev d 300 [.ref 422, .int v3] y1) fun r2 y2 => if y1 177 j1 = r2 then (pm_rn d kX10_is 24 [.ref 169, .ref 422, .int 1, .int (v3 + 1)] [] y2) else (pm_rn d kX10_is 24 [.ref 169, .ref 422, .int 0, .int (v3 + 1)] [] y2))) else (pm_bw v2 (some (v2, y1))) := (pm_rn_b d _ (fun pc => Nat.beq pc 24) 400 _ _ _ h).trans rfl
set_option maxRecDepth 100000 in
theorem e_X10_is_423 (d : Nat) (h : pm_Hp) : pm_ev (d + 1) 181 [.ref 169, .ref 423] h = pm_bd (pm_ev d 299 [.ref 423] h) fun r1 y1 => if (h 169 19) - (h 169 21) = r1 then (pm_rn d kX10_is 24 [.ref 169, .ref 423, .int 1, .int 0] [] y1) else (pm_rn d kX10_is 24 [.ref 169, .ref 423, .int 0, .int 0] [] y1) := (pm_ev_b d 181 400 (fun pc => Nat.beq pc 24) _ h).trans rfl
set_option maxRecDepth 100000 in
theorem b_X10_is_423_24 (d : Nat) (h : pm_Hp) (v2 v3 : Int32) : pm_rn d kX10_is 24 [.ref 169, .ref 423, .int v2, .int v3] [] h = pm_bd (pm_ev d 299 [.ref 423] h) fun r1 y1 => if v3 < r1 then (if v2 = 0 then (pm_bw v2 (some (v2, y1))) else (pm_at ((y1 169 21) + v3) 400 fun j1 => pm_bd (pm_ev d 300 [.ref 423, .int v3] y1) fun r2 y2 => if y1 177 j1 = r2 then (pm_rn d kX10_is 24 [.ref 169, .ref 423, .int 1, .int (v3 + 1)] [] y2) else (pm_rn d kX10_is 24 [.ref 169, .ref 423, .int 0, .int (v3 + 1)] [] y2))) else (pm_bw v2 (some (v2, y1))) := (pm_rn_b d _ (fun pc => Nat.beq pc 24) 400 _ _ _ h).trans rfl
set_option maxRecDepth 100000 in
theorem e_X10_is_424 (d : Nat) (h : pm_Hp) : pm_ev (d + 1) 181 [.ref 169, .ref 424] h = pm_bd (pm_ev d 299 [.ref 424] h) fun r1 y1 => if (h 169 19) - (h 169 21) = r1 then (pm_rn d kX10_is 24 [.ref 169, .ref 424, .int 1, .int 0] [] y1) else (pm_rn d kX10_is 24 [.ref 169, .ref 424, .int 0, .int 0] [] y1) := (pm_ev_b d 181 400 (fun pc => Nat.beq pc 24) _ h).trans rfl
set_option maxRecDepth 100000 in
theorem b_X10_is_424_24 (d : Nat) (h : pm_Hp) (v2 v3 : Int32) : pm_rn d kX10_is 24 [.ref 169, .ref 424, .int v2, .int v3] [] h = pm_bd (pm_ev d 299 [.ref 424] h) fun r1 y1 => if v3 < r1 then (if v2 = 0 then (pm_bw v2 (some (v2, y1))) else (pm_at ((y1 169 21) + v3) 400 fun j1 => pm_bd (pm_ev d 300 [.ref 424, .int v3] y1) fun r2 y2 => if y1 177 j1 = r2 then (pm_rn d kX10_is 24 [.ref 169, .ref 424, .int 1, .int (v3 + 1)] [] y2) else (pm_rn d kX10_is 24 [.ref 169, .ref 424, .int 0, .int (v3 + 1)] [] y2))) else (pm_bw v2 (some (v2, y1))) := (pm_rn_b d _ (fun pc => Nat.beq pc 24) 400 _ _ _ h).trans rfl
set_option maxRecDepth 100000 in
theorem e_X10_is_425 (d : Nat) (h : pm_Hp) : pm_ev (d + 1) 181 [.ref 169, .ref 425] h = pm_bd (pm_ev d 299 [.ref 425] h) fun r1 y1 => if (h 169 19) - (h 169 21) = r1 then (pm_rn d kX10_is 24 [.ref 169, .ref 425, .int 1, .int 0] [] y1) else (pm_rn d kX10_is 24 [.ref 169, .ref 425, .int 0, .int 0] [] y1) := (pm_ev_b d 181 400 (fun pc => Nat.beq pc 24) _ h).trans rfl
set_option maxRecDepth 100000 in
theorem b_X10_is_425_24 (d : Nat) (h : pm_Hp) (v2 v3 : Int32) : pm_rn d kX10_is 24 [.ref 169, .ref 425, .int v2, .int v3] [] h = pm_bd (pm_ev d 299 [.ref 425] h) fun r1 y1 => if v3 < r1 then (if v2 = 0 then (pm_bw v2 (some (v2, y1))) else (pm_at ((y1 169 21) + v3) 400 fun j1 => pm_bd (pm_ev d 300 [.ref 425, .int v3] y1) fun r2 y2 => if y1 177 j1 = r2 then (pm_rn d kX10_is 24 [.ref 169, .ref 425, .int 1, .int (v3 + 1)] [] y2) else (pm_rn d kX10_is 24 [.ref 169, .ref 425, .int 0, .int (v3 + 1)] [] y2))) else (pm_bw v2 (some (v2, y1))) := (pm_rn_b d _ (fun pc => Nat.beq pc 24) 400 _ _ _ h).trans rfl
set_option maxRecDepth 100000 in
theorem b_X4_search_0_82 (d : Nat) (h : pm_Hp) (v1 v2 v3 v4 v5 : Int32) (u6 : Value) : pm_rn d kX4_search 82 [.ref 150, .int v1, .int v2, .int v3, .int v4, .int v5, u6] [.ref 156] h = pm_at v1 6 fun j1 => pm_bd (pm_ev d 154 [.int (h 156 j1), .int v4] h) fun r1 y1 => if r1 = 0 then (pm_rn d kX4_search 51 [.ref 150, .int v1, .int v2, .int v3, .int (v4 + 1), .int v5, u6] [] y1) else (if v5 + v3 < y1 150 13 then (pm_bd (pm_ev d 64 [.ref 150, .int v1, .int v4] y1) fun r2 y2 => if r2 = (-1) then (pm_rn d kX4_search 51 [.ref 150, .int v1, .int v2, .int v3, .int (v4 + 1), .int v5, .int r2] [] y2) else (if v5 + r2 < y2 150 13 then (pm_at v1 6 fun j2 => pm_bd (pm_ev d 63 [.ref 150, .int (v1 + 1), .int v5] (pm_up y2 163 j2 v4)) fun _ y3 => pm_rn d kX4_search 51 [.ref 150, .int v1, .int v2, .int v3, .int (v4 + 1), .int v5, .int r2] [] y3) else (pm_rn d kX4_search 51 [.ref 150, .int v1, .int v2, .int v3, .int (v4 + 1), .int v5, .int r2] [] y2))) else (pm_rn d kX4_search 51 [.ref 150, .int v1, .int v2, .int v3, .int (v4 + 1), .int v5, u6] [] y1)) := (pm_rn_b d _ (fun pc => Nat.beq pc 51) 400 _ _ _ h).trans rfl
set_option maxRecDepth 100000 in
theorem b_X4_search_1_82 (d : Nat) (h : pm_Hp) (v1 v2 v3 v4 v5 : Int32) (u6 : Value) : pm_rn d kX4_search 82 [.ref 150, .int v1, .int v2, .int v3, .int v4, .int v5, u6] [.ref 157] h = pm_at v1 6 fun j1 => pm_bd (pm_ev d 154 [.int (h 157 j1), .int v4] h) fun r1 y1 => if r1 = 0 then (pm_rn d kX4_search 51 [.ref 150, .int v1, .int v2, .int v3, .int (v4 + 1), .int v5, u6] [] y1) else (if v5 + v3 < y1 150 13 then (pm_bd (pm_ev d 64 [.ref 150, .int v1, .int v4] y1) fun r2 y2 => if r2 = (-1) then (pm_rn d kX4_search 51 [.ref 150, .int v1, .int v2, .int v3, .int (v4 + 1), .int v5, .int r2] [] y2) else (if v5 + r2 < y2 150 13 then (pm_at v1 6 fun j2 => pm_bd (pm_ev d 63 [.ref 150, .int (v1 + 1), .int v5] (pm_up y2 163 j2 v4)) fun _ y3 => pm_rn d kX4_search 51 [.ref 150, .int v1, .int v2, .int v3, .int (v4 + 1), .int v5, .int r2] [] y3) else (pm_rn d kX4_search 51 [.ref 150, .int v1, .int v2, .int v3, .int (v4 + 1), .int v5, .int r2] [] y2))) else (pm_rn d kX4_search 51 [.ref 150, .int v1, .int v2, .int v3, .int (v4 + 1), .int v5, u6] [] y1)) := (pm_rn_b d _ (fun pc => Nat.beq pc 51) 400 _ _ _ h).trans rfl
set_option maxRecDepth 100000 in
theorem b_X4_search_2_82 (d : Nat) (h : pm_Hp) (v1 v2 v3 v4 v5 : Int32) (u6 : Value) : pm_rn d kX4_search 82 [.ref 150, .int v1, .int v2, .int v3, .int v4, .int v5, u6] [.ref 158] h = pm_at v1 6 fun j1 => pm_bd (pm_ev d 154 [.int (h 158 j1), .int v4] h) fun r1 y1 => if r1 = 0 then (pm_rn d kX4_search 51 [.ref 150, .int v1, .int v2, .int v3, .int (v4 + 1), .int v5, u6] [] y1) else (if v5 + v3 < y1 150 13 then (pm_bd (pm_ev d 64 [.ref 150, .int v1, .int v4] y1) fun r2 y2 => if r2 = (-1) then (pm_rn d kX4_search 51 [.ref 150, .int v1, .int v2, .int v3, .int (v4 + 1), .int v5, .int r2] [] y2) else (if v5 + r2 < y2 150 13 then (pm_at v1 6 fun j2 => pm_bd (pm_ev d 63 [.ref 150, .int (v1 + 1), .int v5] (pm_up y2 163 j2 v4)) fun _ y3 => pm_rn d kX4_search 51 [.ref 150, .int v1, .int v2, .int v3, .int (v4 + 1), .int v5, .int r2] [] y3) else (pm_rn d kX4_search 51 [.ref 150, .int v1, .int v2, .int v3, .int (v4 + 1), .int v5, .int r2] [] y2))) else (pm_rn d kX4_search 51 [.ref 150, .int v1, .int v2, .int v3, .int (v4 + 1), .int v5, u6] [] y1)) := (pm_rn_b d _ (fun pc => Nat.beq pc 51) 400 _ _ _ h).trans rfl
set_option maxRecDepth 100000 in
theorem b_X4_search_3_82 (d : Nat) (h : pm_Hp) (v1 v2 v3 v4 v5 : Int32) (u6 : Value) : pm_rn d kX4_search 82 [.ref 150, .int v1, .int v2, .int v3, .int v4, .int v5, u6] [.ref 159] h = pm_at v1 6 fun j1 => pm_bd (pm_ev d 154 [.int (h 159 j1), .int v4] h) fun r1 y1 => if r1 = 0 then (pm_rn d kX4_search 51 [.ref 150, .int v1, .int v2, .int v3, .int (v4 + 1), .int v5, u6] [] y1) else (if v5 + v3 < y1 150 13 then (pm_bd (pm_ev d 64 [.ref 150, .int v1, .int v4] y1) fun r2 y2 => if r2 = (-1) then (pm_rn d kX4_search 51 [.ref 150, .int v1, .int v2, .int v3, .int (v4 + 1), .int v5, .int r2] [] y2) else (if v5 + r2 < y2 150 13 then (pm_at v1 6 fun j2 => pm_bd (pm_ev d 63 [.ref 150, .int (v1 + 1), .int v5] (pm_up y2 163 j2 v4)) fun _ y3 => pm_rn d kX4_search 51 [.ref 150, .int v1, .int v2, .int v3, .int (v4 + 1), .int v5, .int r2] [] y3) else (pm_rn d kX4_search 51 [.ref 150, .int v1, .int v2, .int v3, .int (v4 + 1), .int v5, .int r2] [] y2))) else (pm_rn d kX4_search 51 [.ref 150, .int v1, .int v2, .int v3, .int (v4 + 1), .int v5, u6] [] y1)) := (pm_rn_b d _ (fun pc => Nat.beq pc 51) 400 _ _ _ h).trans rfl
set_option maxRecDepth 100000 in
theorem b_X4_search_4_82 (d : Nat) (h : pm_Hp) (v1 v2 v3 v4 v5 : Int32) (u6 : Value) : pm_rn d kX4_search 82 [.ref 150, .int v1, .int v2, .int v3, .int v4, .int v5, u6] [.ref 160] h = pm_at v1 6 fun j1 => pm_bd (pm_ev d 154 [.int (h 160 j1), .int v4] h) fun r1 y1 => if r1 = 0 then (pm_rn d kX4_search 51 [.ref 150, .int v1, .int v2, .int v3, .int (v4 + 1), .int v5, u6] [] y1) else (if v5 + v3 < y1 150 13 then (pm_bd (pm_ev d 64 [.ref 150, .int v1, .int v4] y1) fun r2 y2 => if r2 = (-1) then (pm_rn d kX4_search 51 [.ref 150, .int v1, .int v2, .int v3, .int (v4 + 1), .int v5, .int r2] [] y2) else (if v5 + r2 < y2 150 13 then (pm_at v1 6 fun j2 => pm_bd (pm_ev d 63 [.ref 150, .int (v1 + 1), .int v5] (pm_up y2 163 j2 v4)) fun _ y3 => pm_rn d kX4_search 51 [.ref 150, .int v1, .int v2, .int v3, .int (v4 + 1), .int v5, .int r2] [] y3) else (pm_rn d kX4_search 51 [.ref 150, .int v1, .int v2, .int v3, .int (v4 + 1), .int v5, .int r2] [] y2))) else (pm_rn d kX4_search 51 [.ref 150, .int v1, .int v2, .int v3, .int (v4 + 1), .int v5, u6] [] y1)) := (pm_rn_b d _ (fun pc => Nat.beq pc 51) 400 _ _ _ h).trans rfl
set_option maxRecDepth 100000 in
theorem b_X4_search_5_82 (d : Nat) (h : pm_Hp) (v1 v2 v3 v4 v5 : Int32) (u6 : Value) : pm_rn d kX4_search 82 [.ref 150, .int v1, .int v2, .int v3, .int v4, .int v5, u6] [.ref 161] h = pm_at v1 6 fun j1 => pm_bd (pm_ev d 154 [.int (h 161 j1), .int v4] h) fun r1 y1 => if r1 = 0 then (pm_rn d kX4_search 51 [.ref 150, .int v1, .int v2, .int v3, .int (v4 + 1), .int v5, u6] [] y1) else (if v5 + v3 < y1 150 13 then (pm_bd (pm_ev d 64 [.ref 150, .int v1, .int v4] y1) fun r2 y2 => if r2 = (-1) then (pm_rn d kX4_search 51 [.ref 150, .int v1, .int v2, .int v3, .int (v4 + 1), .int v5, .int r2] [] y2) else (if v5 + r2 < y2 150 13 then (pm_at v1 6 fun j2 => pm_bd (pm_ev d 63 [.ref 150, .int (v1 + 1), .int v5] (pm_up y2 163 j2 v4)) fun _ y3 => pm_rn d kX4_search 51 [.ref 150, .int v1, .int v2, .int v3, .int (v4 + 1), .int v5, .int r2] [] y3) else (pm_rn d kX4_search 51 [.ref 150, .int v1, .int v2, .int v3, .int (v4 + 1), .int v5, .int r2] [] y2))) else (pm_rn d kX4_search 51 [.ref 150, .int v1, .int v2, .int v3, .int (v4 + 1), .int v5, u6] [] y1)) := (pm_rn_b d _ (fun pc => Nat.beq pc 51) 400 _ _ _ h).trans rfl
set_option maxRecDepth 100000 in
theorem b_X4_startSearch_0_20 (d : Nat) (h : pm_Hp) (v1 : Int32) : pm_rn d kX4_startSearch 20 [.ref 150, .int v1] [.ref 156, .ref 152] h = pm_bd (pm_ev d 155 [.ref 152, .ref 156] h) fun _ y1 => pm_rn d kX4_startSearch 2 [.ref 150, .int (v1 + 1)] [] y1 := (pm_rn_b d _ (fun pc => Nat.beq pc 2) 400 _ _ _ h).trans rfl
set_option maxRecDepth 100000 in
theorem b_X4_startSearch_1_20 (d : Nat) (h : pm_Hp) (v1 : Int32) : pm_rn d kX4_startSearch 20 [.ref 150, .int v1] [.ref 157, .ref 152] h = pm_bd (pm_ev d 155 [.ref 152, .ref 157] h) fun _ y1 => pm_rn d kX4_startSearch 2 [.ref 150, .int (v1 + 1)] [] y1 := (pm_rn_b d _ (fun pc => Nat.beq pc 2) 400 _ _ _ h).trans rfl
set_option maxRecDepth 100000 in
theorem b_X4_startSearch_2_20 (d : Nat) (h : pm_Hp) (v1 : Int32) : pm_rn d kX4_startSearch 20 [.ref 150, .int v1] [.ref 158, .ref 152] h = pm_bd (pm_ev d 155 [.ref 152, .ref 158] h) fun _ y1 => pm_rn d kX4_startSearch 2 [.ref 150, .int (v1 + 1)] [] y1 := (pm_rn_b d _ (fun pc => Nat.beq pc 2) 400 _ _ _ h).trans rfl
set_option maxRecDepth 100000 in
theorem b_X4_startSearch_3_20 (d : Nat) (h : pm_Hp) (v1 : Int32) : pm_rn d kX4_startSearch 20 [.ref 150, .int v1] [.ref 159, .ref 152] h = pm_bd (pm_ev d 155 [.ref 152, .ref 159] h) fun _ y1 => pm_rn d kX4_startSearch 2 [.ref 150, .int (v1 + 1)] [] y1 := (pm_rn_b d _ (fun pc => Nat.beq pc 2) 400 _ _ _ h).trans rfl
set_option maxRecDepth 100000 in
theorem b_X4_startSearch_4_20 (d : Nat) (h : pm_Hp) (v1 : Int32) : pm_rn d kX4_startSearch 20 [.ref 150, .int v1] [.ref 160, .ref 152] h = pm_bd (pm_ev d 155 [.ref 152, .ref 160] h) fun _ y1 => pm_rn d kX4_startSearch 2 [.ref 150, .int (v1 + 1)] [] y1 := (pm_rn_b d _ (fun pc => Nat.beq pc 2) 400 _ _ _ h).trans rfl
set_option maxRecDepth 100000 in
theorem b_X4_startSearch_5_20 (d : Nat) (h : pm_Hp) (v1 : Int32) : pm_rn d kX4_startSearch 20 [.ref 150, .int v1] [.ref 161, .ref 152] h = pm_bd (pm_ev d 155 [.ref 152, .ref 161] h) fun _ y1 => pm_rn d kX4_startSearch 2 [.ref 150, .int (v1 + 1)] [] y1 := (pm_rn_b d _ (fun pc => Nat.beq pc 2) 400 _ _ _ h).trans rfl
set_option maxRecDepth 100000 in
theorem b_X4_otherwise_0_17 (d : Nat) (h : pm_Hp) (v1 v2 : Int32) : pm_rn d kX4_otherwise 17 [.ref 150, .int v1, .int v2] [.ref 156] h = pm_at v1 6 fun j1 => pm_at v1 6 fun j2 => pm_at v1 6 fun j3 => pm_rn d kX4_otherwise 6 [.ref 150, .int v1, .int (v2 + 1)] [] (pm_up h 156 j3 ((h 156 j1) &&& ((pm_shl 1 (h 151 j2)) ^^^ (-1)))) := (pm_rn_b d _ (fun pc => Nat.beq pc 6) 400 _ _ _ h).trans rfl
set_option maxRecDepth 100000 in
theorem b_X4_otherwise_1_17 (d : Nat) (h : pm_Hp) (v1 v2 : Int32) : pm_rn d kX4_otherwise 17 [.ref 150, .int v1, .int v2] [.ref 157] h = pm_at v1 6 fun j1 => pm_at v1 6 fun j2 => pm_at v1 6 fun j3 => pm_rn d kX4_otherwise 6 [.ref 150, .int v1, .int (v2 + 1)] [] (pm_up h 157 j3 ((h 157 j1) &&& ((pm_shl 1 (h 151 j2)) ^^^ (-1)))) := (pm_rn_b d _ (fun pc => Nat.beq pc 6) 400 _ _ _ h).trans rfl
set_option maxRecDepth 100000 in
theorem b_X4_otherwise_2_17 (d : Nat) (h : pm_Hp) (v1 v2 : Int32) : pm_rn d kX4_otherwise 17 [.ref 150, .int v1, .int v2] [.ref 158] h = pm_at v1 6 fun j1 => pm_at v1 6 fun j2 => pm_at v1 6 fun j3 => pm_rn d kX4_otherwise 6 [.ref 150, .int v1, .int (v2 + 1)] [] (pm_up h 158 j3 ((h 158 j1) &&& ((pm_shl 1 (h 151 j2)) ^^^ (-1)))) := (pm_rn_b d _ (fun pc => Nat.beq pc 6) 400 _ _ _ h).trans rfl
set_option maxRecDepth 100000 in
theorem b_X4_otherwise_3_17 (d : Nat) (h : pm_Hp) (v1 v2 : Int32) : pm_rn d kX4_otherwise 17 [.ref 150, .int v1, .int v2] [.ref 159] h = pm_at v1 6 fun j1 => pm_at v1 6 fun j2 => pm_at v1 6 fun j3 => pm_rn d kX4_otherwise 6 [.ref 150, .int v1, .int (v2 + 1)] [] (pm_up h 159 j3 ((h 159 j1) &&& ((pm_shl 1 (h 151 j2)) ^^^ (-1)))) := (pm_rn_b d _ (fun pc => Nat.beq pc 6) 400 _ _ _ h).trans rfl
set_option maxRecDepth 100000 in
theorem b_X4_otherwise_4_17 (d : Nat) (h : pm_Hp) (v1 v2 : Int32) : pm_rn d kX4_otherwise 17 [.ref 150, .int v1, .int v2] [.ref 160] h = pm_at v1 6 fun j1 => pm_at v1 6 fun j2 => pm_at v1 6 fun j3 => pm_rn d kX4_otherwise 6 [.ref 150, .int v1, .int (v2 + 1)] [] (pm_up h 160 j3 ((h 160 j1) &&& ((pm_shl 1 (h 151 j2)) ^^^ (-1)))) := (pm_rn_b d _ (fun pc => Nat.beq pc 6) 400 _ _ _ h).trans rfl
set_option maxRecDepth 100000 in
theorem b_X4_otherwise_5_17 (d : Nat) (h : pm_Hp) (v1 v2 : Int32) : pm_rn d kX4_otherwise 17 [.ref 150, .int v1, .int v2] [.ref 161] h = pm_at v1 6 fun j1 => pm_at v1 6 fun j2 => pm_at v1 6 fun j3 => pm_rn d kX4_otherwise 6 [.ref 150, .int v1, .int (v2 + 1)] [] (pm_up h 161 j3 ((h 161 j1) &&& ((pm_shl 1 (h 151 j2)) ^^^ (-1)))) := (pm_rn_b d _ (fun pc => Nat.beq pc 6) 400 _ _ _ h).trans rfl
set_option maxRecDepth 100000 in
theorem b_X4_narrow_0_22 (d : Nat) (h : pm_Hp) (v1 v2 v3 v4 : Int32) (u5 : Value) : pm_rn d kX4_narrow 22 [.ref 150, .int v1, .int v2, .int v3, .int v4, u5] [.ref 156] h = pm_at v4 6 fun j1 => pm_bd (pm_ev d 56 [.int v1, .int v2, .int v4] h) fun r1 y1 => pm_at r1 576 fun j2 => if (h 156 j1) &&& (y1 154 j2) = 0 then (some ((-1), y1)) else (pm_at (v1 + 1) 7 fun j3 => pm_rn d kX4_narrow 55 [.ref 150, .int v1, .int v2, .int v3, .int v4, .int ((h 156 j1) &&& (y1 154 j2))] [.ref ((pm_ob 155).2.2.getD j3 0)] y1) := (pm_rn_b d _ (fun pc => Nat.beq pc 55) 400 _ _ _ h).trans rfl
set_option maxRecDepth 100000 in
theorem b_X4_narrow_1_22 (d : Nat) (h : pm_Hp) (v1 v2 v3 v4 : Int32) (u5 : Value) : pm_rn d kX4_narrow 22 [.ref 150, .int v1, .int v2, .int v3, .int v4, u5] [.ref 157] h = pm_at v4 6 fun j1 => pm_bd (pm_ev d 56 [.int v1, .int v2, .int v4] h) fun r1 y1 => pm_at r1 576 fun j2 => if (h 157 j1) &&& (y1 154 j2) = 0 then (some ((-1), y1)) else (pm_at (v1 + 1) 7 fun j3 => pm_rn d kX4_narrow 55 [.ref 150, .int v1, .int v2, .int v3, .int v4, .int ((h 157 j1) &&& (y1 154 j2))] [.ref ((pm_ob 155).2.2.getD j3 0)] y1) := (pm_rn_b d _ (fun pc => Nat.beq pc 55) 400 _ _ _ h).trans rfl
set_option maxRecDepth 100000 in
theorem b_X4_narrow_2_22 (d : Nat) (h : pm_Hp) (v1 v2 v3 v4 : Int32) (u5 : Value) : pm_rn d kX4_narrow 22 [.ref 150, .int v1, .int v2, .int v3, .int v4, u5] [.ref 158] h = pm_at v4 6 fun j1 => pm_bd (pm_ev d 56 [.int v1, .int v2, .int v4] h) fun r1 y1 => pm_at r1 576 fun j2 => if (h 158 j1) &&& (y1 154 j2) = 0 then (some ((-1), y1)) else (pm_at (v1 + 1) 7 fun j3 => pm_rn d kX4_narrow 55 [.ref 150, .int v1, .int v2, .int v3, .int v4, .int ((h 158 j1) &&& (y1 154 j2))] [.ref ((pm_ob 155).2.2.getD j3 0)] y1) := (pm_rn_b d _ (fun pc => Nat.beq pc 55) 400 _ _ _ h).trans rfl
set_option maxRecDepth 100000 in
theorem b_X4_narrow_3_22 (d : Nat) (h : pm_Hp) (v1 v2 v3 v4 : Int32) (u5 : Value) : pm_rn d kX4_narrow 22 [.ref 150, .int v1, .int v2, .int v3, .int v4, u5] [.ref 159] h = pm_at v4 6 fun j1 => pm_bd (pm_ev d 56 [.int v1, .int v2, .int v4] h) fun r1 y1 => pm_at r1 576 fun j2 => if (h 159 j1) &&& (y1 154 j2) = 0 then (some ((-1), y1)) else (pm_at (v1 + 1) 7 fun j3 => pm_rn d kX4_narrow 55 [.ref 150, .int v1, .int v2, .int v3, .int v4, .int ((h 159 j1) &&& (y1 154 j2))] [.ref ((pm_ob 155).2.2.getD j3 0)] y1) := (pm_rn_b d _ (fun pc => Nat.beq pc 55) 400 _ _ _ h).trans rfl
set_option maxRecDepth 100000 in
theorem b_X4_narrow_4_22 (d : Nat) (h : pm_Hp) (v1 v2 v3 v4 : Int32) (u5 : Value) : pm_rn d kX4_narrow 22 [.ref 150, .int v1, .int v2, .int v3, .int v4, u5] [.ref 160] h = pm_at v4 6 fun j1 => pm_bd (pm_ev d 56 [.int v1, .int v2, .int v4] h) fun r1 y1 => pm_at r1 576 fun j2 => if (h 160 j1) &&& (y1 154 j2) = 0 then (some ((-1), y1)) else (pm_at (v1 + 1) 7 fun j3 => pm_rn d kX4_narrow 55 [.ref 150, .int v1, .int v2, .int v3, .int v4, .int ((h 160 j1) &&& (y1 154 j2))] [.ref ((pm_ob 155).2.2.getD j3 0)] y1) := (pm_rn_b d _ (fun pc => Nat.beq pc 55) 400 _ _ _ h).trans rfl
set_option maxRecDepth 100000 in
theorem b_X4_narrow_5_22 (d : Nat) (h : pm_Hp) (v1 v2 v3 v4 : Int32) (u5 : Value) : pm_rn d kX4_narrow 22 [.ref 150, .int v1, .int v2, .int v3, .int v4, u5] [.ref 161] h = pm_at v4 6 fun j1 => pm_bd (pm_ev d 56 [.int v1, .int v2, .int v4] h) fun r1 y1 => pm_at r1 576 fun j2 => if (h 161 j1) &&& (y1 154 j2) = 0 then (some ((-1), y1)) else (pm_at (v1 + 1) 7 fun j3 => pm_rn d kX4_narrow 55 [.ref 150, .int v1, .int v2, .int v3, .int v4, .int ((h 161 j1) &&& (y1 154 j2))] [.ref ((pm_ob 155).2.2.getD j3 0)] y1) := (pm_rn_b d _ (fun pc => Nat.beq pc 55) 400 _ _ _ h).trans rfl
set_option maxRecDepth 100000 in
theorem b_X4_narrow_1_55 (d : Nat) (h : pm_Hp) (v1 v2 v3 v4 v5 : Int32) : pm_rn d kX4_narrow 55 [.ref 150, .int v1, .int v2, .int v3, .int v4, .int v5] [.ref 157] h = pm_at v4 6 fun j1 => pm_bd (pm_ev d 65 [.ref 150, .int v4, .int v5] (pm_up h 157 j1 v5)) fun r1 y1 => pm_rn d kX4_narrow 7 [.ref 150, .int v1, .int v2, .int (v3 + r1), .int (v4 + 1), .int v5] [] y1 := (pm_rn_b d _ (fun pc => Nat.beq pc 7) 400 _ _ _ h).trans rfl
set_option maxRecDepth 100000 in
theorem b_X4_narrow_2_55 (d : Nat) (h : pm_Hp) (v1 v2 v3 v4 v5 : Int32) : pm_rn d kX4_narrow 55 [.ref 150, .int v1, .int v2, .int v3, .int v4, .int v5] [.ref 158] h = pm_at v4 6 fun j1 => pm_bd (pm_ev d 65 [.ref 150, .int v4, .int v5] (pm_up h 158 j1 v5)) fun r1 y1 => pm_rn d kX4_narrow 7 [.ref 150, .int v1, .int v2, .int (v3 + r1), .int (v4 + 1), .int v5] [] y1 := (pm_rn_b d _ (fun pc => Nat.beq pc 7) 400 _ _ _ h).trans rfl
set_option maxRecDepth 100000 in
theorem b_X4_narrow_3_55 (d : Nat) (h : pm_Hp) (v1 v2 v3 v4 v5 : Int32) : pm_rn d kX4_narrow 55 [.ref 150, .int v1, .int v2, .int v3, .int v4, .int v5] [.ref 159] h = pm_at v4 6 fun j1 => pm_bd (pm_ev d 65 [.ref 150, .int v4, .int v5] (pm_up h 159 j1 v5)) fun r1 y1 => pm_rn d kX4_narrow 7 [.ref 150, .int v1, .int v2, .int (v3 + r1), .int (v4 + 1), .int v5] [] y1 := (pm_rn_b d _ (fun pc => Nat.beq pc 7) 400 _ _ _ h).trans rfl
set_option maxRecDepth 100000 in
theorem b_X4_narrow_4_55 (d : Nat) (h : pm_Hp) (v1 v2 v3 v4 v5 : Int32) : pm_rn d kX4_narrow 55 [.ref 150, .int v1, .int v2, .int v3, .int v4, .int v5] [.ref 160] h = pm_at v4 6 fun j1 => pm_bd (pm_ev d 65 [.ref 150, .int v4, .int v5] (pm_up h 160 j1 v5)) fun r1 y1 => pm_rn d kX4_narrow 7 [.ref 150, .int v1, .int v2, .int (v3 + r1), .int (v4 + 1), .int v5] [] y1 := (pm_rn_b d _ (fun pc => Nat.beq pc 7) 400 _ _ _ h).trans rfl
set_option maxRecDepth 100000 in
theorem b_X4_narrow_5_55 (d : Nat) (h : pm_Hp) (v1 v2 v3 v4 v5 : Int32) : pm_rn d kX4_narrow 55 [.ref 150, .int v1, .int v2, .int v3, .int v4, .int v5] [.ref 161] h = pm_at v4 6 fun j1 => pm_bd (pm_ev d 65 [.ref 150, .int v4, .int v5] (pm_up h 161 j1 v5)) fun r1 y1 => pm_rn d kX4_narrow 7 [.ref 150, .int v1, .int v2, .int (v3 + r1), .int (v4 + 1), .int v5] [] y1 := (pm_rn_b d _ (fun pc => Nat.beq pc 7) 400 _ _ _ h).trans rfl
set_option maxRecDepth 100000 in
theorem b_X4_narrow_6_55 (d : Nat) (h : pm_Hp) (v1 v2 v3 v4 v5 : Int32) : pm_rn d kX4_narrow 55 [.ref 150, .int v1, .int v2, .int v3, .int v4, .int v5] [.ref 162] h = pm_at v4 6 fun j1 => pm_bd (pm_ev d 65 [.ref 150, .int v4, .int v5] (pm_up h 162 j1 v5)) fun r1 y1 => pm_rn d kX4_narrow 7 [.ref 150, .int v1, .int v2, .int (v3 + r1), .int (v4 + 1), .int v5] [] y1 := (pm_rn_b d _ (fun pc => Nat.beq pc 7) 400 _ _ _ h).trans rfl
