set_option maxRecDepth 100000 in
theorem b_X2_keep_0_9 (d : Nat) (h : pm_Hp) : pm_rn d kX2_keep 9 [.ref 77, .ref 2] [.ref 79] h = pm_bd (pm_ev d 100 [.ref 79, .ref 2] h) fun _ y1 => pm_bd (pm_ev d 298 [.int (nI 6), .int ((y1 77 2) + 1)] (pm_up y1 77 1 (((y1 77 1) + 1) - ((y1 77 1) + 1) / (nI 6) * (nI 6)))) fun r2 y2 => some (0, (pm_up y2 77 2 r2)) := (pm_rn_b d _ (fun pc => false) 400 _ _ _ h).trans rfl
set_option maxRecDepth 100000 in
theorem b_X2_keep_1_9 (d : Nat) (h : pm_Hp) : pm_rn d kX2_keep 9 [.ref 77, .ref 2] [.ref 88] h = pm_bd (pm_ev d 100 [.ref 88, .ref 2] h) fun _ y1 => pm_bd (pm_ev d 298 [.int (nI 6), .int ((y1 77 2) + 1)] (pm_up y1 77 1 (((y1 77 1) + 1) - ((y1 77 1) + 1) / (nI 6) * (nI 6)))) fun r2 y2 => some (0, (pm_up y2 77 2 r2)) := (pm_rn_b d _ (fun pc => false) 400 _ _ _ h).trans rfl
set_option maxRecDepth 100000 in
theorem b_X2_keep_2_9 (d : Nat) (h : pm_Hp) : pm_rn d kX2_keep 9 [.ref 77, .ref 2] [.ref 97] h = pm_bd (pm_ev d 100 [.ref 97, .ref 2] h) fun _ y1 => pm_bd (pm_ev d 298 [.int (nI 6), .int ((y1 77 2) + 1)] (pm_up y1 77 1 (((y1 77 1) + 1) - ((y1 77 1) + 1) / (nI 6) * (nI 6)))) fun r2 y2 => some (0, (pm_up y2 77 2 r2)) := (pm_rn_b d _ (fun pc => false) 400 _ _ _ h).trans rfl
set_option maxRecDepth 100000 in
theorem b_X2_keep_3_9 (d : Nat) (h : pm_Hp) : pm_rn d kX2_keep 9 [.ref 77, .ref 2] [.ref 106] h = pm_bd (pm_ev d 100 [.ref 106, .ref 2] h) fun _ y1 => pm_bd (pm_ev d 298 [.int (nI 6), .int ((y1 77 2) + 1)] (pm_up y1 77 1 (((y1 77 1) + 1) - ((y1 77 1) + 1) / (nI 6) * (nI 6)))) fun r2 y2 => some (0, (pm_up y2 77 2 r2)) := (pm_rn_b d _ (fun pc => false) 400 _ _ _ h).trans rfl
set_option maxRecDepth 100000 in
theorem b_X2_keep_4_9 (d : Nat) (h : pm_Hp) : pm_rn d kX2_keep 9 [.ref 77, .ref 2] [.ref 115] h = pm_bd (pm_ev d 100 [.ref 115, .ref 2] h) fun _ y1 => pm_bd (pm_ev d 298 [.int (nI 6), .int ((y1 77 2) + 1)] (pm_up y1 77 1 (((y1 77 1) + 1) - ((y1 77 1) + 1) / (nI 6) * (nI 6)))) fun r2 y2 => some (0, (pm_up y2 77 2 r2)) := (pm_rn_b d _ (fun pc => false) 400 _ _ _ h).trans rfl
set_option maxRecDepth 100000 in
theorem b_X2_keep_5_9 (d : Nat) (h : pm_Hp) : pm_rn d kX2_keep 9 [.ref 77, .ref 2] [.ref 124] h = pm_bd (pm_ev d 100 [.ref 124, .ref 2] h) fun _ y1 => pm_bd (pm_ev d 298 [.int (nI 6), .int ((y1 77 2) + 1)] (pm_up y1 77 1 (((y1 77 1) + 1) - ((y1 77 1) + 1) / (nI 6) * (nI 6)))) fun r2 y2 => some (0, (pm_up y2 77 2 r2)) := (pm_rn_b d _ (fun pc => false) 400 _ _ _ h).trans rfl
set_option maxRecDepth 100000 in
theorem b_X2_giveBack_0_45 (d : Nat) (h : pm_Hp) (u0 u1 : Value) : pm_rn d kX2_giveBack 45 [u0, u1] [.ref 79, .ref 2] h = pm_bd (pm_ev d 100 [.ref 2, .ref 79] h) fun _ y1 => some (1, y1) := (pm_rn_b d _ (fun pc => false) 400 _ _ _ h).trans rfl
set_option maxRecDepth 100000 in
theorem b_X2_giveBack_1_45 (d : Nat) (h : pm_Hp) (u0 u1 : Value) : pm_rn d kX2_giveBack 45 [u0, u1] [.ref 88, .ref 2] h = pm_bd (pm_ev d 100 [.ref 2, .ref 88] h) fun _ y1 => some (1, y1) := (pm_rn_b d _ (fun pc => false) 400 _ _ _ h).trans rfl
set_option maxRecDepth 100000 in
theorem b_X2_giveBack_2_45 (d : Nat) (h : pm_Hp) (u0 u1 : Value) : pm_rn d kX2_giveBack 45 [u0, u1] [.ref 97, .ref 2] h = pm_bd (pm_ev d 100 [.ref 2, .ref 97] h) fun _ y1 => some (1, y1) := (pm_rn_b d _ (fun pc => false) 400 _ _ _ h).trans rfl
set_option maxRecDepth 100000 in
theorem b_X2_giveBack_3_45 (d : Nat) (h : pm_Hp) (u0 u1 : Value) : pm_rn d kX2_giveBack 45 [u0, u1] [.ref 106, .ref 2] h = pm_bd (pm_ev d 100 [.ref 2, .ref 106] h) fun _ y1 => some (1, y1) := (pm_rn_b d _ (fun pc => false) 400 _ _ _ h).trans rfl
set_option maxRecDepth 100000 in
theorem b_X2_giveBack_4_45 (d : Nat) (h : pm_Hp) (u0 u1 : Value) : pm_rn d kX2_giveBack 45 [u0, u1] [.ref 115, .ref 2] h = pm_bd (pm_ev d 100 [.ref 2, .ref 115] h) fun _ y1 => some (1, y1) := (pm_rn_b d _ (fun pc => false) 400 _ _ _ h).trans rfl
set_option maxRecDepth 100000 in
theorem b_X2_giveBack_5_45 (d : Nat) (h : pm_Hp) (u0 u1 : Value) : pm_rn d kX2_giveBack 45 [u0, u1] [.ref 124, .ref 2] h = pm_bd (pm_ev d 100 [.ref 2, .ref 124] h) fun _ y1 => some (1, y1) := (pm_rn_b d _ (fun pc => false) 400 _ _ _ h).trans rfl
set_option maxRecDepth 100000 in
theorem b_X9_set_3_52 (d : Nat) (h : pm_Hp) (v2 v3 : Int32) (u1 : Value) : pm_rn d kX9_set 52 [.ref 0, u1, .int v2, .int v3] [.ref 3] h = pm_at v2 16 fun j1 => pm_bd (pm_ev d 129 [.ref 0] (pm_up h 3 j1 v3)) fun _ y1 => some (1, y1) := (pm_rn_b d _ (fun pc => false) 400 _ _ _ h).trans rfl
set_option maxRecDepth 100000 in
theorem b_X9_set_4_52 (d : Nat) (h : pm_Hp) (v2 v3 : Int32) (u1 : Value) : pm_rn d kX9_set 52 [.ref 0, u1, .int v2, .int v3] [.ref 4] h = pm_at v2 16 fun j1 => pm_bd (pm_ev d 129 [.ref 0] (pm_up h 4 j1 v3)) fun _ y1 => some (1, y1) := (pm_rn_b d _ (fun pc => false) 400 _ _ _ h).trans rfl
set_option maxRecDepth 100000 in
theorem b_X9_set_5_52 (d : Nat) (h : pm_Hp) (v2 v3 : Int32) (u1 : Value) : pm_rn d kX9_set 52 [.ref 0, u1, .int v2, .int v3] [.ref 5] h = pm_at v2 16 fun j1 => pm_bd (pm_ev d 129 [.ref 0] (pm_up h 5 j1 v3)) fun _ y1 => some (1, y1) := (pm_rn_b d _ (fun pc => false) 400 _ _ _ h).trans rfl
set_option maxRecDepth 100000 in
theorem b_X9_set_12_52 (d : Nat) (h : pm_Hp) (v2 v3 : Int32) (u1 : Value) : pm_rn d kX9_set 52 [.ref 0, u1, .int v2, .int v3] [.ref 12] h = pm_at v2 16 fun j1 => pm_bd (pm_ev d 129 [.ref 0] (pm_up h 12 j1 v3)) fun _ y1 => some (1, y1) := (pm_rn_b d _ (fun pc => false) 400 _ _ _ h).trans rfl
