/-! ONE STEP of the pure machine is one step of the machine -/
section PMCORE
variable {p : Program} {l : Launch} {e : Env} {R : Room} {s : State} {m : MethodId} {args : Array Value} {below : List Frame} {meth : Method} {c : Code} {H : Heap} {locs : List Loc} {cells slots : Nat} {Q : State → Prop}
variable {D : va_G} {c3 : ClassId × ClassId × ClassId} {ad : Nat → Nat} {L : Nat} {xs : Nat → Int32} {A : Nat → Prop} {cc : ByteArray} {nL : Nat} {own : String} {pc : Nat} {sl : Array Slot} {rest : List Value} {h : pm_Hp}
theorem pm_w {w : Cond} (X : pm_X D c3 ad L xs A p s m args c cc nL own) (hw : w ∈ pm_tb) : w.before args s = true := X.1.2.2.2.2 w hw
theorem pm_u0 : ∀ k, k < 3 → u_lay RX0 TX0 k ∈ pm_tb
  | 0, _ => pm_in 513 (by decide +kernel) rfl
  | 1, _ => pm_in 515 (by decide +kernel) rfl
  | 2, _ => pm_in 517 (by decide +kernel) rfl
  | n + 3, h => absurd h (by omega)
theorem pm_u1 : ∀ k, k < 17 → u_lay RX1 TX1 k ∈ pm_tb
  | 0, _ => pm_in 340 (by decide +kernel) rfl
  | 1, _ => pm_in 342 (by decide +kernel) rfl
  | 2, _ => pm_in 344 (by decide +kernel) rfl
  | 3, _ => pm_in 346 (by decide +kernel) rfl
  | 4, _ => pm_in 348 (by decide +kernel) rfl
  | 5, _ => pm_in 350 (by decide +kernel) rfl
  | 6, _ => pm_in 352 (by decide +kernel) rfl
  | 7, _ => pm_in 354 (by decide +kernel) rfl
  | 8, _ => pm_in 356 (by decide +kernel) rfl
  | 9, _ => pm_in 358 (by decide +kernel) rfl
  | 10, _ => pm_in 360 (by decide +kernel) rfl
  | 11, _ => pm_in 362 (by decide +kernel) rfl
  | 12, _ => pm_in 364 (by decide +kernel) rfl
  | 13, _ => pm_in 366 (by decide +kernel) rfl
  | 14, _ => pm_in 368 (by decide +kernel) rfl
  | 15, _ => pm_in 370 (by decide +kernel) rfl
  | 16, _ => pm_in 372 (by decide +kernel) rfl
  | n + 17, h => absurd h (by omega)
theorem pm_u2 : ∀ k, k < 3 → u_lay RX2 TX2 k ∈ pm_tb
  | 0, _ => pm_in 388 (by decide +kernel) rfl
  | 1, _ => pm_in 390 (by decide +kernel) rfl
  | 2, _ => pm_in 392 (by decide +kernel) rfl
  | n + 3, h => absurd h (by omega)
theorem pm_u3 : ∀ k, k < 8 → u_lay RX3 TX3 k ∈ pm_tb
  | 0, _ => pm_in 240 (by decide +kernel) rfl
  | 1, _ => pm_in 242 (by decide +kernel) rfl
  | 2, _ => pm_in 244 (by decide +kernel) rfl
  | 3, _ => pm_in 246 (by decide +kernel) rfl
  | 4, _ => pm_in 248 (by decide +kernel) rfl
  | 5, _ => pm_in 250 (by decide +kernel) rfl
  | 6, _ => pm_in 252 (by decide +kernel) rfl
  | 7, _ => pm_in 254 (by decide +kernel) rfl
  | n + 8, h => absurd h (by omega)
theorem pm_u4 : ∀ k, k < 15 → u_lay RX4 TX4 k ∈ pm_tb
  | 0, _ => pm_in 471 (by decide +kernel) rfl
  | 1, _ => pm_in 473 (by decide +kernel) rfl
  | 2, _ => pm_in 475 (by decide +kernel) rfl
  | 3, _ => pm_in 477 (by decide +kernel) rfl
  | 4, _ => pm_in 479 (by decide +kernel) rfl
  | 5, _ => pm_in 481 (by decide +kernel) rfl
  | 6, _ => pm_in 483 (by decide +kernel) rfl
  | 7, _ => pm_in 485 (by decide +kernel) rfl
  | 8, _ => pm_in 487 (by decide +kernel) rfl
  | 9, _ => pm_in 489 (by decide +kernel) rfl
  | 10, _ => pm_in 491 (by decide +kernel) rfl
  | 11, _ => pm_in 493 (by decide +kernel) rfl
  | 12, _ => pm_in 495 (by decide +kernel) rfl
  | 13, _ => pm_in 497 (by decide +kernel) rfl
  | 14, _ => pm_in 499 (by decide +kernel) rfl
  | n + 15, h => absurd h (by omega)
theorem pm_u5 : ∀ k, k < 11 → u_lay RX5 TX5 k ∈ pm_tb
  | 0, _ => pm_in 421 (by decide +kernel) rfl
  | 1, _ => pm_in 423 (by decide +kernel) rfl
  | 2, _ => pm_in 425 (by decide +kernel) rfl
  | 3, _ => pm_in 427 (by decide +kernel) rfl
  | 4, _ => pm_in 429 (by decide +kernel) rfl
  | 5, _ => pm_in 431 (by decide +kernel) rfl
  | 6, _ => pm_in 433 (by decide +kernel) rfl
  | 7, _ => pm_in 435 (by decide +kernel) rfl
  | 8, _ => pm_in 437 (by decide +kernel) rfl
  | 9, _ => pm_in 439 (by decide +kernel) rfl
  | 10, _ => pm_in 441 (by decide +kernel) rfl
  | n + 11, h => absurd h (by omega)
theorem pm_u6 : ∀ k, k < 6 → u_lay RX6 TX6 k ∈ pm_tb
  | 0, _ => pm_in 286 (by decide +kernel) rfl
  | 1, _ => pm_in 288 (by decide +kernel) rfl
  | 2, _ => pm_in 290 (by decide +kernel) rfl
  | 3, _ => pm_in 292 (by decide +kernel) rfl
  | 4, _ => pm_in 294 (by decide +kernel) rfl
  | 5, _ => pm_in 296 (by decide +kernel) rfl
  | n + 6, h => absurd h (by omega)
theorem pm_u7 : ∀ k, k < 12 → u_lay RX7 TX7 k ∈ pm_tb
  | 0, _ => pm_in 197 (by decide +kernel) rfl
  | 1, _ => pm_in 199 (by decide +kernel) rfl
  | 2, _ => pm_in 201 (by decide +kernel) rfl
  | 3, _ => pm_in 203 (by decide +kernel) rfl
  | 4, _ => pm_in 205 (by decide +kernel) rfl
  | 5, _ => pm_in 207 (by decide +kernel) rfl
  | 6, _ => pm_in 209 (by decide +kernel) rfl
  | 7, _ => pm_in 211 (by decide +kernel) rfl
  | 8, _ => pm_in 213 (by decide +kernel) rfl
  | 9, _ => pm_in 215 (by decide +kernel) rfl
  | 10, _ => pm_in 217 (by decide +kernel) rfl
  | 11, _ => pm_in 219 (by decide +kernel) rfl
  | n + 12, h => absurd h (by omega)
theorem pm_u8 : ∀ k, k < 5 → u_lay RX8 TX8 k ∈ pm_tb
  | 0, _ => pm_in 533 (by decide +kernel) rfl
  | 1, _ => pm_in 535 (by decide +kernel) rfl
  | 2, _ => pm_in 537 (by decide +kernel) rfl
  | 3, _ => pm_in 539 (by decide +kernel) rfl
  | 4, _ => pm_in 541 (by decide +kernel) rfl
  | n + 5, h => absurd h (by omega)
theorem pm_u9 : ∀ k, k < 8 → u_lay RX9 TX9 k ∈ pm_tb
  | 0, _ => pm_in 552 (by decide +kernel) rfl
  | 1, _ => pm_in 554 (by decide +kernel) rfl
  | 2, _ => pm_in 556 (by decide +kernel) rfl
  | 3, _ => pm_in 558 (by decide +kernel) rfl
  | 4, _ => pm_in 560 (by decide +kernel) rfl
  | 5, _ => pm_in 562 (by decide +kernel) rfl
  | 6, _ => pm_in 564 (by decide +kernel) rfl
  | 7, _ => pm_in 566 (by decide +kernel) rfl
  | n + 8, h => absurd h (by omega)
theorem pm_u10 : ∀ k, k < 38 → u_lay RX10 TX10 k ∈ pm_tb
  | 0, _ => pm_in 1352 (by decide +kernel) rfl
  | 1, _ => pm_in 1354 (by decide +kernel) rfl
  | 2, _ => pm_in 1356 (by decide +kernel) rfl
  | 3, _ => pm_in 1358 (by decide +kernel) rfl
  | 4, _ => pm_in 1360 (by decide +kernel) rfl
  | 5, _ => pm_in 1362 (by decide +kernel) rfl
  | 6, _ => pm_in 1364 (by decide +kernel) rfl
  | 7, _ => pm_in 1366 (by decide +kernel) rfl
  | 8, _ => pm_in 1368 (by decide +kernel) rfl
  | 9, _ => pm_in 1370 (by decide +kernel) rfl
  | 10, _ => pm_in 1372 (by decide +kernel) rfl
  | 11, _ => pm_in 1374 (by decide +kernel) rfl
  | 12, _ => pm_in 1376 (by decide +kernel) rfl
  | 13, _ => pm_in 1378 (by decide +kernel) rfl
  | 14, _ => pm_in 1380 (by decide +kernel) rfl
  | 15, _ => pm_in 1382 (by decide +kernel) rfl
  | 16, _ => pm_in 1384 (by decide +kernel) rfl
  | 17, _ => pm_in 1386 (by decide +kernel) rfl
  | 18, _ => pm_in 1388 (by decide +kernel) rfl
  | 19, _ => pm_in 1390 (by decide +kernel) rfl
  | 20, _ => pm_in 1392 (by decide +kernel) rfl
  | 21, _ => pm_in 1394 (by decide +kernel) rfl
  | 22, _ => pm_in 1396 (by decide +kernel) rfl
  | 23, _ => pm_in 1398 (by decide +kernel) rfl
  | 24, _ => pm_in 1400 (by decide +kernel) rfl
  | 25, _ => pm_in 1402 (by decide +kernel) rfl
  | 26, _ => pm_in 1404 (by decide +kernel) rfl
  | 27, _ => pm_in 1406 (by decide +kernel) rfl
  | 28, _ => pm_in 1408 (by decide +kernel) rfl
  | 29, _ => pm_in 1410 (by decide +kernel) rfl
  | 30, _ => pm_in 1412 (by decide +kernel) rfl
  | 31, _ => pm_in 1414 (by decide +kernel) rfl
  | 32, _ => pm_in 1416 (by decide +kernel) rfl
  | 33, _ => pm_in 1418 (by decide +kernel) rfl
  | 34, _ => pm_in 1420 (by decide +kernel) rfl
  | 35, _ => pm_in 1422 (by decide +kernel) rfl
  | 36, _ => pm_in 1424 (by decide +kernel) rfl
  | 37, _ => pm_in 1426 (by decide +kernel) rfl
  | n + 38, h => absurd h (by omega)
theorem pm_uws : ∀ ci, ci ≤ 10 → ∀ w ∈ u_ws (pm_cn ci) (pm_T ci) (pm_ft ci).length, w ∈ pm_tb := by
  intro ci hc w hw
  obtain ⟨k, hk, rfl⟩ := List.mem_map.mp hw
  have hk := List.mem_range.mp hk
  match ci, hc, hk with
  | 0, _, hk => exact pm_u0 k hk
  | 1, _, hk => exact pm_u1 k hk
  | 2, _, hk => exact pm_u2 k hk
  | 3, _, hk => exact pm_u3 k hk
  | 4, _, hk => exact pm_u4 k hk
  | 5, _, hk => exact pm_u5 k hk
  | 6, _, hk => exact pm_u6 k hk
  | 7, _, hk => exact pm_u7 k hk
  | 8, _, hk => exact pm_u8 k hk
  | 9, _, hk => exact pm_u9 k hk
  | 10, _, hk => exact pm_u10 k hk
  | n + 11, hc, _ => omega
theorem pm_fty : ∀ ci, ci ≤ 10 → ∀ k, k < (pm_ft ci).length → (parseFieldDescriptor (pm_T ci k).2.2.1).isSome = true ∧ ((pm_ft ci).getD k 0 = 0 → parseFieldDescriptor (pm_T ci k).2.2.1 = some .int) ∧ ((pm_ft ci).getD k 0 = 1 → parseFieldDescriptor (pm_T ci k).2.2.1 = some .boolean) ∧ ((pm_ft ci).getD k 0 = 0 ∨ (pm_ft ci).getD k 0 = 1 ∨ (pm_ft ci).getD k 0 = 2) := by decide +kernel
theorem pm_fnm : ∀ ci, ci ≤ 10 → ∀ a, a < (pm_ft ci).length → ∀ b, b < (pm_ft ci).length → a ≠ b → (pm_T ci a).2.1 ≠ (pm_T ci b).2.1 := by decide +kernel
theorem pm_getf (X : pm_X D c3 ad L xs A p s m args c cc nL own) (V : pm_V D c3 ad L xs A s h H locs) {k ci fk i : Nat} (hk : (pm_ob k).1 = ci) (hc : ci ≤ 10) (hf : fk < (pm_ft ci).length) (hl : Cond.fieldLink own i (pm_T ci fk).1 (pm_T ci fk).2.1 (pm_T ci fk).2.2.1 ∈ pm_tb) (hdg : decode cc pc = .ok (.getfield i, 3))
    (kk : W p l e R s m args below meth c H locs cells slots Q (F0 m (pc + 3) sl (pm_fld ad h k fk :: rest))) : W p l e R s m args below meth c H locs cells slots Q (F0 m pc sl (.ref (ad k) :: rest)) := by
  have hk5 := pm_ob_lt hk (by omega)
  have hn : (pm_ob k).2.1 = (pm_ft ci).length := by rw [← hk]; exact (pm_ob_len k hk5).1 (by omega)
  refine va_get (D := D) (ci := ci) (C := pm_cn ci) (T := pm_T ci) (N := (pm_ft ci).length) (fs := (List.range (pm_ob k).2.1).map (pm_fld ad h k)) X.1.1 X.1.2.1 X.1.2.2.2.2 (pm_uws ci hc) X.1.2.2.2.1 X.2.1 V.1 k ?_ (pm_cl_at ci hc) fk hf (pm_w X hl) (fun _ h9 => h9) ?_ hdg kk
  · rw [pm_ws_at hk5, pm_cell_o hk hc]
  · rw [hn, List.getElem?_map, List.getElem?_range hf]; rfl
theorem pm_putf (X : pm_X D c3 ad L xs A p s m args c cc nL own) (V : pm_V D c3 ad L xs A s h H locs) {k ci fk i ft : Nat} {v : Int32} (hk : (pm_ob k).1 = ci) (hc : ci ≤ 10) (hf : (pm_ft ci)[fk]? = some ft) (hft : ft ≠ 2) (hl : Cond.fieldLink own i (pm_T ci fk).1 (pm_T ci fk).2.1 (pm_T ci fk).2.2.1 ∈ pm_tb) (hfin : (pm_T ci fk).2.2.2 = false) (hv : ft = 1 → v = 0 ∨ v = 1) (hdg : decode cc pc = .ok (.putfield i, 3))
    (kk : ∀ (H1 : Heap) (locs1 : List Loc), pm_V D c3 ad L xs A s (pm_up h k fk v) H1 locs1 → W p l e R s m args below meth c H1 locs1 cells slots Q (F0 m (pc + 3) sl rest)) : W p l e R s m args below meth c H locs cells slots Q (F0 m pc sl (.int v :: .ref (ad k) :: rest)) := by
  have hk5 := pm_ob_lt hk (by omega)
  have hn : (pm_ob k).2.1 = (pm_ft ci).length := by rw [← hk]; exact (pm_ob_len k hk5).1 (by omega)
  have hlt := (List.getElem?_eq_some_iff.mp hf).1
  have hty : ∀ j, j < (pm_ft ci).length → parseFieldDescriptor (pm_T ci j).2.2.1 = some ((parseFieldDescriptor (pm_T ci j).2.2.1).getD .int) := fun j hj => by
    obtain ⟨t, ht⟩ := Option.isSome_iff_exists.mp (pm_fty ci hc j hj).1
    rw [ht]; rfl
  have hfd : (pm_ft ci).getD fk 0 = ft := by rw [List.getD_eq_getElem?_getD, hf]; rfl
  have key : ∀ ty, parseFieldDescriptor (pm_T ci fk).2.2.1 = some ty → narrow ty (.int v) = .int v → fits ty (.int v) = true → W p l e R s m args below meth c H locs cells slots Q (F0 m pc sl (.int v :: .ref (ad k) :: rest)) := fun ty h1 h2 h3 => by
    refine va_put (D := D) (ci := ci) (v := .int v) (ty := ty) (C := pm_cn ci) (T := pm_T ci) (N := (pm_ft ci).length) (fs := (List.range (pm_ob k).2.1).map (pm_fld ad h k)) X.1.1 X.1.2.1 X.1.2.2.2.2 (pm_uws ci hc) _ hty (pm_fnm ci hc) X.1.2.2.2.1 X.2.1 V.1 (X.2.2.2.2.D h) V.2.1 k ?_ (pm_cl_at ci hc) fk hlt (pm_w X hl) (fun _ h9 => h9) hfin h1 h2 h3 ?_ hdg (fun H1 locs1 hP hD hS => kk H1 locs1 ⟨?_, hS, fun j hj => ?_, ?_⟩)
    · rw [pm_ws_at hk5, pm_cell_o hk hc]
    · rw [List.length_map, List.length_range, hn]; exact hlt
    · rw [pm_fld_set (by rw [hk, hfd]; exact pm_beqF hft), ← pm_cell_o (c3 := c3) (ad := ad) hk hc, pm_ws_set pm_up_ne] at hP
      exact hP
    · rw [pm_up_ne 300 (by omega)]
      exact V.2.2.1 j hj
    · rw [pm_up_ne 301 (by omega)]
      exact V.2.2.2
  obtain ⟨-, f0, f1, f2⟩ := pm_fty ci hc fk hlt
  rw [hfd] at f0 f1 f2
  rcases f2 with e | e | e
  · exact key _ (f0 e) (vp_nar_int v) rfl
  · refine key _ (f1 e) ?_ ?_
    · rcases hv e with rfl | rfl <;> decide
    · rcases hv e with rfl | rfl <;> decide
  · exact absurd e hft
theorem pm_ial (X : pm_X D c3 ad L xs A p s m args c cc nL own) (V : pm_V D c3 ad L xs A s h H locs) {k : Nat} {i : Int32} (hk : (pm_ob k).1 = 11) (hi : ¬ (i < 0 ∨ (pm_ob k).2.1 ≤ i.toNatClampNeg)) (hdg : decode cc pc = .ok (.iaload, 1))
    (kk : W p l e R s m args below meth c H locs cells slots Q (F0 m (pc + 1) sl (.int (h k i.toNatClampNeg) :: rest))) : W p l e R s m args below meth c H locs cells slots Q (F0 m pc sl (.int i :: .ref (ad k) :: rest)) := by
  refine va_iald (D := D) X.1.1 X.1.2.1 X.2.1 V.1 k 0 (cA := c3.1) (n := (pm_ob k).2.1) (f := h k) ?_ rfl hi hdg kk
  rw [pm_ws_at (pm_ob_lt hk (by omega)), pm_cell_11 hk]
theorem pm_ias (X : pm_X D c3 ad L xs A p s m args c cc nL own) (V : pm_V D c3 ad L xs A s h H locs) {k : Nat} {i v : Int32} (hk : (pm_ob k).1 = 11) (hi : ¬ (i < 0 ∨ (pm_ob k).2.1 ≤ i.toNatClampNeg)) (hdg : decode cc pc = .ok (.iastore, 1))
    (kk : ∀ (H1 : Heap) (locs1 : List Loc), pm_V D c3 ad L xs A s (pm_up h k i.toNatClampNeg v) H1 locs1 → W p l e R s m args below meth c H1 locs1 cells slots Q (F0 m (pc + 1) sl rest)) : W p l e R s m args below meth c H locs cells slots Q (F0 m pc sl (.int v :: .int i :: .ref (ad k) :: rest)) := by
  have hk5 := pm_ob_lt hk (by omega)
  refine va_iast (D := D) X.1.1 X.1.2.1 X.2.1 V.1 (X.2.2.2.2.D h) V.2.1 k 0 (cA := c3.1) (n := (pm_ob k).2.1) (f := h k) ?_ rfl hi hdg (fun H1 locs1 hP hD hS => kk H1 locs1 ⟨?_, hS, fun j hj => ?_, ?_⟩)
  · rw [pm_ws_at hk5, pm_cell_11 hk]
  · rw [pm_up_at, ← pm_cell_11 (c3 := c3) (ad := ad) hk, pm_ws_set pm_up_ne] at hP
    exact hP
  · rw [pm_up_ne 300 (by omega)]
    exact V.2.2.1 j hj
  · rw [pm_up_ne 301 (by omega)]
    exact V.2.2.2
theorem pm_alen (X : pm_X D c3 ad L xs A p s m args c cc nL own) (V : pm_V D c3 ad L xs A s h H locs) {k : Nat} (hk : (pm_ob k).1 = 11) (hdg : decode cc pc = .ok (.arraylength, 1))
    (kk : W p l e R s m args below meth c H locs cells slots Q (F0 m (pc + 1) sl (.int (nI (pm_ob k).2.1) :: rest))) : W p l e R s m args below meth c H locs cells slots Q (F0 m pc sl (.ref (ad k) :: rest)) := by
  refine va_alen (D := D) X.1.1 X.1.2.1 X.2.1 V.1 k 0 (cA := c3.1) (x := ((pm_ob k).2.1, .inl (h k))) ?_ (ty := .int) rfl rfl hdg kk
  rw [pm_ws_at (pm_ob_lt hk (by omega)), pm_cell_11 hk]
theorem pm_aal (X : pm_X D c3 ad L xs A p s m args c cc nL own) (V : pm_V D c3 ad L xs A s h H locs) {k : Nat} {i : Int32} (hk : (pm_ob k).1 = 12 ∨ (pm_ob k).1 = 13) (hi : ¬ (i < 0 ∨ (pm_ob k).2.1 ≤ i.toNatClampNeg)) (hdg : decode cc pc = .ok (.aaload, 1))
    (kk : W p l e R s m args below meth c H locs cells slots Q (F0 m (pc + 1) sl (.ref (ad ((pm_ob k).2.2.getD i.toNatClampNeg 0)) :: rest))) : W p l e R s m args below meth c H locs cells slots Q (F0 m pc sl (.int i :: .ref (ad k) :: rest)) := by
  rcases hk with hk | hk
  · refine va_aldq (D := D) X.1.1 X.1.2.1 X.2.1 V.1 k 1 (cA := c3.2.1) (C := RX7) (n := (pm_ob k).2.1) (f := fun j => some (ad ((pm_ob k).2.2.getD j 0))) ?_ rfl hi hdg kk
    rw [pm_ws_at (pm_ob_lt hk (by omega)), pm_cell_12 hk]
  · have hlt : i.toNatClampNeg < (pm_ob k).2.1 := Nat.not_le.mp fun q => hi (Or.inr q)
    have hat := V.1 k _ (pm_ws_at (pm_ob_lt hk (by omega)))
    rw [pm_cell_13 hk] at hat
    exact W.aald (v := .ref (ad ((pm_ob k).2.2.getD i.toNatClampNeg 0))) (ty := .array .int) X.1.1 X.1.2.1 hat ((X.2.1.2 2 (c3.2.2, .array .int) rfl).1 (pm_ob k).2.1 (fun j => va_rf (some (ad ((pm_ob k).2.2.getD j 0))))) rfl (fun q => by cases q) (by show ¬ (i < 0 ∨ (arrV _ _ _).slots.size ≤ _); rw [arrV_size]; exact hi) (by show (arrV _ _ _).slots[_]? = _; rw [arrV_read _ _ hlt]; rfl) rfl rfl hdg kk
theorem pm_sld (X : pm_X D c3 ad L xs A p s m args c cc nL own) (V : pm_V D c3 ad L xs A s h H locs) {i : Int32} (hi : ¬ (i < 0 ∨ (h 301 0).toNatClampNeg ≤ i.toNatClampNeg)) (hdg : decode cc pc = .ok (.iaload, 1))
    (kk : W p l e R s m args below meth c H locs cells slots Q (F0 m (pc + 1) sl (.int (h 300 i.toNatClampNeg) :: rest))) : W p l e R s m args below meth c H locs cells slots Q (F0 m pc sl (.int i :: .ref (ad 300) :: rest)) := by
  rw [V.2.2.2, nI_clamp X.2.2.2.1.2.2.2] at hi
  rw [V.2.2.1 _ (Nat.not_le.mp fun q => hi (Or.inr q))] at kk
  exact va_sld X.1.1 X.1.2.1 X.2.2.2.1.1 X.2.2.2.1.2.1 X.2.2.2.1.2.2.1 V.2.1 hi hdg kk
theorem pm_slen (X : pm_X D c3 ad L xs A p s m args c cc nL own) (V : pm_V D c3 ad L xs A s h H locs) (hdg : decode cc pc = .ok (.arraylength, 1))
    (kk : W p l e R s m args below meth c H locs cells slots Q (F0 m (pc + 1) sl (.int (h 301 0) :: rest))) : W p l e R s m args below meth c H locs cells slots Q (F0 m pc sl (.ref (ad 300) :: rest)) := by
  rw [V.2.2.2] at kk
  exact va_slen X.1.1 X.1.2.1 X.2.2.2.1.1 X.2.2.2.1.2.1 X.2.2.2.1.2.2.1 V.2.1 hdg kk
theorem pm_ldcS (X : pm_X D c3 ad L xs A p s m args c cc nL own) {i oc q : Nat} (ho : own = pm_cn oc) (hq : Nat.ble 400 q = true) (hs : pm_st[q - 400]? = some (oc, i)) (hdg : decode cc pc = .ok (.ldc i, 2))
    (kk : W p l e R s m args below meth c H locs cells slots Q (F0 m (pc + 2) sl (.ref (ad q) :: rest))) : W p l e R s m args below meth c H locs cells slots Q (F0 m pc sl rest) := by
  obtain ⟨tx, ht⟩ := X.2.2.1.2.1 _ _ hs
  have hle := Nat.le_of_ble_eq_true hq
  rw [show 400 + (q - 400) = q by omega] at ht
  have hown := X.1.2.2.2.1
  rw [ho] at hown
  exact va_ldcS X.1.1 X.1.2.1 hown ht hdg kk
theorem pm_gets (X : pm_X D c3 ad L xs A p s m args c cc nL own) (V : pm_V D c3 ad L xs A s h H locs) {i : Nat} (hl : Cond.fieldLink own i (pm_T 20 2).1 (pm_T 20 2).2.1 (pm_T 20 2).2.2.1 ∈ pm_tb) (hdg : decode cc pc = .ok (.getstatic i, 3))
    (kk : W p l e R s m args below meth c H locs cells slots Q (F0 m (pc + 3) sl (.int 1 :: rest))) : W p l e R s m args below meth c H locs cells slots Q (F0 m pc sl rest) :=
  va_gets X.1.1 X.1.2.1 X.2.2.1.2.2.1 V.2.1 X.1.2.2.2.1 (pm_w X hl) (fun _ h9 => h9) hdg kk
theorem pm_getS (X : pm_X D c3 ad L xs A p s m args c cc nL own) (V : pm_V D c3 ad L xs A s h H locs) {k fk i : Nat} (hk : Nat.ble 400 k = true) (hk2 : Nat.ble k 425 = true) (hf : fk = 0 ∨ fk = 1) (hl : Cond.fieldLink own i (pm_T 20 fk).1 (pm_T 20 fk).2.1 (pm_T 20 fk).2.2.1 ∈ pm_tb) (hdg : decode cc pc = .ok (.getfield i, 3))
    (kk : W p l e R s m args below meth c H locs cells slots Q (F0 m (pc + 3) sl ((if fk = 0 then .ref (ad (k + 100)) else .int 0) :: rest))) : W p l e R s m args below meth c H locs cells slots Q (F0 m pc sl (.ref (ad k) :: rest)) := by
  have h1 := Nat.le_of_ble_eq_true hk
  have h2 := Nat.le_of_ble_eq_true hk2
  obtain ⟨g1, g2, g3, g4⟩ := X.2.2.1.1.1 (k - 400) (show k - 400 < 26 by omega)
  dsimp only at g2 g3
  rw [show 400 + (k - 400) = k by omega] at g2 g3
  rw [show 500 + (k - 400) = k + 100 by omega] at g3
  rcases hf with rfl | rfl
  · exact vk_getf X.1.1 X.1.2.1 g3 V.2.1 X.1.2.2.2.1 (pm_w X hl) (fun _ h9 => h9) hdg kk
  · exact vk_getf X.1.1 X.1.2.1 g2 V.2.1 X.1.2.2.2.1 (pm_w X hl) (fun _ h9 => h9) hdg kk
theorem pm_bal (X : pm_X D c3 ad L xs A p s m args c cc nL own) (V : pm_V D c3 ad L xs A s h H locs) {k : Nat} {i : Int32} (hk : Nat.ble 500 k = true) (hk2 : Nat.ble k 525 = true) (hi : ¬ (i < 0 ∨ (lenJS.getD (k - 500) 0) ≤ i.toNatClampNeg)) (hdg : decode cc pc = .ok (.baload, 1))
    (kk : W p l e R s m args below meth c H locs cells slots Q (F0 m (pc + 1) sl (.int ((bytJS.getD (k - 500) []).getD i.toNatClampNeg 0) :: rest))) : W p l e R s m args below meth c H locs cells slots Q (F0 m pc sl (.int i :: .ref (ad k) :: rest)) := by
  have h1 := Nat.le_of_ble_eq_true hk
  have h2 := Nat.le_of_ble_eq_true hk2
  obtain ⟨g1, g2, g3, g4⟩ := X.2.2.1.1.1 (k - 500) (show k - 500 < 26 by omega)
  dsimp only at g4
  rw [show 500 + (k - 500) = k by omega] at g4
  exact va_tb X.1.1 X.1.2.1 g4 V.2.1 hi rfl hdg kk
theorem pm_blen (X : pm_X D c3 ad L xs A p s m args c cc nL own) (V : pm_V D c3 ad L xs A s h H locs) {k : Nat} (hk : Nat.ble 500 k = true) (hk2 : Nat.ble k 525 = true) (hdg : decode cc pc = .ok (.arraylength, 1))
    (kk : W p l e R s m args below meth c H locs cells slots Q (F0 m (pc + 1) sl (.int (nI (lenJS.getD (k - 500) 0)) :: rest))) : W p l e R s m args below meth c H locs cells slots Q (F0 m pc sl (.ref (ad k) :: rest)) := by
  have h1 := Nat.le_of_ble_eq_true hk
  have h2 := Nat.le_of_ble_eq_true hk2
  obtain ⟨g1, g2, g3, g4⟩ := X.2.2.1.1.1 (k - 500) (show k - 500 < 26 by omega)
  dsimp only at g4
  rw [show 500 + (k - 500) = k by omega] at g4
  exact va_tlen X.1.1 X.1.2.1 g4 V.2.1 rfl hdg kk
end PMCORE
