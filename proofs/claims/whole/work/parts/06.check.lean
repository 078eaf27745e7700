
/-- the kinds of a class's fields: 0 int, 1 boolean, 2 a reference -/
def pm_ft (k : Nat) : List Nat := bif Nat.ble k 4 then (bif Nat.ble k 1 then (bif Nat.ble k 0 then (bif Nat.beq k 0 then [2, 0, 0] else []) else (bif Nat.beq k 1 then [2, 2, 2, 2, 2, 2, 2, 2, 2, 2, 2, 0, 0, 0, 0, 2, 2] else [])) else (bif Nat.ble k 2 then (bif Nat.beq k 2 then [2, 0, 0] else []) else (bif Nat.ble k 3 then (bif Nat.beq k 3 then [2, 2, 2, 2, 2, 2, 0, 0] else []) else (bif Nat.beq k 4 then [1, 1, 0, 0, 2, 0, 0, 2, 2, 2, 2, 2, 2, 0, 2] else [])))) else (bif Nat.ble k 7 then (bif Nat.ble k 5 then (bif Nat.beq k 5 then [2, 0, 0, 0, 2, 2, 2, 2, 2, 0, 0] else []) else (bif Nat.ble k 6 then (bif Nat.beq k 6 then [2, 2, 2, 2, 0, 0] else []) else (bif Nat.beq k 7 then [2, 2, 2, 2, 2, 2, 2, 2, 0, 0, 0, 0] else []))) else (bif Nat.ble k 8 then (bif Nat.beq k 8 then [2, 0, 0, 0, 0] else []) else (bif Nat.ble k 9 then (bif Nat.beq k 9 then [2, 2, 2, 2, 2, 2, 2, 1] else []) else (bif Nat.beq k 10 then [2, 2, 2, 0, 1, 2, 2, 2, 2, 2, 2, 2, 0, 0, 0, 0, 0, 0, 0, 0, 0, 0, 0, 0, 0, 0, 0, 0, 0, 2, 2, 2, 0, 1, 0, 0, 2, 2] else []))))
/-- the texts: which entry of which class's pool -/
def pm_st : List (Nat × Nat) := [(5, 91), (5, 79), (10, 161), (10, 163), (10, 165), (10, 167), (10, 169), (10, 171), (10, 173), (10, 139), (10, 141), (10, 143), (10, 145), (10, 150), (10, 152), (10, 154), (10, 156), (10, 118), (10, 124), (10, 126), (10, 128), (10, 130), (10, 132), (10, 134), (10, 135), (10, 137)]
def pm_rk (rt : Option FieldType) : Nat := match rt with
  | none => 0
  | some (.array _) => 2
  | some _ => 1
def pm_ok (oc : Nat) (rt : Option FieldType) (pc len : Nat) (ri : pm_RI) : Bool := match ri with
  | (I, nx, c, xs, ks) => Nat.beq nx (pc + len) && (match I with
    | .iconst v => decide (Int32.ofInt v = c) && Nat.beq len 1
    | .bipush v => decide ((Int8.ofInt v).toInt32 = c) && Nat.beq len 2
    | .sipush v => decide ((Int16.ofInt v).toInt32 = c) && Nat.beq len 3
    | .ldc i => Nat.beq len 2 && (match xs with
      | [] => decide ((oc, i, c) ∈ pm_CT)
      | [q] => Nat.ble 400 q && Nat.ble q 425 && decide (pm_st[q - 400]? = some (oc, i))
      | _ => false)
    | .ldc_w i => Nat.beq len 3 && decide ((oc, i, c) ∈ pm_CT)
    | .iload_n _ => Nat.beq len 1
    | .aload_n _ => Nat.beq len 1
    | .istore_n _ => Nat.beq len 1
    | .astore_n _ => Nat.beq len 1
    | .iload _ => Nat.beq len 2
    | .aload _ => Nat.beq len 2
    | .istore _ => Nat.beq len 2
    | .astore _ => Nat.beq len 2
    | .iinc _ v => decide (Int32.ofInt v = c) && Nat.beq len 3
    | .if_icmp _ f => Nat.beq len 3 && (match xs with
      | [t] => decide ((pc : Int) + f = (t : Int))
      | _ => false)
    | .ifCond _ f => Nat.beq len 3 && (match xs with
      | [t] => decide ((pc : Int) + f = (t : Int))
      | _ => false)
    | .goto f => Nat.beq len 3 && (match xs with
      | [t] => decide ((pc : Int) + f = (t : Int))
      | _ => false)
    | .tableswitch d lo hi offs => (match xs with
      | d1 :: ts => decide ((pc : Int) + d = (d1 : Int)) && decide (ks.map Int32.toInt = (List.range ks.length).map (fun (j : Nat) => lo + (j : Int))) && decide (hi = lo + (ks.length : Int) - 1) && decide (offs.toList.map (fun z => (pc : Int) + z) = ts.map (fun (t : Nat) => (t : Int))) && decide (ks.length = ts.length)
      | _ => false)
    | .lookupswitch d ps => (match xs with
      | d1 :: ts => decide ((pc : Int) + d = (d1 : Int)) && decide (ps.toList.map (fun z => z.1) = ks.map Int32.toInt) && decide (ps.toList.map (fun z => (pc : Int) + z.2) = ts.map (fun (t : Nat) => (t : Int))) && (ps.toList.zip (ps.toList.drop 1)).all (fun (a, next) => a.1 < next.1)
      | _ => false)
    | .getstatic i => Nat.beq len 3 && (match xs with
      | [0] => decide ((oc, i, 20, 2) ∈ pm_FL) && decide (c = 1)
      | _ => false)
    | .getfield i => Nat.beq len 3 && (match xs with
      | [ci, fk, ft] => decide ((oc, i, ci, fk) ∈ pm_FL) && (bif Nat.beq ci 20 then (Nat.beq fk 0 || Nat.beq fk 1) else decide ((pm_ft ci)[fk]? = some ft))
      | _ => false)
    | .putfield i => Nat.beq len 3 && (match xs with
      | [ci, fk, ft] => decide ((oc, i, ci, fk) ∈ pm_FL) && decide ((pm_ft ci)[fk]? = some ft) && (Nat.beq ft 2 || !(pm_T ci fk).2.2.2)
      | _ => false)
    | .invokevirtual i => Nat.beq len 3 && (match xs with
      | [mj, na, rk, ci] => decide ((oc, i, mj) ∈ pm_ML) && Nat.ble (mj + 1) 309 && Nat.beq (pm_m mj).2.2.2.2.2.2.1 0 && Nat.beq na ((pm_m mj).2.2.2.2.2.2.2 + 1) && Nat.beq rk (pm_rk (pm_m mj).2.2.2.1) && Nat.beq ci (pm_m mj).2.2.2.2.2.1 && (Nat.ble ci 10 || Nat.beq ci 20)
      | _ => false)
    | .invokestatic i => Nat.beq len 3 && (match xs with
      | [mj, na, rk, _] => bif Nat.beq rk 3 then Nat.beq oc 9 && Nat.beq i 400 else bif Nat.beq rk 4 then Nat.beq oc 22 && Nat.beq i 9 else (decide ((oc, i, mj) ∈ pm_ML) || decide ((oc, i, mj) ∈ pm_NL)) && Nat.ble (mj + 1) 309 && Nat.beq (pm_m mj).2.2.2.2.2.2.1 1 && Nat.beq na (pm_m mj).2.2.2.2.2.2.2 && Nat.beq rk (pm_rk (pm_m mj).2.2.2.1)
      | _ => false)
    | .ireturn => Nat.beq len 1 && (match xs, rt with
      | [0], some .int => true
      | [1], some .boolean => true
      | [2], some .char => true
      | [3], some .byte => true
      | _, _ => false)
    | .areturn => Nat.beq len 1 && (match rt with
      | some (.array .int) => true
      | _ => false)
    | .return_ => Nat.beq len 1 && (match rt with
      | none => true
      | _ => false)
    | _ => Nat.beq len 1)
def pm_ck (oc : Nat) (rt : Option FieldType) (bs : ByteArray) (cd : Nat → Option pm_RI) (pc : Nat) : Bool := match cd pc with
  | none => true
  | some ri => match decode bs pc with
    | .ok q => decide (q.1 = ri.1) && pm_ok oc rt pc q.2 ri
    | .error _ => false
/-- all rows of a method -/
def pm_good (oc : Nat) (rt : Option FieldType) (bs : ByteArray) (cd : Nat → Option pm_RI) : Prop := ∀ (pc : Nat) (ri : pm_RI), cd pc = some ri → ∃ len, decode bs pc = .ok (ri.1, len) ∧ pm_ok oc rt pc len ri = true
theorem pm_good_of (N : Nat) {oc : Nat} {rt : Option FieldType} {bs : ByteArray} {cd : Nat → Option pm_RI} (h : (List.range N).all (pm_ck oc rt bs cd) = true) (hN : ∀ pc, N ≤ pc → cd pc = none) : pm_good oc rt bs cd := by
  intro pc ri hr
  have hpc : pc < N := by
    rcases Nat.lt_or_ge pc N with q | q
    · exact q
    · rw [hN pc q] at hr
      cases hr
  have h1 := List.all_eq_true.mp h pc (List.mem_range.mpr hpc)
  unfold pm_ck at h1
  rw [hr] at h1
  dsimp only at h1
  cases hd : decode bs pc with
  | error e => rw [hd] at h1; cases h1
  | ok q =>
    rw [hd] at h1
    obtain ⟨I, len⟩ := q
    simp only [Bool.and_eq_true, decide_eq_true_eq] at h1
    obtain ⟨rfl, h2⟩ := h1
    exact ⟨len, rfl, h2⟩
theorem pm_out_of (N pc : Nat) (x : Option pm_RI) (h : N ≤ pc) : (bif Nat.ble N pc then none else x) = none := by rw [Nat.ble_eq_true_of_le h]; rfl

theorem pm_G1 : pm_good 0 (none) cX0_find kX0_find := pm_good_of 118 (by decide +kernel) (fun pc h => pm_out_of 118 pc _ h)
theorem pm_G2 : pm_good 0 (some .boolean) cX0_clash kX0_clash := pm_good_of 53 (by decide +kernel) (fun pc h => pm_out_of 53 pc _ h)
theorem pm_G3 : pm_good 0 (some .int) cX0_worth kX0_worth := pm_good_of 59 (by decide +kernel) (fun pc h => pm_out_of 59 pc _ h)
theorem pm_G5 : pm_good 1 (none) cX1_copyFrom kX1_copyFrom := pm_good_of 154 (by decide +kernel) (fun pc h => pm_out_of 154 pc _ h)
theorem pm_G6 : pm_good 1 (some .boolean) cX1_isThing kX1_isThing := pm_good_of 18 (by decide +kernel) (fun pc h => pm_out_of 18 pc _ h)
theorem pm_G7 : pm_good 1 (some .boolean) cX1_isActor kX1_isActor := pm_good_of 18 (by decide +kernel) (fun pc h => pm_out_of 18 pc _ h)
theorem pm_G8 : pm_good 1 (some .boolean) cX1_isTrunk kX1_isTrunk := pm_good_of 24 (by decide +kernel) (fun pc h => pm_out_of 24 pc _ h)
theorem pm_G9 : pm_good 1 (some .boolean) cX1_isWearable kX1_isWearable := pm_good_of 24 (by decide +kernel) (fun pc h => pm_out_of 24 pc _ h)
theorem pm_G10 : pm_good 1 (some .boolean) cX1_isOfKind kX1_isOfKind := pm_good_of 38 (by decide +kernel) (fun pc h => pm_out_of 38 pc _ h)
theorem pm_G11 : pm_good 1 (some .boolean) cX1_isHolder kX1_isHolder := pm_good_of 35 (by decide +kernel) (fun pc h => pm_out_of 35 pc _ h)
theorem pm_G12 : pm_good 1 (some .boolean) cX1_isSlot kX1_isSlot := pm_good_of 42 (by decide +kernel) (fun pc h => pm_out_of 42 pc _ h)
theorem pm_G13 : pm_good 1 (some .boolean) cX1_canOpen kX1_canOpen := pm_good_of 32 (by decide +kernel) (fun pc h => pm_out_of 32 pc _ h)
theorem pm_G14 : pm_good 1 (some .int) cX1_inSlot kX1_inSlot := pm_good_of 46 (by decide +kernel) (fun pc h => pm_out_of 46 pc _ h)
theorem pm_G15 : pm_good 1 (some .int) cX1_trunkOf kX1_trunkOf := pm_good_of 31 (by decide +kernel) (fun pc h => pm_out_of 31 pc _ h)
theorem pm_G16 : pm_good 1 (some .int) cX1_outermost kX1_outermost := pm_good_of 33 (by decide +kernel) (fun pc h => pm_out_of 33 pc _ h)
theorem pm_G17 : pm_good 1 (some .boolean) cX1_isAway kX1_isAway := pm_good_of 24 (by decide +kernel) (fun pc h => pm_out_of 24 pc _ h)
theorem pm_G18 : pm_good 1 (some .int) cX1_rackAround kX1_rackAround := pm_good_of 26 (by decide +kernel) (fun pc h => pm_out_of 26 pc _ h)
theorem pm_G19 : pm_good 1 (some .int) cX1_trunksAround kX1_trunksAround := pm_good_of 33 (by decide +kernel) (fun pc h => pm_out_of 33 pc _ h)
theorem pm_G20 : pm_good 1 (some .boolean) cX1_isIn kX1_isIn := pm_good_of 46 (by decide +kernel) (fun pc h => pm_out_of 46 pc _ h)
theorem pm_G21 : pm_good 1 (some .int) cX1_countIn kX1_countIn := pm_good_of 51 (by decide +kernel) (fun pc h => pm_out_of 51 pc _ h)
theorem pm_G22 : pm_good 1 (some .int) cX1_depth kX1_depth := pm_good_of 75 (by decide +kernel) (fun pc h => pm_out_of 75 pc _ h)
theorem pm_G23 : pm_good 1 (some .boolean) cX1_hasDepthFor kX1_hasDepthFor := pm_good_of 63 (by decide +kernel) (fun pc h => pm_out_of 63 pc _ h)
theorem pm_G24 : pm_good 1 (none) cX1_moveAside kX1_moveAside := pm_good_of 41 (by decide +kernel) (fun pc h => pm_out_of 41 pc _ h)
theorem pm_G25 : pm_good 1 (some .int) cX1_late kX1_late := pm_good_of 59 (by decide +kernel) (fun pc h => pm_out_of 59 pc _ h)
theorem pm_G26 : pm_good 1 (none) cX1_write kX1_write := pm_good_of 83 (by decide +kernel) (fun pc h => pm_out_of 83 pc _ h)
theorem pm_G27 : pm_good 1 (some .int) cX1_passDay kX1_passDay := pm_good_of 52 (by decide +kernel) (fun pc h => pm_out_of 52 pc _ h)
theorem pm_G28 : pm_good 1 (some .boolean) cX1_useForDay kX1_useForDay := pm_good_of 139 (by decide +kernel) (fun pc h => pm_out_of 139 pc _ h)
theorem pm_G29 : pm_good 1 (some .int) cX1_draw kX1_draw := pm_good_of 42 (by decide +kernel) (fun pc h => pm_out_of 42 pc _ h)
theorem pm_G30 : pm_good 1 (none) cX1_askAbout kX1_askAbout := pm_good_of 101 (by decide +kernel) (fun pc h => pm_out_of 101 pc _ h)
theorem pm_G31 : pm_good 1 (some .int) cX1_price kX1_price := pm_good_of 135 (by decide +kernel) (fun pc h => pm_out_of 135 pc _ h)
theorem pm_G32 : pm_good 1 (none) cX1_sew kX1_sew := pm_good_of 62 (by decide +kernel) (fun pc h => pm_out_of 62 pc _ h)
theorem pm_G33 : pm_good 1 (some .int) cX1_mendPrice kX1_mendPrice := pm_good_of 31 (by decide +kernel) (fun pc h => pm_out_of 31 pc _ h)
theorem pm_G34 : pm_good 1 (none) cX1_priceMending kX1_priceMending := pm_good_of 82 (by decide +kernel) (fun pc h => pm_out_of 82 pc _ h)
theorem pm_G35 : pm_good 1 (some .int) cX1_cheapestToMend kX1_cheapestToMend := pm_good_of 60 (by decide +kernel) (fun pc h => pm_out_of 60 pc _ h)
theorem pm_G36 : pm_good 1 (some .int) cX1_changeMinutes kX1_changeMinutes := pm_good_of 32 (by decide +kernel) (fun pc h => pm_out_of 32 pc _ h)
theorem pm_G37 : pm_good 1 (some .int) cX1_fit kX1_fit := pm_good_of 100 (by decide +kernel) (fun pc h => pm_out_of 100 pc _ h)
theorem pm_G38 : pm_good 1 (some .boolean) cX1_clothes kX1_clothes := pm_good_of 32 (by decide +kernel) (fun pc h => pm_out_of 32 pc _ h)
theorem pm_G39 : pm_good 1 (some .int) cX1_dressedBy kX1_dressedBy := pm_good_of 35 (by decide +kernel) (fun pc h => pm_out_of 35 pc _ h)
theorem pm_G41 : pm_good 2 (none) cX2_keep kX2_keep := pm_good_of 42 (by decide +kernel) (fun pc h => pm_out_of 42 pc _ h)
theorem pm_G42 : pm_good 2 (some .boolean) cX2_giveBack kX2_giveBack := pm_good_of 50 (by decide +kernel) (fun pc h => pm_out_of 50 pc _ h)
theorem pm_G43 : pm_good 2 (none) cX2_clear kX2_clear := pm_good_of 6 (by decide +kernel) (fun pc h => pm_out_of 6 pc _ h)
theorem pm_G45 : pm_good 3 (none) cX3_copyFrom kX3_copyFrom := pm_good_of 72 (by decide +kernel) (fun pc h => pm_out_of 72 pc _ h)
theorem pm_G46 : pm_good 3 (none) cX3_clear kX3_clear := pm_good_of 11 (by decide +kernel) (fun pc h => pm_out_of 11 pc _ h)
theorem pm_G47 : pm_good 3 (none) cX3_emit kX3_emit := pm_good_of 31 (by decide +kernel) (fun pc h => pm_out_of 31 pc _ h)
theorem pm_G48 : pm_good 3 (none) cX3_addLine kX3_addLine := pm_good_of 63 (by decide +kernel) (fun pc h => pm_out_of 63 pc _ h)
theorem pm_G49 : pm_good 3 (some .int) cX3_tell kX3_tell := pm_good_of 99 (by decide +kernel) (fun pc h => pm_out_of 99 pc _ h)
theorem pm_G50 : pm_good 3 (some .int) cX3_run kX3_run := pm_good_of 176 (by decide +kernel) (fun pc h => pm_out_of 176 pc _ h)
theorem pm_G51 : pm_good 3 (some .int) cX3_combine kX3_combine := pm_good_of 141 (by decide +kernel) (fun pc h => pm_out_of 141 pc _ h)
theorem pm_G53 : pm_good 4 (none) cX4_forgetPlan kX4_forgetPlan := pm_good_of 6 (by decide +kernel) (fun pc h => pm_out_of 6 pc _ h)
theorem pm_G54 : pm_good 4 (none) cX4_prepare kX4_prepare := pm_good_of 139 (by decide +kernel) (fun pc h => pm_out_of 139 pc _ h)
theorem pm_G55 : pm_good 4 (none) cX4_findCandidates kX4_findCandidates := pm_good_of 125 (by decide +kernel) (fun pc h => pm_out_of 125 pc _ h)
theorem pm_G56 : pm_good 4 (some .int) cX4_besideAt kX4_besideAt := pm_good_of 12 (by decide +kernel) (fun pc h => pm_out_of 12 pc _ h)
theorem pm_G57 : pm_good 4 (none) cX4_relate kX4_relate := pm_good_of 172 (by decide +kernel) (fun pc h => pm_out_of 172 pc _ h)
theorem pm_G58 : pm_good 4 (some .int) cX4_quickEnough kX4_quickEnough := pm_good_of 99 (by decide +kernel) (fun pc h => pm_out_of 99 pc _ h)
theorem pm_G59 : pm_good 4 (some .int) cX4_handedOver kX4_handedOver := pm_good_of 41 (by decide +kernel) (fun pc h => pm_out_of 41 pc _ h)
theorem pm_G60 : pm_good 4 (some .int) cX4_countChanges kX4_countChanges := pm_good_of 93 (by decide +kernel) (fun pc h => pm_out_of 93 pc _ h)
theorem pm_G61 : pm_good 4 (none) cX4_startSearch kX4_startSearch := pm_good_of 30 (by decide +kernel) (fun pc h => pm_out_of 30 pc _ h)
theorem pm_G62 : pm_good 4 (some .boolean) cX4_searchAll kX4_searchAll := pm_good_of 57 (by decide +kernel) (fun pc h => pm_out_of 57 pc _ h)
theorem pm_G63 : pm_good 4 (none) cX4_search kX4_search := pm_good_of 154 (by decide +kernel) (fun pc h => pm_out_of 154 pc _ h)
theorem pm_G64 : pm_good 4 (some .int) cX4_narrow kX4_narrow := pm_good_of 79 (by decide +kernel) (fun pc h => pm_out_of 79 pc _ h)
theorem pm_G65 : pm_good 4 (some .int) cX4_cheapest kX4_cheapest := pm_good_of 49 (by decide +kernel) (fun pc h => pm_out_of 49 pc _ h)
theorem pm_G66 : pm_good 4 (some .int) cX4_bound kX4_bound := pm_good_of 45 (by decide +kernel) (fun pc h => pm_out_of 45 pc _ h)
theorem pm_G67 : pm_good 4 (some .int) cX4_uses kX4_uses := pm_good_of 36 (by decide +kernel) (fun pc h => pm_out_of 36 pc _ h)
theorem pm_G68 : pm_good 4 (some .int) cX4_instead kX4_instead := pm_good_of 129 (by decide +kernel) (fun pc h => pm_out_of 129 pc _ h)
theorem pm_G69 : pm_good 4 (some .int) cX4_otherwise kX4_otherwise := pm_good_of 54 (by decide +kernel) (fun pc h => pm_out_of 54 pc _ h)
theorem pm_G70 : pm_good 4 (some .boolean) cX4_canSwap kX4_canSwap := pm_good_of 57 (by decide +kernel) (fun pc h => pm_out_of 57 pc _ h)
theorem pm_G71 : pm_good 4 (some .boolean) cX4_isPlan kX4_isPlan := pm_good_of 81 (by decide +kernel) (fun pc h => pm_out_of 81 pc _ h)
theorem pm_G72 : pm_good 4 (some .int) cX4_swapCost kX4_swapCost := pm_good_of 73 (by decide +kernel) (fun pc h => pm_out_of 73 pc _ h)
theorem pm_G74 : pm_good 5 (some .boolean) cX5_hasRoom kX5_hasRoom := pm_good_of 19 (by decide +kernel) (fun pc h => pm_out_of 19 pc _ h)
theorem pm_G75 : pm_good 5 (none) cX5_append kX5_append := pm_good_of 50 (by decide +kernel) (fun pc h => pm_out_of 50 pc _ h)
theorem pm_G76 : pm_good 5 (some .boolean) cX5_start kX5_start := pm_good_of 27 (by decide +kernel) (fun pc h => pm_out_of 27 pc _ h)
theorem pm_G77 : pm_good 5 (none) cX5_scan kX5_scan := pm_good_of 143 (by decide +kernel) (fun pc h => pm_out_of 143 pc _ h)
theorem pm_G78 : pm_good 5 (none) cX5_addToken kX5_addToken := pm_good_of 51 (by decide +kernel) (fun pc h => pm_out_of 51 pc _ h)
theorem pm_G79 : pm_good 5 (some .int) cX5_runEnd kX5_runEnd := pm_good_of 81 (by decide +kernel) (fun pc h => pm_out_of 81 pc _ h)
theorem pm_G80 : pm_good 5 (some .boolean) cX5_isLetter kX5_isLetter := pm_good_of 30 (by decide +kernel) (fun pc h => pm_out_of 30 pc _ h)
theorem pm_G81 : pm_good 5 (some .boolean) cX5_isDigit kX5_isDigit := pm_good_of 18 (by decide +kernel) (fun pc h => pm_out_of 18 pc _ h)
theorem pm_G82 : pm_good 5 (some .int) cX5_number kX5_number := pm_good_of 43 (by decide +kernel) (fun pc h => pm_out_of 43 pc _ h)
theorem pm_G83 : pm_good 5 (some .int) cX5_keyword kX5_keyword := pm_good_of 105 (by decide +kernel) (fun pc h => pm_out_of 105 pc _ h)
theorem pm_G84 : pm_good 5 (some .int) cX5_token kX5_token := pm_good_of 25 (by decide +kernel) (fun pc h => pm_out_of 25 pc _ h)
theorem pm_G85 : pm_good 5 (some .int) cX5_value kX5_value := pm_good_of 25 (by decide +kernel) (fun pc h => pm_out_of 25 pc _ h)
theorem pm_G86 : pm_good 5 (some .boolean) cX5_refuse kX5_refuse := pm_good_of 38 (by decide +kernel) (fun pc h => pm_out_of 38 pc _ h)
theorem pm_G87 : pm_good 5 (some .boolean) cX5_pass kX5_pass := pm_good_of 26 (by decide +kernel) (fun pc h => pm_out_of 26 pc _ h)
theorem pm_G88 : pm_good 5 (some .boolean) cX5_readLaw kX5_readLaw := pm_good_of 208 (by decide +kernel) (fun pc h => pm_out_of 208 pc _ h)
theorem pm_G89 : pm_good 5 (some .boolean) cX5_readEither kX5_readEither := pm_good_of 114 (by decide +kernel) (fun pc h => pm_out_of 114 pc _ h)
theorem pm_G90 : pm_good 5 (none) cX5_emitPending kX5_emitPending := pm_good_of 14 (by decide +kernel) (fun pc h => pm_out_of 14 pc _ h)
theorem pm_G91 : pm_good 5 (some .boolean) cX5_readCondition kX5_readCondition := pm_good_of 191 (by decide +kernel) (fun pc h => pm_out_of 191 pc _ h)
theorem pm_G92 : pm_good 5 (some .boolean) cX5_readSum kX5_readSum := pm_good_of 136 (by decide +kernel) (fun pc h => pm_out_of 136 pc _ h)
theorem pm_G93 : pm_good 5 (some .boolean) cX5_readUnit kX5_readUnit := pm_good_of 117 (by decide +kernel) (fun pc h => pm_out_of 117 pc _ h)
theorem pm_G94 : pm_good 5 (some .boolean) cX5_readScenes kX5_readScenes := pm_good_of 151 (by decide +kernel) (fun pc h => pm_out_of 151 pc _ h)
theorem pm_G95 : pm_good 5 (some .boolean) cX5_readWears kX5_readWears := pm_good_of 233 (by decide +kernel) (fun pc h => pm_out_of 233 pc _ h)
theorem pm_G97 : pm_good 6 (none) cX6_copyFrom kX6_copyFrom := pm_good_of 61 (by decide +kernel) (fun pc h => pm_out_of 61 pc _ h)
theorem pm_G98 : pm_good 6 (none) cX6_clear kX6_clear := pm_good_of 11 (by decide +kernel) (fun pc h => pm_out_of 11 pc _ h)
theorem pm_G100 : pm_good 7 (none) cX7_copyFrom kX7_copyFrom := pm_good_of 121 (by decide +kernel) (fun pc h => pm_out_of 121 pc _ h)
theorem pm_G102 : pm_good 8 (none) cX8_find kX8_find := pm_good_of 59 (by decide +kernel) (fun pc h => pm_out_of 59 pc _ h)
theorem pm_G103 : pm_good 8 (none) cX8_extend kX8_extend := pm_good_of 78 (by decide +kernel) (fun pc h => pm_out_of 78 pc _ h)
theorem pm_G104 : pm_good 8 (none) cX8_consider kX8_consider := pm_good_of 84 (by decide +kernel) (fun pc h => pm_out_of 84 pc _ h)
theorem pm_G106 : pm_good 9 (some .int) cX9_state kX9_state := pm_good_of 28 (by decide +kernel) (fun pc h => pm_out_of 28 pc _ h)
theorem pm_G107 : pm_good 9 (some .int) cX9_thing kX9_thing := pm_good_of 78 (by decide +kernel) (fun pc h => pm_out_of 78 pc _ h)
theorem pm_G108 : pm_good 9 (some .int) cX9_actor kX9_actor := pm_good_of 41 (by decide +kernel) (fun pc h => pm_out_of 41 pc _ h)
theorem pm_G109 : pm_good 9 (some .int) cX9_rack kX9_rack := pm_good_of 67 (by decide +kernel) (fun pc h => pm_out_of 67 pc _ h)
theorem pm_G110 : pm_good 9 (some .boolean) cX9_measure kX9_measure := pm_good_of 110 (by decide +kernel) (fun pc h => pm_out_of 110 pc _ h)
theorem pm_G111 : pm_good 9 (some .boolean) cX9_set kX9_set := pm_good_of 61 (by decide +kernel) (fun pc h => pm_out_of 61 pc _ h)
theorem pm_G112 : pm_good 9 (some .int) cX9_mostToSet kX9_mostToSet := pm_good_of 47 (by decide +kernel) (fun pc h => pm_out_of 47 pc _ h)
theorem pm_G113 : pm_good 9 (some (.array .int)) cX9_rowToSet kX9_rowToSet := pm_good_of 69 (by decide +kernel) (fun pc h => pm_out_of 69 pc _ h)
theorem pm_G114 : pm_good 9 (some .int) cX9_wish kX9_wish := pm_good_of 170 (by decide +kernel) (fun pc h => pm_out_of 170 pc _ h)
theorem pm_G115 : pm_good 9 (some .int) cX9_feed kX9_feed := pm_good_of 62 (by decide +kernel) (fun pc h => pm_out_of 62 pc _ h)
theorem pm_G116 : pm_good 9 (some .boolean) cX9_end kX9_end := pm_good_of 27 (by decide +kernel) (fun pc h => pm_out_of 27 pc _ h)
theorem pm_G117 : pm_good 9 (some .int) cX9_text kX9_text := pm_good_of 153 (by decide +kernel) (fun pc h => pm_out_of 153 pc _ h)
theorem pm_G118 : pm_good 9 (some .int) cX9_fault kX9_fault := pm_good_of 46 (by decide +kernel) (fun pc h => pm_out_of 46 pc _ h)
theorem pm_G119 : pm_good 9 (some .boolean) cX9_put kX9_put := pm_good_of 107 (by decide +kernel) (fun pc h => pm_out_of 107 pc _ h)
theorem pm_G120 : pm_good 9 (some .int) cX9_take kX9_take := pm_good_of 54 (by decide +kernel) (fun pc h => pm_out_of 54 pc _ h)
theorem pm_G121 : pm_good 9 (some .int) cX9_alter kX9_alter := pm_good_of 159 (by decide +kernel) (fun pc h => pm_out_of 159 pc _ h)
theorem pm_G122 : pm_good 9 (some .boolean) cX9_care kX9_care := pm_good_of 138 (by decide +kernel) (fun pc h => pm_out_of 138 pc _ h)
theorem pm_G123 : pm_good 9 (some .int) cX9_hire kX9_hire := pm_good_of 126 (by decide +kernel) (fun pc h => pm_out_of 126 pc _ h)
theorem pm_G124 : pm_good 9 (some .int) cX9_back kX9_back := pm_good_of 151 (by decide +kernel) (fun pc h => pm_out_of 151 pc _ h)
theorem pm_G125 : pm_good 9 (some .int) cX9_days kX9_days := pm_good_of 62 (by decide +kernel) (fun pc h => pm_out_of 62 pc _ h)
theorem pm_G126 : pm_good 9 (some .boolean) cX9_undo kX9_undo := pm_good_of 28 (by decide +kernel) (fun pc h => pm_out_of 28 pc _ h)
theorem pm_G127 : pm_good 9 (some .boolean) cX9_image kX9_image := pm_good_of 48 (by decide +kernel) (fun pc h => pm_out_of 48 pc _ h)
theorem pm_G128 : pm_good 9 (none) cX9_startAct kX9_startAct := pm_good_of 22 (by decide +kernel) (fun pc h => pm_out_of 22 pc _ h)
theorem pm_G129 : pm_good 9 (none) cX9_forgetActs kX9_forgetActs := pm_good_of 15 (by decide +kernel) (fun pc h => pm_out_of 15 pc _ h)
theorem pm_G130 : pm_good 9 (some .int) cX9_of kX9_of := pm_good_of 184 (by decide +kernel) (fun pc h => pm_out_of 184 pc _ h)
theorem pm_G131 : pm_good 9 (some .int) cX9_at kX9_at := pm_good_of 83 (by decide +kernel) (fun pc h => pm_out_of 83 pc _ h)
theorem pm_G132 : pm_good 9 (some .int) cX9_body kX9_body := pm_good_of 36 (by decide +kernel) (fun pc h => pm_out_of 36 pc _ h)
theorem pm_G133 : pm_good 9 (some .int) cX9_slot kX9_slot := pm_good_of 27 (by decide +kernel) (fun pc h => pm_out_of 27 pc _ h)
theorem pm_G134 : pm_good 9 (some .int) cX9_book kX9_book := pm_good_of 45 (by decide +kernel) (fun pc h => pm_out_of 45 pc _ h)
theorem pm_G135 : pm_good 9 (some .int) cX9_look kX9_look := pm_good_of 198 (by decide +kernel) (fun pc h => pm_out_of 198 pc _ h)
theorem pm_G136 : pm_good 9 (some .int) cX9_lookInRow kX9_lookInRow := pm_good_of 76 (by decide +kernel) (fun pc h => pm_out_of 76 pc _ h)
theorem pm_G137 : pm_good 9 (some .int) cX9_wear kX9_wear := pm_good_of 89 (by decide +kernel) (fun pc h => pm_out_of 89 pc _ h)
theorem pm_G138 : pm_good 9 (some .int) cX9_fits kX9_fits := pm_good_of 36 (by decide +kernel) (fun pc h => pm_out_of 36 pc _ h)
theorem pm_G139 : pm_good 9 (some .int) cX9_cost kX9_cost := pm_good_of 55 (by decide +kernel) (fun pc h => pm_out_of 55 pc _ h)
theorem pm_G140 : pm_good 9 (some .int) cX9_suits kX9_suits := pm_good_of 38 (by decide +kernel) (fun pc h => pm_out_of 38 pc _ h)
theorem pm_G141 : pm_good 9 (some .int) cX9_best kX9_best := pm_good_of 114 (by decide +kernel) (fun pc h => pm_out_of 114 pc _ h)
theorem pm_G142 : pm_good 9 (some .int) cX9_dresses kX9_dresses := pm_good_of 56 (by decide +kernel) (fun pc h => pm_out_of 56 pc _ h)
theorem pm_G143 : pm_good 9 (some .int) cX9_alone kX9_alone := pm_good_of 61 (by decide +kernel) (fun pc h => pm_out_of 61 pc _ h)
theorem pm_G144 : pm_good 9 (some .int) cX9_tour kX9_tour := pm_good_of 44 (by decide +kernel) (fun pc h => pm_out_of 44 pc _ h)
theorem pm_G145 : pm_good 9 (some .int) cX9_holds kX9_holds := pm_good_of 32 (by decide +kernel) (fun pc h => pm_out_of 32 pc _ h)
theorem pm_G146 : pm_good 9 (some .int) cX9_path kX9_path := pm_good_of 61 (by decide +kernel) (fun pc h => pm_out_of 61 pc _ h)
theorem pm_G147 : pm_good 9 (some .int) cX9_mends kX9_mends := pm_good_of 143 (by decide +kernel) (fun pc h => pm_out_of 143 pc _ h)
theorem pm_G148 : pm_good 9 (some .int) cX9_earns kX9_earns := pm_good_of 44 (by decide +kernel) (fun pc h => pm_out_of 44 pc _ h)
theorem pm_G149 : pm_good 9 (some .int) cX9_share kX9_share := pm_good_of 56 (by decide +kernel) (fun pc h => pm_out_of 56 pc _ h)
theorem pm_G150 : pm_good 9 (some .int) cX9_plan kX9_plan := pm_good_of 198 (by decide +kernel) (fun pc h => pm_out_of 198 pc _ h)
theorem pm_G151 : pm_good 9 (some .int) cX9_swaps kX9_swaps := pm_good_of 179 (by decide +kernel) (fun pc h => pm_out_of 179 pc _ h)
theorem pm_G152 : pm_good 9 (some .boolean) cX9_isKind kX9_isKind := pm_good_of 15 (by decide +kernel) (fun pc h => pm_out_of 15 pc _ h)
theorem pm_G153 : pm_good 9 (some .boolean) cX9_isMeasure kX9_isMeasure := pm_good_of 15 (by decide +kernel) (fun pc h => pm_out_of 15 pc _ h)
theorem pm_G154 : pm_good 9 (some .boolean) cX9_has kX9_has := pm_good_of 14 (by decide +kernel) (fun pc h => pm_out_of 14 pc _ h)
theorem pm_G155 : pm_good 9 (none) cX9_copyRow kX9_copyRow := pm_good_of 15 (by decide +kernel) (fun pc h => pm_out_of 15 pc _ h)
theorem pm_G157 : pm_good 10 (some .boolean) cX10_isIn kX10_isIn := pm_good_of 16 (by decide +kernel) (fun pc h => pm_out_of 16 pc _ h)
theorem pm_G158 : pm_good 10 (some .int) cX10_lesser kX10_lesser := pm_good_of 11 (by decide +kernel) (fun pc h => pm_out_of 11 pc _ h)
theorem pm_G159 : pm_good 10 (some .int) cX10_greater kX10_greater := pm_good_of 11 (by decide +kernel) (fun pc h => pm_out_of 11 pc _ h)
theorem pm_G160 : pm_good 10 (some .int) cX10_apart kX10_apart := pm_good_of 15 (by decide +kernel) (fun pc h => pm_out_of 15 pc _ h)
theorem pm_G161 : pm_good 10 (some .boolean) cX10_isThing kX10_isThing := pm_good_of 16 (by decide +kernel) (fun pc h => pm_out_of 16 pc _ h)
theorem pm_G162 : pm_good 10 (some .boolean) cX10_isActor kX10_isActor := pm_good_of 16 (by decide +kernel) (fun pc h => pm_out_of 16 pc _ h)
theorem pm_G163 : pm_good 10 (some .int) cX10_of0 kX10_of0 := pm_good_of 14 (by decide +kernel) (fun pc h => pm_out_of 14 pc _ h)
theorem pm_G164 : pm_good 10 (none) cX10_things kX10_things := pm_good_of 15 (by decide +kernel) (fun pc h => pm_out_of 15 pc _ h)
theorem pm_G165 : pm_good 10 (some .int) cX10_bodyOf kX10_bodyOf := pm_good_of 15 (by decide +kernel) (fun pc h => pm_out_of 15 pc _ h)
theorem pm_G166 : pm_good 10 (some .boolean) cX10_isTrunk kX10_isTrunk := pm_good_of 24 (by decide +kernel) (fun pc h => pm_out_of 24 pc _ h)
theorem pm_G167 : pm_good 10 (none) cX10_forgets kX10_forgets := pm_good_of 6 (by decide +kernel) (fun pc h => pm_out_of 6 pc _ h)
theorem pm_G168 : pm_good 10 (some .int) cX10_state kX10_state := pm_good_of 20 (by decide +kernel) (fun pc h => pm_out_of 20 pc _ h)
theorem pm_G169 : pm_good 10 (some .int) cX10_draw kX10_draw := pm_good_of 30 (by decide +kernel) (fun pc h => pm_out_of 30 pc _ h)
theorem pm_G170 : pm_good 10 (some .int) cX10_thing kX10_thing := pm_good_of 122 (by decide +kernel) (fun pc h => pm_out_of 122 pc _ h)
theorem pm_G171 : pm_good 10 (some .int) cX10_actor kX10_actor := pm_good_of 77 (by decide +kernel) (fun pc h => pm_out_of 77 pc _ h)
theorem pm_G172 : pm_good 10 (some .int) cX10_rack kX10_rack := pm_good_of 69 (by decide +kernel) (fun pc h => pm_out_of 69 pc _ h)
theorem pm_G173 : pm_good 10 (some .boolean) cX10_measure kX10_measure := pm_good_of 104 (by decide +kernel) (fun pc h => pm_out_of 104 pc _ h)
theorem pm_G174 : pm_good 10 (some .int) cX10_mostOf kX10_mostOf := pm_good_of 28 (by decide +kernel) (fun pc h => pm_out_of 28 pc _ h)
theorem pm_G175 : pm_good 10 (some .boolean) cX10_set kX10_set := pm_good_of 73 (by decide +kernel) (fun pc h => pm_out_of 73 pc _ h)
theorem pm_G176 : pm_good 10 (some .int) cX10_feed kX10_feed := pm_good_of 120 (by decide +kernel) (fun pc h => pm_out_of 120 pc _ h)
theorem pm_G177 : pm_good 10 (some .boolean) cX10_end kX10_end := pm_good_of 21 (by decide +kernel) (fun pc h => pm_out_of 21 pc _ h)
theorem pm_G178 : pm_good 10 (some .int) cX10_see kX10_see := pm_good_of 19 (by decide +kernel) (fun pc h => pm_out_of 19 pc _ h)
theorem pm_G179 : pm_good 10 (some .boolean) cX10_isLetter kX10_isLetter := pm_good_of 28 (by decide +kernel) (fun pc h => pm_out_of 28 pc _ h)
theorem pm_G180 : pm_good 10 (some .boolean) cX10_isDigit kX10_isDigit := pm_good_of 9 (by decide +kernel) (fun pc h => pm_out_of 9 pc _ h)
theorem pm_G181 : pm_good 10 (some .boolean) cX10_is kX10_is := pm_good_of 69 (by decide +kernel) (fun pc h => pm_out_of 69 pc _ h)
theorem pm_G182 : pm_good 10 (some .int) cX10_asked kX10_asked := pm_good_of 112 (by decide +kernel) (fun pc h => pm_out_of 112 pc _ h)
theorem pm_G183 : pm_good 10 (some .int) cX10_lawWord kX10_lawWord := pm_good_of 128 (by decide +kernel) (fun pc h => pm_out_of 128 pc _ h)
theorem pm_G184 : pm_good 10 (some .int) cX10_sceneWord kX10_sceneWord := pm_good_of 88 (by decide +kernel) (fun pc h => pm_out_of 88 pc _ h)
theorem pm_G185 : pm_good 10 (some .int) cX10_word kX10_word := pm_good_of 20 (by decide +kernel) (fun pc h => pm_out_of 20 pc _ h)
theorem pm_G186 : pm_good 10 (none) cX10_next0 kX10_next0 := pm_good_of 307 (by decide +kernel) (fun pc h => pm_out_of 307 pc _ h)
theorem pm_G187 : pm_good 10 (some .boolean) cX10_bad kX10_bad := pm_good_of 15 (by decide +kernel) (fun pc h => pm_out_of 15 pc _ h)
theorem pm_G188 : pm_good 10 (some .boolean) cX10_need kX10_need := pm_good_of 20 (by decide +kernel) (fun pc h => pm_out_of 20 pc _ h)
theorem pm_G189 : pm_good 10 (none) cX10_lay kX10_lay := pm_good_of 37 (by decide +kernel) (fun pc h => pm_out_of 37 pc _ h)
theorem pm_G190 : pm_good 10 (some .boolean) cX10_opens kX10_opens := pm_good_of 31 (by decide +kernel) (fun pc h => pm_out_of 31 pc _ h)
theorem pm_G191 : pm_good 10 (some .boolean) cX10_sumUp kX10_sumUp := pm_good_of 71 (by decide +kernel) (fun pc h => pm_out_of 71 pc _ h)
theorem pm_G192 : pm_good 10 (some .boolean) cX10_product kX10_product := pm_good_of 117 (by decide +kernel) (fun pc h => pm_out_of 117 pc _ h)
theorem pm_G193 : pm_good 10 (some .boolean) cX10_unit kX10_unit := pm_good_of 59 (by decide +kernel) (fun pc h => pm_out_of 59 pc _ h)
theorem pm_G194 : pm_good 10 (some .boolean) cX10_any kX10_any := pm_good_of 42 (by decide +kernel) (fun pc h => pm_out_of 42 pc _ h)
theorem pm_G195 : pm_good 10 (some .boolean) cX10_every kX10_every := pm_good_of 42 (by decide +kernel) (fun pc h => pm_out_of 42 pc _ h)
theorem pm_G196 : pm_good 10 (some .boolean) cX10_oneTest kX10_oneTest := pm_good_of 180 (by decide +kernel) (fun pc h => pm_out_of 180 pc _ h)
theorem pm_G197 : pm_good 10 (some .boolean) cX10_aLine kX10_aLine := pm_good_of 171 (by decide +kernel) (fun pc h => pm_out_of 171 pc _ h)
theorem pm_G198 : pm_good 10 (some .boolean) cX10_readsLaw kX10_readsLaw := pm_good_of 51 (by decide +kernel) (fun pc h => pm_out_of 51 pc _ h)
theorem pm_G199 : pm_good 10 (some .boolean) cX10_number kX10_number := pm_good_of 46 (by decide +kernel) (fun pc h => pm_out_of 46 pc _ h)
theorem pm_G200 : pm_good 10 (some .boolean) cX10_isInScene kX10_isInScene := pm_good_of 51 (by decide +kernel) (fun pc h => pm_out_of 51 pc _ h)
theorem pm_G201 : pm_good 10 (some .boolean) cX10_aWear kX10_aWear := pm_good_of 167 (by decide +kernel) (fun pc h => pm_out_of 167 pc _ h)
theorem pm_G202 : pm_good 10 (some .boolean) cX10_aScene kX10_aScene := pm_good_of 95 (by decide +kernel) (fun pc h => pm_out_of 95 pc _ h)
theorem pm_G203 : pm_good 10 (some .boolean) cX10_readsScenes kX10_readsScenes := pm_good_of 33 (by decide +kernel) (fun pc h => pm_out_of 33 pc _ h)
theorem pm_G204 : pm_good 10 (some .int) cX10_putsLaw kX10_putsLaw := pm_good_of 173 (by decide +kernel) (fun pc h => pm_out_of 173 pc _ h)
theorem pm_G205 : pm_good 10 (some .int) cX10_putsScenes kX10_putsScenes := pm_good_of 95 (by decide +kernel) (fun pc h => pm_out_of 95 pc _ h)
theorem pm_G206 : pm_good 10 (some .int) cX10_text kX10_text := pm_good_of 107 (by decide +kernel) (fun pc h => pm_out_of 107 pc _ h)
theorem pm_G207 : pm_good 10 (some .int) cX10_fault kX10_fault := pm_good_of 25 (by decide +kernel) (fun pc h => pm_out_of 25 pc _ h)
theorem pm_G208 : pm_good 10 (some .int) cX10_both kX10_both := pm_good_of 105 (by decide +kernel) (fun pc h => pm_out_of 105 pc _ h)
theorem pm_G209 : pm_good 10 (some .int) cX10_comesTo kX10_comesTo := pm_good_of 193 (by decide +kernel) (fun pc h => pm_out_of 193 pc _ h)
theorem pm_G210 : pm_good 10 (some .boolean) cX10_isSo kX10_isSo := pm_good_of 78 (by decide +kernel) (fun pc h => pm_out_of 78 pc _ h)
theorem pm_G211 : pm_good 10 (some .int) cX10_says kX10_says := pm_good_of 101 (by decide +kernel) (fun pc h => pm_out_of 101 pc _ h)
theorem pm_G212 : pm_good 10 (none) cX10_lays kX10_lays := pm_good_of 93 (by decide +kernel) (fun pc h => pm_out_of 93 pc _ h)
theorem pm_G213 : pm_good 10 (some .int) cX10_costOf kX10_costOf := pm_good_of 48 (by decide +kernel) (fun pc h => pm_out_of 48 pc _ h)
theorem pm_G214 : pm_good 10 (some .int) cX10_change kX10_change := pm_good_of 18 (by decide +kernel) (fun pc h => pm_out_of 18 pc _ h)
theorem pm_G215 : pm_good 10 (some .boolean) cX10_isOutItself kX10_isOutItself := pm_good_of 17 (by decide +kernel) (fun pc h => pm_out_of 17 pc _ h)
theorem pm_G216 : pm_good 10 (some .boolean) cX10_isTrunkHolder kX10_isTrunkHolder := pm_good_of 9 (by decide +kernel) (fun pc h => pm_out_of 9 pc _ h)
theorem pm_G217 : pm_good 10 (some .int) cX10_outermost kX10_outermost := pm_good_of 29 (by decide +kernel) (fun pc h => pm_out_of 29 pc _ h)
theorem pm_G218 : pm_good 10 (some .boolean) cX10_isOut kX10_isOut := pm_good_of 10 (by decide +kernel) (fun pc h => pm_out_of 10 pc _ h)
theorem pm_G219 : pm_good 10 (some .boolean) cX10_isInside kX10_isInside := pm_good_of 33 (by decide +kernel) (fun pc h => pm_out_of 33 pc _ h)
theorem pm_G220 : pm_good 10 (some .int) cX10_inside kX10_inside := pm_good_of 41 (by decide +kernel) (fun pc h => pm_out_of 41 pc _ h)
theorem pm_G221 : pm_good 10 (some .int) cX10_deep kX10_deep := pm_good_of 61 (by decide +kernel) (fun pc h => pm_out_of 61 pc _ h)
theorem pm_G222 : pm_good 10 (some .boolean) cX10_isHolder kX10_isHolder := pm_good_of 35 (by decide +kernel) (fun pc h => pm_out_of 35 pc _ h)
theorem pm_G223 : pm_good 10 (some .int) cX10_slotsOf kX10_slotsOf := pm_good_of 21 (by decide +kernel) (fun pc h => pm_out_of 21 pc _ h)
theorem pm_G224 : pm_good 10 (some .boolean) cX10_isSlot kX10_isSlot := pm_good_of 29 (by decide +kernel) (fun pc h => pm_out_of 29 pc _ h)
theorem pm_G225 : pm_good 10 (some .int) cX10_inSlot kX10_inSlot := pm_good_of 45 (by decide +kernel) (fun pc h => pm_out_of 45 pc _ h)
theorem pm_G226 : pm_good 10 (some .boolean) cX10_isHolderOut kX10_isHolderOut := pm_good_of 23 (by decide +kernel) (fun pc h => pm_out_of 23 pc _ h)
theorem pm_G227 : pm_good 10 (some .int) cX10_deepWith kX10_deepWith := pm_good_of 56 (by decide +kernel) (fun pc h => pm_out_of 56 pc _ h)
theorem pm_G228 : pm_good 10 (none) cX10_keeps kX10_keeps := pm_good_of 97 (by decide +kernel) (fun pc h => pm_out_of 97 pc _ h)
theorem pm_G229 : pm_good 10 (some .boolean) cX10_undo kX10_undo := pm_good_of 57 (by decide +kernel) (fun pc h => pm_out_of 57 pc _ h)
theorem pm_G230 : pm_good 10 (none) cX10_notes kX10_notes := pm_good_of 80 (by decide +kernel) (fun pc h => pm_out_of 80 pc _ h)
theorem pm_G231 : pm_good 10 (some .boolean) cX10_put kX10_put := pm_good_of 122 (by decide +kernel) (fun pc h => pm_out_of 122 pc _ h)
theorem pm_G232 : pm_good 10 (none) cX10_laysDown kX10_laysDown := pm_good_of 16 (by decide +kernel) (fun pc h => pm_out_of 16 pc _ h)
theorem pm_G233 : pm_good 10 (some .int) cX10_take kX10_take := pm_good_of 53 (by decide +kernel) (fun pc h => pm_out_of 53 pc _ h)
theorem pm_G234 : pm_good 10 (some .int) cX10_goalOf kX10_goalOf := pm_good_of 38 (by decide +kernel) (fun pc h => pm_out_of 38 pc _ h)
theorem pm_G235 : pm_good 10 (some .int) cX10_costBy kX10_costBy := pm_good_of 82 (by decide +kernel) (fun pc h => pm_out_of 82 pc _ h)
theorem pm_G236 : pm_good 10 (some .int) cX10_fitsTo kX10_fitsTo := pm_good_of 96 (by decide +kernel) (fun pc h => pm_out_of 96 pc _ h)
theorem pm_G237 : pm_good 10 (some .int) cX10_alter kX10_alter := pm_good_of 121 (by decide +kernel) (fun pc h => pm_out_of 121 pc _ h)
theorem pm_G238 : pm_good 10 (some .boolean) cX10_care kX10_care := pm_good_of 105 (by decide +kernel) (fun pc h => pm_out_of 105 pc _ h)
theorem pm_G239 : pm_good 10 (some .int) cX10_hire kX10_hire := pm_good_of 107 (by decide +kernel) (fun pc h => pm_out_of 107 pc _ h)
theorem pm_G240 : pm_good 10 (some .int) cX10_back kX10_back := pm_good_of 140 (by decide +kernel) (fun pc h => pm_out_of 140 pc _ h)
theorem pm_G241 : pm_good 10 (some .boolean) cX10_isWornOut kX10_isWornOut := pm_good_of 125 (by decide +kernel) (fun pc h => pm_out_of 125 pc _ h)
theorem pm_G242 : pm_good 10 (some .int) cX10_days kX10_days := pm_good_of 105 (by decide +kernel) (fun pc h => pm_out_of 105 pc _ h)
theorem pm_G243 : pm_good 10 (some .int) cX10_of kX10_of := pm_good_of 88 (by decide +kernel) (fun pc h => pm_out_of 88 pc _ h)
theorem pm_G244 : pm_good 10 (some .int) cX10_at kX10_at := pm_good_of 57 (by decide +kernel) (fun pc h => pm_out_of 57 pc _ h)
theorem pm_G245 : pm_good 10 (some .int) cX10_body kX10_body := pm_good_of 28 (by decide +kernel) (fun pc h => pm_out_of 28 pc _ h)
theorem pm_G246 : pm_good 10 (some .int) cX10_slot kX10_slot := pm_good_of 21 (by decide +kernel) (fun pc h => pm_out_of 21 pc _ h)
theorem pm_G247 : pm_good 10 (some .int) cX10_book kX10_book := pm_good_of 46 (by decide +kernel) (fun pc h => pm_out_of 46 pc _ h)
theorem pm_G248 : pm_good 10 (some .boolean) cX10_canFit kX10_canFit := pm_good_of 30 (by decide +kernel) (fun pc h => pm_out_of 30 pc _ h)
theorem pm_G249 : pm_good 10 (some .int) cX10_fits kX10_fits := pm_good_of 20 (by decide +kernel) (fun pc h => pm_out_of 20 pc _ h)
theorem pm_G250 : pm_good 10 (some .int) cX10_cost kX10_cost := pm_good_of 29 (by decide +kernel) (fun pc h => pm_out_of 29 pc _ h)
theorem pm_G251 : pm_good 10 (some .boolean) cX10_isOfKind kX10_isOfKind := pm_good_of 36 (by decide +kernel) (fun pc h => pm_out_of 36 pc _ h)
theorem pm_G252 : pm_good 10 (some .int) cX10_suits kX10_suits := pm_good_of 36 (by decide +kernel) (fun pc h => pm_out_of 36 pc _ h)
theorem pm_G253 : pm_good 10 (some .int) cX10_ofWear kX10_ofWear := pm_good_of 15 (by decide +kernel) (fun pc h => pm_out_of 15 pc _ h)
theorem pm_G254 : pm_good 10 (some .int) cX10_wear kX10_wear := pm_good_of 38 (by decide +kernel) (fun pc h => pm_out_of 38 pc _ h)
theorem pm_G255 : pm_good 10 (some .boolean) cX10_canWear kX10_canWear := pm_good_of 76 (by decide +kernel) (fun pc h => pm_out_of 76 pc _ h)
theorem pm_G256 : pm_good 10 (some .int) cX10_leastOf kX10_leastOf := pm_good_of 51 (by decide +kernel) (fun pc h => pm_out_of 51 pc _ h)
theorem pm_G257 : pm_good 10 (none) cX10_laysBounds kX10_laysBounds := pm_good_of 62 (by decide +kernel) (fun pc h => pm_out_of 62 pc _ h)
theorem pm_G258 : pm_good 10 (some .boolean) cX10_goTogether kX10_goTogether := pm_good_of 150 (by decide +kernel) (fun pc h => pm_out_of 150 pc _ h)
theorem pm_G259 : pm_good 10 (none) cX10_plans kX10_plans := pm_good_of 179 (by decide +kernel) (fun pc h => pm_out_of 179 pc _ h)
theorem pm_G260 : pm_good 10 (some .int) cX10_changes kX10_changes := pm_good_of 101 (by decide +kernel) (fun pc h => pm_out_of 101 pc _ h)
theorem pm_G261 : pm_good 10 (some .boolean) cX10_isInstead kX10_isInstead := pm_good_of 89 (by decide +kernel) (fun pc h => pm_out_of 89 pc _ h)
theorem pm_G262 : pm_good 10 (some .int) cX10_instead kX10_instead := pm_good_of 43 (by decide +kernel) (fun pc h => pm_out_of 43 pc _ h)
theorem pm_G263 : pm_good 10 (some .boolean) cX10_laysPlan kX10_laysPlan := pm_good_of 32 (by decide +kernel) (fun pc h => pm_out_of 32 pc _ h)
theorem pm_G264 : pm_good 10 (some .int) cX10_elseOf kX10_elseOf := pm_good_of 43 (by decide +kernel) (fun pc h => pm_out_of 43 pc _ h)
theorem pm_G265 : pm_good 10 (some .int) cX10_uses kX10_uses := pm_good_of 44 (by decide +kernel) (fun pc h => pm_out_of 44 pc _ h)
theorem pm_G266 : pm_good 10 (some .int) cX10_ofPlan kX10_ofPlan := pm_good_of 93 (by decide +kernel) (fun pc h => pm_out_of 93 pc _ h)
theorem pm_G267 : pm_good 10 (some .int) cX10_plan kX10_plan := pm_good_of 148 (by decide +kernel) (fun pc h => pm_out_of 148 pc _ h)
theorem pm_G268 : pm_good 10 (some .int) cX10_best kX10_best := pm_good_of 111 (by decide +kernel) (fun pc h => pm_out_of 111 pc _ h)
theorem pm_G269 : pm_good 10 (some .int) cX10_dresses kX10_dresses := pm_good_of 113 (by decide +kernel) (fun pc h => pm_out_of 113 pc _ h)
theorem pm_G270 : pm_good 10 (some .int) cX10_rackOf kX10_rackOf := pm_good_of 33 (by decide +kernel) (fun pc h => pm_out_of 33 pc _ h)
theorem pm_G271 : pm_good 10 (some .int) cX10_holds kX10_holds := pm_good_of 96 (by decide +kernel) (fun pc h => pm_out_of 96 pc _ h)
theorem pm_G272 : pm_good 10 (some .int) cX10_path kX10_path := pm_good_of 68 (by decide +kernel) (fun pc h => pm_out_of 68 pc _ h)
theorem pm_G273 : pm_good 10 (none) cX10_laysDressed kX10_laysDressed := pm_good_of 90 (by decide +kernel) (fun pc h => pm_out_of 90 pc _ h)
theorem pm_G274 : pm_good 10 (some .int) cX10_count kX10_count := pm_good_of 26 (by decide +kernel) (fun pc h => pm_out_of 26 pc _ h)
theorem pm_G275 : pm_good 10 (some .int) cX10_dressedBy kX10_dressedBy := pm_good_of 62 (by decide +kernel) (fun pc h => pm_out_of 62 pc _ h)
theorem pm_G276 : pm_good 10 (some .int) cX10_tour kX10_tour := pm_good_of 121 (by decide +kernel) (fun pc h => pm_out_of 121 pc _ h)
theorem pm_G277 : pm_good 10 (some .int) cX10_alone kX10_alone := pm_good_of 71 (by decide +kernel) (fun pc h => pm_out_of 71 pc _ h)
theorem pm_G278 : pm_good 10 (some .int) cX10_mendAll kX10_mendAll := pm_good_of 49 (by decide +kernel) (fun pc h => pm_out_of 49 pc _ h)
theorem pm_G279 : pm_good 10 (some .int) cX10_cheapest kX10_cheapest := pm_good_of 71 (by decide +kernel) (fun pc h => pm_out_of 71 pc _ h)
theorem pm_G280 : pm_good 10 (some .int) cX10_mends kX10_mends := pm_good_of 137 (by decide +kernel) (fun pc h => pm_out_of 137 pc _ h)
theorem pm_G281 : pm_good 10 (some .int) cX10_wornAt kX10_wornAt := pm_good_of 35 (by decide +kernel) (fun pc h => pm_out_of 35 pc _ h)
theorem pm_G282 : pm_good 10 (some .boolean) cX10_canSwap kX10_canSwap := pm_good_of 118 (by decide +kernel) (fun pc h => pm_out_of 118 pc _ h)
theorem pm_G283 : pm_good 10 (some .int) cX10_swapCost kX10_swapCost := pm_good_of 48 (by decide +kernel) (fun pc h => pm_out_of 48 pc _ h)
theorem pm_G284 : pm_good 10 (some .int) cX10_swaps kX10_swaps := pm_good_of 155 (by decide +kernel) (fun pc h => pm_out_of 155 pc _ h)
theorem pm_G285 : pm_good 10 (some .int) cX10_wish kX10_wish := pm_good_of 148 (by decide +kernel) (fun pc h => pm_out_of 148 pc _ h)
theorem pm_G286 : pm_good 10 (some .boolean) cX10_areBoth kX10_areBoth := pm_good_of 98 (by decide +kernel) (fun pc h => pm_out_of 98 pc _ h)
theorem pm_G287 : pm_good 10 (some .int) cX10_paysFor kX10_paysFor := pm_good_of 89 (by decide +kernel) (fun pc h => pm_out_of 89 pc _ h)
theorem pm_G288 : pm_good 10 (some .int) cX10_earns kX10_earns := pm_good_of 72 (by decide +kernel) (fun pc h => pm_out_of 72 pc _ h)
theorem pm_G289 : pm_good 10 (some .int) cX10_late kX10_late := pm_good_of 58 (by decide +kernel) (fun pc h => pm_out_of 58 pc _ h)
theorem pm_G290 : pm_good 10 (some .int) cX10_share kX10_share := pm_good_of 51 (by decide +kernel) (fun pc h => pm_out_of 51 pc _ h)
theorem pm_G291 : pm_good 10 (some .boolean) cX10_image kX10_image := pm_good_of 74 (by decide +kernel) (fun pc h => pm_out_of 74 pc _ h)
theorem pm_G292 : pm_good 10 (some .int) cX10_look kX10_look := pm_good_of 256 (by decide +kernel) (fun pc h => pm_out_of 256 pc _ h)
theorem pm_G293 : pm_good 24 (some .int) cJ6_bitCount_0f7a4 kJ6_bitCount_0f7a4 := pm_good_of 53 (by decide +kernel) (fun pc h => pm_out_of 53 pc _ h)
theorem pm_G294 : pm_good 23 (some .int) cJ9_floorDiv_7cf53 kJ9_floorDiv_7cf53 := pm_good_of 23 (by decide +kernel) (fun pc h => pm_out_of 23 pc _ h)
theorem pm_G295 : pm_good 23 (some .int) cJ9_floorMod_7cf53 kJ9_floorMod_7cf53 := pm_good_of 20 (by decide +kernel) (fun pc h => pm_out_of 20 pc _ h)
theorem pm_G296 : pm_good 23 (some .int) cJ9_abs_0f7a4 kJ9_abs_0f7a4 := pm_good_of 11 (by decide +kernel) (fun pc h => pm_out_of 11 pc _ h)
theorem pm_G297 : pm_good 23 (some .int) cJ9_max_7cf53 kJ9_max_7cf53 := pm_good_of 11 (by decide +kernel) (fun pc h => pm_out_of 11 pc _ h)
theorem pm_G298 : pm_good 23 (some .int) cJ9_min_7cf53 kJ9_min_7cf53 := pm_good_of 11 (by decide +kernel) (fun pc h => pm_out_of 11 pc _ h)
theorem pm_G299 : pm_good 20 (some .int) cJ0_length_8abf5 kJ0_length_8abf5 := pm_good_of 11 (by decide +kernel) (fun pc h => pm_out_of 11 pc _ h)
theorem pm_G300 : pm_good 20 (some .char) cJ0_charAt_5068e kJ0_charAt_5068e := pm_good_of 25 (by decide +kernel) (fun pc h => pm_out_of 25 pc _ h)
theorem pm_G301 : pm_good 20 (some .int) cJ0_indexOf_0f7a4 kJ0_indexOf_0f7a4 := pm_good_of 7 (by decide +kernel) (fun pc h => pm_out_of 7 pc _ h)
theorem pm_G302 : pm_good 20 (some .int) cJ0_indexOf_7cf53 kJ0_indexOf_7cf53 := pm_good_of 37 (by decide +kernel) (fun pc h => pm_out_of 37 pc _ h)
theorem pm_G303 : pm_good 20 (some .byte) cJ0_coder_7d493 kJ0_coder_7d493 := pm_good_of 15 (by decide +kernel) (fun pc h => pm_out_of 15 pc _ h)
theorem pm_G304 : pm_good 20 (some .boolean) cJ0_isLatin1_aae02 kJ0_isLatin1_aae02 := pm_good_of 19 (by decide +kernel) (fun pc h => pm_out_of 19 pc _ h)
theorem pm_G305 : pm_good 22 (some .char) cJ1_charAt_3b067 kJ1_charAt_3b067 := pm_good_of 15 (by decide +kernel) (fun pc h => pm_out_of 15 pc _ h)
theorem pm_G306 : pm_good 22 (some .boolean) cJ1_canEncode_9a6ad kJ1_canEncode_9a6ad := pm_good_of 17 (by decide +kernel) (fun pc h => pm_out_of 17 pc _ h)
theorem pm_G307 : pm_good 22 (some .int) cJ1_indexOf_4cfef kJ1_indexOf_4cfef := pm_good_of 37 (by decide +kernel) (fun pc h => pm_out_of 37 pc _ h)
theorem pm_G308 : pm_good 22 (some .int) cJ1_indexOfChar_4cfef kJ1_indexOfChar_4cfef := pm_good_of 33 (by decide +kernel) (fun pc h => pm_out_of 33 pc _ h)
def pm_gd (i : Nat) : Prop := pm_good (pm_m i).2.2.2.2.2.1 (pm_m i).2.2.2.1 (pm_m i).2.1 (pm_m i).2.2.2.2.1
def pm_Gc_0 : List Nat := [1, 2, 3, 5, 6, 7, 8, 9, 10, 11, 12, 13, 14, 15, 16, 17, 18, 19, 20, 21]
theorem pm_Gc_0_ok : ∀ i ∈ pm_Gc_0, pm_gd i := List.forall_mem_cons.mpr ⟨pm_G1, List.forall_mem_cons.mpr ⟨pm_G2, List.forall_mem_cons.mpr ⟨pm_G3, List.forall_mem_cons.mpr ⟨pm_G5, List.forall_mem_cons.mpr ⟨pm_G6, List.forall_mem_cons.mpr ⟨pm_G7, List.forall_mem_cons.mpr ⟨pm_G8, List.forall_mem_cons.mpr ⟨pm_G9, List.forall_mem_cons.mpr ⟨pm_G10, List.forall_mem_cons.mpr ⟨pm_G11, List.forall_mem_cons.mpr ⟨pm_G12, List.forall_mem_cons.mpr ⟨pm_G13, List.forall_mem_cons.mpr ⟨pm_G14, List.forall_mem_cons.mpr ⟨pm_G15, List.forall_mem_cons.mpr ⟨pm_G16, List.forall_mem_cons.mpr ⟨pm_G17, List.forall_mem_cons.mpr ⟨pm_G18, List.forall_mem_cons.mpr ⟨pm_G19, List.forall_mem_cons.mpr ⟨pm_G20, List.forall_mem_cons.mpr ⟨pm_G21, fun _ h => absurd h List.not_mem_nil⟩⟩⟩⟩⟩⟩⟩⟩⟩⟩⟩⟩⟩⟩⟩⟩⟩⟩⟩⟩
def pm_Gc_1 : List Nat := [22, 23, 24, 25, 26, 27, 28, 29, 30, 31, 32, 33, 34, 35, 36, 37, 38, 39, 41, 42]
theorem pm_Gc_1_ok : ∀ i ∈ pm_Gc_1, pm_gd i := List.forall_mem_cons.mpr ⟨pm_G22, List.forall_mem_cons.mpr ⟨pm_G23, List.forall_mem_cons.mpr ⟨pm_G24, List.forall_mem_cons.mpr ⟨pm_G25, List.forall_mem_cons.mpr ⟨pm_G26, List.forall_mem_cons.mpr ⟨pm_G27, List.forall_mem_cons.mpr ⟨pm_G28, List.forall_mem_cons.mpr ⟨pm_G29, List.forall_mem_cons.mpr ⟨pm_G30, List.forall_mem_cons.mpr ⟨pm_G31, List.forall_mem_cons.mpr ⟨pm_G32, List.forall_mem_cons.mpr ⟨pm_G33, List.forall_mem_cons.mpr ⟨pm_G34, List.forall_mem_cons.mpr ⟨pm_G35, List.forall_mem_cons.mpr ⟨pm_G36, List.forall_mem_cons.mpr ⟨pm_G37, List.forall_mem_cons.mpr ⟨pm_G38, List.forall_mem_cons.mpr ⟨pm_G39, List.forall_mem_cons.mpr ⟨pm_G41, List.forall_mem_cons.mpr ⟨pm_G42, fun _ h => absurd h List.not_mem_nil⟩⟩⟩⟩⟩⟩⟩⟩⟩⟩⟩⟩⟩⟩⟩⟩⟩⟩⟩⟩
def pm_Gc_2 : List Nat := [43, 45, 46, 47, 48, 49, 50, 51, 53, 54, 55, 56, 57, 58, 59, 60, 61, 62, 63, 64]
theorem pm_Gc_2_ok : ∀ i ∈ pm_Gc_2, pm_gd i := List.forall_mem_cons.mpr ⟨pm_G43, List.forall_mem_cons.mpr ⟨pm_G45, List.forall_mem_cons.mpr ⟨pm_G46, List.forall_mem_cons.mpr ⟨pm_G47, List.forall_mem_cons.mpr ⟨pm_G48, List.forall_mem_cons.mpr ⟨pm_G49, List.forall_mem_cons.mpr ⟨pm_G50, List.forall_mem_cons.mpr ⟨pm_G51, List.forall_mem_cons.mpr ⟨pm_G53, List.forall_mem_cons.mpr ⟨pm_G54, List.forall_mem_cons.mpr ⟨pm_G55, List.forall_mem_cons.mpr ⟨pm_G56, List.forall_mem_cons.mpr ⟨pm_G57, List.forall_mem_cons.mpr ⟨pm_G58, List.forall_mem_cons.mpr ⟨pm_G59, List.forall_mem_cons.mpr ⟨pm_G60, List.forall_mem_cons.mpr ⟨pm_G61, List.forall_mem_cons.mpr ⟨pm_G62, List.forall_mem_cons.mpr ⟨pm_G63, List.forall_mem_cons.mpr ⟨pm_G64, fun _ h => absurd h List.not_mem_nil⟩⟩⟩⟩⟩⟩⟩⟩⟩⟩⟩⟩⟩⟩⟩⟩⟩⟩⟩⟩
def pm_Gc_3 : List Nat := [65, 66, 67, 68, 69, 70, 71, 72, 74, 75, 76, 77, 78, 79, 80, 81, 82, 83, 84, 85]
theorem pm_Gc_3_ok : ∀ i ∈ pm_Gc_3, pm_gd i := List.forall_mem_cons.mpr ⟨pm_G65, List.forall_mem_cons.mpr ⟨pm_G66, List.forall_mem_cons.mpr ⟨pm_G67, List.forall_mem_cons.mpr ⟨pm_G68, List.forall_mem_cons.mpr ⟨pm_G69, List.forall_mem_cons.mpr ⟨pm_G70, List.forall_mem_cons.mpr ⟨pm_G71, List.forall_mem_cons.mpr ⟨pm_G72, List.forall_mem_cons.mpr ⟨pm_G74, List.forall_mem_cons.mpr ⟨pm_G75, List.forall_mem_cons.mpr ⟨pm_G76, List.forall_mem_cons.mpr ⟨pm_G77, List.forall_mem_cons.mpr ⟨pm_G78, List.forall_mem_cons.mpr ⟨pm_G79, List.forall_mem_cons.mpr ⟨pm_G80, List.forall_mem_cons.mpr ⟨pm_G81, List.forall_mem_cons.mpr ⟨pm_G82, List.forall_mem_cons.mpr ⟨pm_G83, List.forall_mem_cons.mpr ⟨pm_G84, List.forall_mem_cons.mpr ⟨pm_G85, fun _ h => absurd h List.not_mem_nil⟩⟩⟩⟩⟩⟩⟩⟩⟩⟩⟩⟩⟩⟩⟩⟩⟩⟩⟩⟩
def pm_Gc_4 : List Nat := [86, 87, 88, 89, 90, 91, 92, 93, 94, 95, 97, 98, 100, 102, 103, 104, 106, 107, 108, 109]
theorem pm_Gc_4_ok : ∀ i ∈ pm_Gc_4, pm_gd i := List.forall_mem_cons.mpr ⟨pm_G86, List.forall_mem_cons.mpr ⟨pm_G87, List.forall_mem_cons.mpr ⟨pm_G88, List.forall_mem_cons.mpr ⟨pm_G89, List.forall_mem_cons.mpr ⟨pm_G90, List.forall_mem_cons.mpr ⟨pm_G91, List.forall_mem_cons.mpr ⟨pm_G92, List.forall_mem_cons.mpr ⟨pm_G93, List.forall_mem_cons.mpr ⟨pm_G94, List.forall_mem_cons.mpr ⟨pm_G95, List.forall_mem_cons.mpr ⟨pm_G97, List.forall_mem_cons.mpr ⟨pm_G98, List.forall_mem_cons.mpr ⟨pm_G100, List.forall_mem_cons.mpr ⟨pm_G102, List.forall_mem_cons.mpr ⟨pm_G103, List.forall_mem_cons.mpr ⟨pm_G104, List.forall_mem_cons.mpr ⟨pm_G106, List.forall_mem_cons.mpr ⟨pm_G107, List.forall_mem_cons.mpr ⟨pm_G108, List.forall_mem_cons.mpr ⟨pm_G109, fun _ h => absurd h List.not_mem_nil⟩⟩⟩⟩⟩⟩⟩⟩⟩⟩⟩⟩⟩⟩⟩⟩⟩⟩⟩⟩
def pm_Gc_5 : List Nat := [110, 111, 112, 113, 114, 115, 116, 117, 118, 119, 120, 121, 122, 123, 124, 125, 126, 127, 128, 129]
theorem pm_Gc_5_ok : ∀ i ∈ pm_Gc_5, pm_gd i := List.forall_mem_cons.mpr ⟨pm_G110, List.forall_mem_cons.mpr ⟨pm_G111, List.forall_mem_cons.mpr ⟨pm_G112, List.forall_mem_cons.mpr ⟨pm_G113, List.forall_mem_cons.mpr ⟨pm_G114, List.forall_mem_cons.mpr ⟨pm_G115, List.forall_mem_cons.mpr ⟨pm_G116, List.forall_mem_cons.mpr ⟨pm_G117, List.forall_mem_cons.mpr ⟨pm_G118, List.forall_mem_cons.mpr ⟨pm_G119, List.forall_mem_cons.mpr ⟨pm_G120, List.forall_mem_cons.mpr ⟨pm_G121, List.forall_mem_cons.mpr ⟨pm_G122, List.forall_mem_cons.mpr ⟨pm_G123, List.forall_mem_cons.mpr ⟨pm_G124, List.forall_mem_cons.mpr ⟨pm_G125, List.forall_mem_cons.mpr ⟨pm_G126, List.forall_mem_cons.mpr ⟨pm_G127, List.forall_mem_cons.mpr ⟨pm_G128, List.forall_mem_cons.mpr ⟨pm_G129, fun _ h => absurd h List.not_mem_nil⟩⟩⟩⟩⟩⟩⟩⟩⟩⟩⟩⟩⟩⟩⟩⟩⟩⟩⟩⟩
def pm_Gc_6 : List Nat := [130, 131, 132, 133, 134, 135, 136, 137, 138, 139, 140, 141, 142, 143, 144, 145, 146, 147, 148, 149]
theorem pm_Gc_6_ok : ∀ i ∈ pm_Gc_6, pm_gd i := List.forall_mem_cons.mpr ⟨pm_G130, List.forall_mem_cons.mpr ⟨pm_G131, List.forall_mem_cons.mpr ⟨pm_G132, List.forall_mem_cons.mpr ⟨pm_G133, List.forall_mem_cons.mpr ⟨pm_G134, List.forall_mem_cons.mpr ⟨pm_G135, List.forall_mem_cons.mpr ⟨pm_G136, List.forall_mem_cons.mpr ⟨pm_G137, List.forall_mem_cons.mpr ⟨pm_G138, List.forall_mem_cons.mpr ⟨pm_G139, List.forall_mem_cons.mpr ⟨pm_G140, List.forall_mem_cons.mpr ⟨pm_G141, List.forall_mem_cons.mpr ⟨pm_G142, List.forall_mem_cons.mpr ⟨pm_G143, List.forall_mem_cons.mpr ⟨pm_G144, List.forall_mem_cons.mpr ⟨pm_G145, List.forall_mem_cons.mpr ⟨pm_G146, List.forall_mem_cons.mpr ⟨pm_G147, List.forall_mem_cons.mpr ⟨pm_G148, List.forall_mem_cons.mpr ⟨pm_G149, fun _ h => absurd h List.not_mem_nil⟩⟩⟩⟩⟩⟩⟩⟩⟩⟩⟩⟩⟩⟩⟩⟩⟩⟩⟩⟩
def pm_Gc_7 : List Nat := [150, 151, 152, 153, 154, 155, 157, 158, 159, 160, 161, 162, 163, 164, 165, 166, 167, 168, 169, 170]
theorem pm_Gc_7_ok : ∀ i ∈ pm_Gc_7, pm_gd i := List.forall_mem_cons.mpr ⟨pm_G150, List.forall_mem_cons.mpr ⟨pm_G151, List.forall_mem_cons.mpr ⟨pm_G152, List.forall_mem_cons.mpr ⟨pm_G153, List.forall_mem_cons.mpr ⟨pm_G154, List.forall_mem_cons.mpr ⟨pm_G155, List.forall_mem_cons.mpr ⟨pm_G157, List.forall_mem_cons.mpr ⟨pm_G158, List.forall_mem_cons.mpr ⟨pm_G159, List.forall_mem_cons.mpr ⟨pm_G160, List.forall_mem_cons.mpr ⟨pm_G161, List.forall_mem_cons.mpr ⟨pm_G162, List.forall_mem_cons.mpr ⟨pm_G163, List.forall_mem_cons.mpr ⟨pm_G164, List.forall_mem_cons.mpr ⟨pm_G165, List.forall_mem_cons.mpr ⟨pm_G166, List.forall_mem_cons.mpr ⟨pm_G167, List.forall_mem_cons.mpr ⟨pm_G168, List.forall_mem_cons.mpr ⟨pm_G169, List.forall_mem_cons.mpr ⟨pm_G170, fun _ h => absurd h List.not_mem_nil⟩⟩⟩⟩⟩⟩⟩⟩⟩⟩⟩⟩⟩⟩⟩⟩⟩⟩⟩⟩
def pm_Gc_8 : List Nat := [171, 172, 173, 174, 175, 176, 177, 178, 179, 180, 181, 182, 183, 184, 185, 186, 187, 188, 189, 190]
theorem pm_Gc_8_ok : ∀ i ∈ pm_Gc_8, pm_gd i := List.forall_mem_cons.mpr ⟨pm_G171, List.forall_mem_cons.mpr ⟨pm_G172, List.forall_mem_cons.mpr ⟨pm_G173, List.forall_mem_cons.mpr ⟨pm_G174, List.forall_mem_cons.mpr ⟨pm_G175, List.forall_mem_cons.mpr ⟨pm_G176, List.forall_mem_cons.mpr ⟨pm_G177, List.forall_mem_cons.mpr ⟨pm_G178, List.forall_mem_cons.mpr ⟨pm_G179, List.forall_mem_cons.mpr ⟨pm_G180, List.forall_mem_cons.mpr ⟨pm_G181, List.forall_mem_cons.mpr ⟨pm_G182, List.forall_mem_cons.mpr ⟨pm_G183, List.forall_mem_cons.mpr ⟨pm_G184, List.forall_mem_cons.mpr ⟨pm_G185, List.forall_mem_cons.mpr ⟨pm_G186, List.forall_mem_cons.mpr ⟨pm_G187, List.forall_mem_cons.mpr ⟨pm_G188, List.forall_mem_cons.mpr ⟨pm_G189, List.forall_mem_cons.mpr ⟨pm_G190, fun _ h => absurd h List.not_mem_nil⟩⟩⟩⟩⟩⟩⟩⟩⟩⟩⟩⟩⟩⟩⟩⟩⟩⟩⟩⟩
def pm_Gc_9 : List Nat := [191, 192, 193, 194, 195, 196, 197, 198, 199, 200, 201, 202, 203, 204, 205, 206, 207, 208, 209, 210]
theorem pm_Gc_9_ok : ∀ i ∈ pm_Gc_9, pm_gd i := List.forall_mem_cons.mpr ⟨pm_G191, List.forall_mem_cons.mpr ⟨pm_G192, List.forall_mem_cons.mpr ⟨pm_G193, List.forall_mem_cons.mpr ⟨pm_G194, List.forall_mem_cons.mpr ⟨pm_G195, List.forall_mem_cons.mpr ⟨pm_G196, List.forall_mem_cons.mpr ⟨pm_G197, List.forall_mem_cons.mpr ⟨pm_G198, List.forall_mem_cons.mpr ⟨pm_G199, List.forall_mem_cons.mpr ⟨pm_G200, List.forall_mem_cons.mpr ⟨pm_G201, List.forall_mem_cons.mpr ⟨pm_G202, List.forall_mem_cons.mpr ⟨pm_G203, List.forall_mem_cons.mpr ⟨pm_G204, List.forall_mem_cons.mpr ⟨pm_G205, List.forall_mem_cons.mpr ⟨pm_G206, List.forall_mem_cons.mpr ⟨pm_G207, List.forall_mem_cons.mpr ⟨pm_G208, List.forall_mem_cons.mpr ⟨pm_G209, List.forall_mem_cons.mpr ⟨pm_G210, fun _ h => absurd h List.not_mem_nil⟩⟩⟩⟩⟩⟩⟩⟩⟩⟩⟩⟩⟩⟩⟩⟩⟩⟩⟩⟩
def pm_Gc_10 : List Nat := [211, 212, 213, 214, 215, 216, 217, 218, 219, 220, 221, 222, 223, 224, 225, 226, 227, 228, 229, 230]
theorem pm_Gc_10_ok : ∀ i ∈ pm_Gc_10, pm_gd i := List.forall_mem_cons.mpr ⟨pm_G211, List.forall_mem_cons.mpr ⟨pm_G212, List.forall_mem_cons.mpr ⟨pm_G213, List.forall_mem_cons.mpr ⟨pm_G214, List.forall_mem_cons.mpr ⟨pm_G215, List.forall_mem_cons.mpr ⟨pm_G216, List.forall_mem_cons.mpr ⟨pm_G217, List.forall_mem_cons.mpr ⟨pm_G218, List.forall_mem_cons.mpr ⟨pm_G219, List.forall_mem_cons.mpr ⟨pm_G220, List.forall_mem_cons.mpr ⟨pm_G221, List.forall_mem_cons.mpr ⟨pm_G222, List.forall_mem_cons.mpr ⟨pm_G223, List.forall_mem_cons.mpr ⟨pm_G224, List.forall_mem_cons.mpr ⟨pm_G225, List.forall_mem_cons.mpr ⟨pm_G226, List.forall_mem_cons.mpr ⟨pm_G227, List.forall_mem_cons.mpr ⟨pm_G228, List.forall_mem_cons.mpr ⟨pm_G229, List.forall_mem_cons.mpr ⟨pm_G230, fun _ h => absurd h List.not_mem_nil⟩⟩⟩⟩⟩⟩⟩⟩⟩⟩⟩⟩⟩⟩⟩⟩⟩⟩⟩⟩
def pm_Gc_11 : List Nat := [231, 232, 233, 234, 235, 236, 237, 238, 239, 240, 241, 242, 243, 244, 245, 246, 247, 248, 249, 250]
theorem pm_Gc_11_ok : ∀ i ∈ pm_Gc_11, pm_gd i := List.forall_mem_cons.mpr ⟨pm_G231, List.forall_mem_cons.mpr ⟨pm_G232, List.forall_mem_cons.mpr ⟨pm_G233, List.forall_mem_cons.mpr ⟨pm_G234, List.forall_mem_cons.mpr ⟨pm_G235, List.forall_mem_cons.mpr ⟨pm_G236, List.forall_mem_cons.mpr ⟨pm_G237, List.forall_mem_cons.mpr ⟨pm_G238, List.forall_mem_cons.mpr ⟨pm_G239, List.forall_mem_cons.mpr ⟨pm_G240, List.forall_mem_cons.mpr ⟨pm_G241, List.forall_mem_cons.mpr ⟨pm_G242, List.forall_mem_cons.mpr ⟨pm_G243, List.forall_mem_cons.mpr ⟨pm_G244, List.forall_mem_cons.mpr ⟨pm_G245, List.forall_mem_cons.mpr ⟨pm_G246, List.forall_mem_cons.mpr ⟨pm_G247, List.forall_mem_cons.mpr ⟨pm_G248, List.forall_mem_cons.mpr ⟨pm_G249, List.forall_mem_cons.mpr ⟨pm_G250, fun _ h => absurd h List.not_mem_nil⟩⟩⟩⟩⟩⟩⟩⟩⟩⟩⟩⟩⟩⟩⟩⟩⟩⟩⟩⟩
def pm_Gc_12 : List Nat := [251, 252, 253, 254, 255, 256, 257, 258, 259, 260, 261, 262, 263, 264, 265, 266, 267, 268, 269, 270]
theorem pm_Gc_12_ok : ∀ i ∈ pm_Gc_12, pm_gd i := List.forall_mem_cons.mpr ⟨pm_G251, List.forall_mem_cons.mpr ⟨pm_G252, List.forall_mem_cons.mpr ⟨pm_G253, List.forall_mem_cons.mpr ⟨pm_G254, List.forall_mem_cons.mpr ⟨pm_G255, List.forall_mem_cons.mpr ⟨pm_G256, List.forall_mem_cons.mpr ⟨pm_G257, List.forall_mem_cons.mpr ⟨pm_G258, List.forall_mem_cons.mpr ⟨pm_G259, List.forall_mem_cons.mpr ⟨pm_G260, List.forall_mem_cons.mpr ⟨pm_G261, List.forall_mem_cons.mpr ⟨pm_G262, List.forall_mem_cons.mpr ⟨pm_G263, List.forall_mem_cons.mpr ⟨pm_G264, List.forall_mem_cons.mpr ⟨pm_G265, List.forall_mem_cons.mpr ⟨pm_G266, List.forall_mem_cons.mpr ⟨pm_G267, List.forall_mem_cons.mpr ⟨pm_G268, List.forall_mem_cons.mpr ⟨pm_G269, List.forall_mem_cons.mpr ⟨pm_G270, fun _ h => absurd h List.not_mem_nil⟩⟩⟩⟩⟩⟩⟩⟩⟩⟩⟩⟩⟩⟩⟩⟩⟩⟩⟩⟩
def pm_Gc_13 : List Nat := [271, 272, 273, 274, 275, 276, 277, 278, 279, 280, 281, 282, 283, 284, 285, 286, 287, 288, 289, 290]
theorem pm_Gc_13_ok : ∀ i ∈ pm_Gc_13, pm_gd i := List.forall_mem_cons.mpr ⟨pm_G271, List.forall_mem_cons.mpr ⟨pm_G272, List.forall_mem_cons.mpr ⟨pm_G273, List.forall_mem_cons.mpr ⟨pm_G274, List.forall_mem_cons.mpr ⟨pm_G275, List.forall_mem_cons.mpr ⟨pm_G276, List.forall_mem_cons.mpr ⟨pm_G277, List.forall_mem_cons.mpr ⟨pm_G278, List.forall_mem_cons.mpr ⟨pm_G279, List.forall_mem_cons.mpr ⟨pm_G280, List.forall_mem_cons.mpr ⟨pm_G281, List.forall_mem_cons.mpr ⟨pm_G282, List.forall_mem_cons.mpr ⟨pm_G283, List.forall_mem_cons.mpr ⟨pm_G284, List.forall_mem_cons.mpr ⟨pm_G285, List.forall_mem_cons.mpr ⟨pm_G286, List.forall_mem_cons.mpr ⟨pm_G287, List.forall_mem_cons.mpr ⟨pm_G288, List.forall_mem_cons.mpr ⟨pm_G289, List.forall_mem_cons.mpr ⟨pm_G290, fun _ h => absurd h List.not_mem_nil⟩⟩⟩⟩⟩⟩⟩⟩⟩⟩⟩⟩⟩⟩⟩⟩⟩⟩⟩⟩
def pm_Gc_14 : List Nat := [291, 292, 293, 294, 295, 296, 297, 298, 299, 300, 301, 302, 303, 304, 305, 306, 307, 308]
theorem pm_Gc_14_ok : ∀ i ∈ pm_Gc_14, pm_gd i := List.forall_mem_cons.mpr ⟨pm_G291, List.forall_mem_cons.mpr ⟨pm_G292, List.forall_mem_cons.mpr ⟨pm_G293, List.forall_mem_cons.mpr ⟨pm_G294, List.forall_mem_cons.mpr ⟨pm_G295, List.forall_mem_cons.mpr ⟨pm_G296, List.forall_mem_cons.mpr ⟨pm_G297, List.forall_mem_cons.mpr ⟨pm_G298, List.forall_mem_cons.mpr ⟨pm_G299, List.forall_mem_cons.mpr ⟨pm_G300, List.forall_mem_cons.mpr ⟨pm_G301, List.forall_mem_cons.mpr ⟨pm_G302, List.forall_mem_cons.mpr ⟨pm_G303, List.forall_mem_cons.mpr ⟨pm_G304, List.forall_mem_cons.mpr ⟨pm_G305, List.forall_mem_cons.mpr ⟨pm_G306, List.forall_mem_cons.mpr ⟨pm_G307, List.forall_mem_cons.mpr ⟨pm_G308, fun _ h => absurd h List.not_mem_nil⟩⟩⟩⟩⟩⟩⟩⟩⟩⟩⟩⟩⟩⟩⟩⟩⟩⟩
def pm_Gl : List Nat := pm_Gc_0 ++ (pm_Gc_1 ++ (pm_Gc_2 ++ (pm_Gc_3 ++ (pm_Gc_4 ++ (pm_Gc_5 ++ (pm_Gc_6 ++ (pm_Gc_7 ++ (pm_Gc_8 ++ (pm_Gc_9 ++ (pm_Gc_10 ++ (pm_Gc_11 ++ (pm_Gc_12 ++ (pm_Gc_13 ++ (pm_Gc_14))))))))))))))
theorem pm_Gl_ok : ∀ i ∈ pm_Gl, pm_gd i := fun _ h => (List.mem_append.mp h).elim (pm_Gc_0_ok _) (fun h => (List.mem_append.mp h).elim (pm_Gc_1_ok _) (fun h => (List.mem_append.mp h).elim (pm_Gc_2_ok _) (fun h => (List.mem_append.mp h).elim (pm_Gc_3_ok _) (fun h => (List.mem_append.mp h).elim (pm_Gc_4_ok _) (fun h => (List.mem_append.mp h).elim (pm_Gc_5_ok _) (fun h => (List.mem_append.mp h).elim (pm_Gc_6_ok _) (fun h => (List.mem_append.mp h).elim (pm_Gc_7_ok _) (fun h => (List.mem_append.mp h).elim (pm_Gc_8_ok _) (fun h => (List.mem_append.mp h).elim (pm_Gc_9_ok _) (fun h => (List.mem_append.mp h).elim (pm_Gc_10_ok _) (fun h => (List.mem_append.mp h).elim (pm_Gc_11_ok _) (fun h => (List.mem_append.mp h).elim (pm_Gc_12_ok _) (fun h => (List.mem_append.mp h).elim (pm_Gc_13_ok _) (fun h => pm_Gc_14_ok _ h))))))))))))))
theorem pm_Ga : ∀ i, i < 309 → (pm_m i).2.2.2.2.2.2.1 ≠ 2 → pm_gd i := fun i h1 h2 => pm_Gl_ok i ((by decide +kernel : ∀ i, i < 309 → (pm_m i).2.2.2.2.2.2.1 ≠ 2 → i ∈ pm_Gl) i h1 h2)
theorem pm_Fa : ∀ i, i < 309 → pm_F i := fun i h1 => pm_Fl_ok i ((by decide +kernel : ∀ i, i < 309 → i ∈ pm_Fl) i h1)
