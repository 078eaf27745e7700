/-! A CHECKED INDEX: String.checkIndex and what it calls, by their code; methods of classes that have native rows, by their own names -/
theorem dk3_0 : decode cJ3_checkIndex_8e157 0 = .ok (.iload_n 0, 1) := by decide +kernel
theorem dk3_1 : decode cJ3_checkIndex_8e157 1 = .ok (.ifCond .lt 8, 3) := by decide +kernel
theorem dk3_4 : decode cJ3_checkIndex_8e157 4 = .ok (.iload_n 0, 1) := by decide +kernel
theorem dk3_5 : decode cJ3_checkIndex_8e157 5 = .ok (.iload_n 1, 1) := by decide +kernel
theorem dk3_6 : decode cJ3_checkIndex_8e157 6 = .ok (.if_icmp .lt 10, 3) := by decide +kernel
theorem dk3_16 : decode cJ3_checkIndex_8e157 16 = .ok (.iload_n 0, 1) := by decide +kernel
theorem dk3_17 : decode cJ3_checkIndex_8e157 17 = .ok (.ireturn, 1) := by decide +kernel
theorem dk0_0 : decode cJ0_checkIndex_df160 0 = .ok (.iload_n 0, 1) := by decide +kernel
theorem dk0_1 : decode cJ0_checkIndex_df160 1 = .ok (.iload_n 1, 1) := by decide +kernel
theorem dk0_2 : decode cJ0_checkIndex_df160 2 = .ok (.getstatic 1053, 3) := by decide +kernel
theorem dk0_5 : decode cJ0_checkIndex_df160 5 = .ok (.invokestatic 1059, 3) := by decide +kernel
theorem dk0_8 : decode cJ0_checkIndex_df160 8 = .ok (.pop, 1) := by decide +kernel
theorem dk0_9 : decode cJ0_checkIndex_df160 9 = .ok (.return_, 1) := by decide +kernel
theorem tk_link0 : Cond.methodLink (pm_cn 22) 9 yJ0_checkIndex_df160 ∈ pm_tb := pm_in 699 (by decide +kernel) rfl
theorem tk_stat0 : Cond.static yJ0_checkIndex_df160 ∈ pm_tb := pm_in 700 (by decide +kernel) rfl
theorem tk_code0 : Cond.code yJ0_checkIndex_df160 cJ0_checkIndex_df160 2 none ∈ pm_tb := pm_in 701 (by decide +kernel) rfl
theorem tk_fld : Cond.fieldLink RJ0 1053 "jdk/internal/util/Preconditions" "SIOOBE_FORMATTER" "Ljava/util/function/BiFunction;" ∈ pm_tb := pm_in 702 (by decide +kernel) rfl
theorem tk_link3 : Cond.methodLink RJ0 1059 yJ3_checkIndex_8e157 ∈ pm_tb := pm_in 704 (by decide +kernel) rfl
theorem tk_stat3 : Cond.static yJ3_checkIndex_8e157 ∈ pm_tb := pm_in 705 (by decide +kernel) rfl
theorem tk_code3 : Cond.code yJ3_checkIndex_8e157 cJ3_checkIndex_8e157 3 (some .int) ∈ pm_tb := pm_in 706 (by decide +kernel) rfl
theorem tk_ini0 : Cond.initialized yJ0_checkIndex_df160.cls ∈ pm_tb := pm_in 134 (by decide +kernel) rfl
theorem tk_ini3 : Cond.initialized yJ3_checkIndex_8e157.cls ∈ pm_tb := pm_in 136 (by decide +kernel) rfl
theorem pm_ofF {l : Launch} {y : MethodName} {ws ws' : List Cond} {rm : Room} {Pc : Array Value → State → Prop} {Qc : Array Value → State → Outcome → State → Prop} {mc ms : Nat} {free : Addr → Prop} {cc : ByteArray} {maxL : Nat} {ret : Option FieldType} (hy : plainFor y = true) (hw : ws = Cond.code y cc maxL ret :: ws')
    (body : ∀ p e s m args below meth c s₁, BodyLoose p l y (headSpec ws rm) cc maxL ret e s m args below meth c s₁ → c.maxLocals = maxL → Pc args s → W p l e (headSpec ws rm).room s m args below meth c s.heap [] 0 0 (MQ below Qc args s mc ms free) (entryFrame m args maxL)) : Met l y ws rm Pc Qc mc ms free := by
  refine MetFree.of_bodySF (code := cc) (maxLocals := maxL) (ret := ret) hy (fun args s m h hn => ?_) (fun p e s m args below meth c s₁ B hml hP _ => ?_)
  · obtain ⟨meth, c, h1, h2, h3, h4, h5, h6, -, -⟩ := Cond.code_spec hn (atoms_spec (ws := ws) h _ (by rw [hw]; exact List.mem_cons_self))
    exact ⟨meth, c, h1, h2, h3, h4, h5, h6⟩
  · obtain ⟨t, a1, o, b1, b2, b3⟩ := body p e s m args below meth c s₁ B hml hP s₁ (by rw [B.state]; rfl) (Stand.of_body B)
    exact ⟨t, o, a1, b1, b2, ⟨b3.1, b3.2⟩⟩
theorem pm_gin {y : MethodName} {cc : ByteArray} {n : Nat} {ret : Option FieldType} (h : Cond.code y cc n ret ∈ pm_tb) : GoodIn pm_tb (Cond.code y cc n ret :: pm_tb) := fun w hw => by
  rcases List.mem_cons.mp hw with rfl | hw
  · exact ⟨h, pm_tb_good _ h⟩
  · exact ⟨hw, pm_tb_good _ hw⟩
theorem ck_pc (l : Launch) (D : va_G) (c3 : ClassId × ClassId × ClassId) (ad : Nat → Nat) (L : Nat) (xs : Nat → Int32) (hinj : ∀ i j, i < 186 → j < 186 → ad i = ad j → i = j) (h : pm_Hp) (i n : Int32) (v : Value) (hlv : (lg_sl ([.int i, .int n, v] : List Value)).length ≤ 3) (h0 : ¬ i < 0) (hin : i < n) : Met l yJ3_checkIndex_8e157 (Cond.code yJ3_checkIndex_8e157 cJ3_checkIndex_8e157 3 (some .int) :: pm_tb) { frames := 0, cells := 0, slots := 0, locals := 0 } (va_Pc [.int i, .int n, v] (pm_B D c3 ad L xs h)) (pm_Qc D c3 ad L xs 1 i h) 0 0 (pm_A ad) := by
  refine pm_ofF (cc := cJ3_checkIndex_8e157) (maxL := 3) (ret := some .int) (by decide +kernel) rfl ?_
  intro p e s m args below meth c s₁ B hml hv
  obtain ⟨rfl, hP, hKn, hStr, hScr, hh⟩ := hv
  have hown : s.vm.findClass RJ3 = some m.cls := findClass_of_methodNamed B.named
  have hts := atoms_spec (ws := Cond.code yJ3_checkIndex_8e157 cJ3_checkIndex_8e157 3 (some .int) :: pm_tb) B.pre
  have X : pm_X D c3 ad L xs (pm_A ad) p s m ([.int i, .int n, v] : List Value).toArray c cJ3_checkIndex_8e157 3 RJ3 := ⟨⟨B.exec, B.bytes, hml, hown, fun w hw => hts w (List.mem_cons_of_mem _ hw)⟩, hKn, hStr, hScr, ⟨hinj, fun k hk => ⟨k, hk, rfl⟩⟩⟩
  have V : pm_V D c3 ad L xs (pm_A ad) s h s.heap [] := ⟨hP, va_S.rf, hh⟩
  have hl := lv_entry ([.int i, .int n, v] : List Value) (n := 3) hlv
  rw [lg_entry_eq]
  generalize (lg_sl ([.int i, .int n, v] : List Value) ++ List.replicate (3 - (lg_sl ([.int i, .int n, v] : List Value)).length) Slot.unset).toArray = sl at hl ⊢
  have hl : lv_has sl 3 [(0, .int i), (1, .int n)] := lv_sub hl [0, 1] rfl
  refine lv_iload_n B.exec B.bytes dk3_0 rfl (lv_at hl 0 rfl) ?_
  refine lv_if_lt B.exec B.bytes dk3_1 (tgt := 9) rfl (fun g => absurd g h0) (fun _ => ?_)
  refine lv_iload_n B.exec B.bytes dk3_4 rfl (lv_at hl 0 rfl) ?_
  refine lv_iload_n B.exec B.bytes dk3_5 rfl (lv_at hl 1 rfl) ?_
  refine lv_icmp_lt B.exec B.bytes dk3_6 (tgt := 16) rfl (fun _ => ?_) (fun g => absurd hin g)
  refine lv_iload_n B.exec B.bytes dk3_16 rfl (lv_at hl 0 rfl) ?_
  exact W.zret B.exec B.bytes B.returns (vp_nar_int i) (fun t ht hW => ⟨⟨i, (), rfl, rfl, pm_pre X V t ht hW⟩, V.2.1.F ht⟩) V.2.1.2.2 dk3_17
theorem ck_ix (l : Launch) (D : va_G) (c3 : ClassId × ClassId × ClassId) (ad : Nat → Nat) (L : Nat) (xs : Nat → Int32) (hinj : ∀ i j, i < 186 → j < 186 → ad i = ad j → i = j) (h : pm_Hp) (i n : Int32) (h0 : ¬ i < 0) (hin : i < n) : Met l yJ0_checkIndex_df160 (Cond.code yJ0_checkIndex_df160 cJ0_checkIndex_df160 2 none :: pm_tb) { frames := 1, cells := 0, slots := 0, locals := 22 } (va_Pc [.int i, .int n] (pm_B D c3 ad L xs h)) (pm_Qc D c3 ad L xs 0 0 h) 0 0 (pm_A ad) := by
  refine pm_ofF (cc := cJ0_checkIndex_df160) (maxL := 2) (ret := none) (by decide +kernel) rfl ?_
  intro p e s m args below meth c s₁ B hml hv
  obtain ⟨rfl, hP, hKn, hStr, hScr, hh⟩ := hv
  have hown : s.vm.findClass RJ0 = some m.cls := findClass_of_methodNamed B.named
  have hts := atoms_spec (ws := Cond.code yJ0_checkIndex_df160 cJ0_checkIndex_df160 2 none :: pm_tb) B.pre
  have X : pm_X D c3 ad L xs (pm_A ad) p s m ([.int i, .int n] : List Value).toArray c cJ0_checkIndex_df160 2 RJ0 := ⟨⟨B.exec, B.bytes, hml, hown, fun w hw => hts w (List.mem_cons_of_mem _ hw)⟩, hKn, hStr, hScr, ⟨hinj, fun k hk => ⟨k, hk, rfl⟩⟩⟩
  have V : pm_V D c3 ad L xs (pm_A ad) s h s.heap [] := ⟨hP, va_S.rf, hh⟩
  have hl := lv_entry ([.int i, .int n] : List Value) (n := 2) (Nat.le_of_ble_eq_true rfl)
  rw [lg_entry_eq]
  generalize (lg_sl ([.int i, .int n] : List Value) ++ List.replicate (2 - (lg_sl ([.int i, .int n] : List Value)).length) Slot.unset).toArray = sl at hl ⊢
  have hl : lv_has sl 2 [(0, .int i), (1, .int n)] := hl
  have key : ∀ v : Value, (lg_sl ([.int i, .int n, v] : List Value)).length ≤ 3 → va_Z "jdk/internal/util/Preconditions" "SIOOBE_FORMATTER" "Ljava/util/function/BiFunction;" v (pm_A ad) s s.heap → W p l e { frames := 1, cells := 0, slots := 0, locals := 22 } s m ([.int i, .int n] : List Value).toArray below meth c s.heap [] 0 0 (MQ below (pm_Qc D c3 ad L xs 0 0 h) ([.int i, .int n] : List Value).toArray s 0 0 (pm_A ad)) (F0 m 0 sl []) := fun v hlv hZ => by
    refine lv_iload_n B.exec B.bytes dk0_0 rfl (lv_at hl 0 rfl) ?_
    refine lv_iload_n B.exec B.bytes dk0_1 rfl (lv_at hl 1 rfl) ?_
    refine va_gets B.exec B.bytes hZ V.2.1 hown (pm_w X tk_fld) (fun _ h9 => h9) dk0_2 ?_
    refine pm_cont (rest := []) (rk := 1) (r := i) (h' := h) X V (va_runS (As := [.int i, .int n, v]) (rest := []) X.1 (ck_pc l D c3 ad L xs hinj h i n v hlv h0 hin) ⟨callB_of (Ts := pm_tb) (ws' := pm_tb) 3 X.1.2.2.2.2 (pm_gin tk_code3) rfl rfl rfl (pm_w X tk_ini3) (pm_w X tk_link3) ⟨by decide +kernel, by decide +kernel, by decide +kernel⟩ ⟨Nat.le_of_ble_eq_true rfl, Nat.le_of_ble_eq_true rfl⟩, pm_w X tk_stat3⟩ ⟨pm_blind, fun U hU hW => ⟨rfl, pm_pre X V U hU hW⟩⟩ rfl rfl hl.1 rfl (lv_room (Nat.zero_le _)) dk0_5 ⟨Nat.zero_le _, Nat.zero_le _⟩) (fun H1 locs1 V1 => ?_)
    refine lv_pop B.exec B.bytes dk0_8 rfl ?_
    exact W.vret B.exec B.bytes B.returns (fun t ht hW => ⟨⟨(), rfl, trivial, pm_pre X V1 t ht hW⟩, V1.2.1.F ht⟩) V1.2.1.2.2 dk0_9
  rcases hStr.2.2.2.2 with hZ | ⟨f, hZ⟩
  · exact key _ (Nat.le_of_ble_eq_true rfl) hZ
  · exact key _ (Nat.le_of_ble_eq_true rfl) hZ
