/-- what the pure machine's calls stand on -/
def pm_iv : Value → Bool
  | .int _ => true
  | .ref _ => true
  | _ => false
def pm_na (mj : Nat) : Nat := (pm_m mj).2.2.2.2.2.2.2 + (if (pm_m mj).2.2.2.2.2.2.1 = 0 then 1 else 0)
def pm_CC (l : Launch) (D : va_G) (c3 : ClassId × ClassId × ClassId) (ad : Nat → Nat) (L : Nat) (xs : Nat → Int32) (C : pm_Cl) (rm : Room) : Prop :=
  ∀ mj as h r h', C mj as h = some (r, h') → mj < 309 → (pm_m mj).2.2.2.2.2.2.1 ≠ 2 → as.length = pm_na mj → as.all pm_iv = true →
    Met l (pm_m mj).1 (pm_wm mj) rm (va_Pc (as.map (pm_tv ad)) (pm_B D c3 ad L xs h)) (pm_Qc D c3 ad L xs (pm_rk (pm_m mj).2.2.2.1) r h') 0 0 (pm_A ad)
theorem pm_if_t {c : Prop} [Decidable c] {go : pm_Go} {t f : Nat} {ls st : List Value} {h : pm_Hp} {q : Int32 × pm_Hp} (hs : pm_if c go t f ls st h = some q) : (c → go t ls st h = some q) ∧ (¬ c → go f ls st h = some q) := by
  unfold pm_if at hs
  exact ⟨fun g => by rwa [if_pos g] at hs, fun g => by rwa [if_neg g] at hs⟩
theorem pm_narrow_b {v : Int32} (h : v = 0 ∨ v = 1) : narrow .boolean (.int v) = .int v := by
  rcases h with rfl | rfl <;> decide
section PMRUN
variable {p : Program} {l : Launch} {e : Env} {R : Room} {s : State} {m : MethodId} {args : Array Value} {below : List Frame} {meth : Method} {c : Code} {H : Heap} {locs : List Loc} {cells slots : Nat} {Q : State → Prop}
variable {D : va_G} {c3 : ClassId × ClassId × ClassId} {ad : Nat → Nat} {L : Nat} {xs : Nat → Int32} {A : Nat → Prop} {cc : ByteArray} {nL : Nat} {pc : Nat} {sl : Array Slot} {rest : List Value} {h : pm_Hp}
theorem pm_sw_spec {go : pm_Go} {ls st : List Value} {h : pm_Hp} {d : Nat} {x : Int32} {q : Int32 × pm_Hp} : ∀ (ks : List Int32) (ts : List Nat), ks.length = ts.length → pm_sw go ls st h d x ks ts = some q → (∃ (j t : Nat), ks[j]? = some x ∧ ts[j]? = some t ∧ go t ls st h = some q) ∨ ((∀ j : Nat, ks[j]? ≠ some x) ∧ go d ls st h = some q)
  | [], [], _, hs => Or.inr ⟨fun j => by simp, hs⟩
  | [], _ :: _, hl, _ => by simp at hl
  | _ :: _, [], hl, _ => by simp at hl
  | k :: ks, t :: ts, hl, hs => by
    unfold pm_sw at hs
    by_cases e : x = k
    · rw [if_pos e] at hs
      exact Or.inl ⟨0, t, by simp [e], rfl, hs⟩
    · rw [if_neg e] at hs
      rcases pm_sw_spec ks ts (by simpa using hl) hs with ⟨j, t', h1, h2, h3⟩ | ⟨h1, h2⟩
      · exact Or.inl ⟨j + 1, t', by simpa using h1, by simpa using h2, h3⟩
      · refine Or.inr ⟨fun j => ?_, h2⟩
        cases j with
        | zero => simp; exact fun g => e g.symm
        | succ j => simpa using h1 j
theorem pm_look {go : pm_Go} {ls st : List Value} {h : pm_Hp} {pc d1 : Nat} {d : Int} {x : Int32} {q : Int32 × pm_Hp} (hd : (pc : Int) + d = (d1 : Int)) : ∀ (pl : List (Int × Int)) (ks : List Int32) (ts : List Nat), pl.map (fun z => z.1) = ks.map Int32.toInt → pl.map (fun z => (pc : Int) + z.2) = ts.map (fun (t : Nat) => (t : Int)) → pm_sw go ls st h d1 x ks ts = some q → ∃ t : Nat, go t ls st h = some q ∧ (pc : Int) + Op.lookupswitch.offset pl d x.toInt = (t : Int)
  | [], [], [], _, _, hs => ⟨d1, hs, hd⟩
  | [], _ :: _, _, h1, _, _ => by simp at h1
  | [], [], _ :: _, _, h2, _ => by simp at h2
  | _ :: _, [], _, h1, _, _ => by simp at h1
  | _ :: _, _ :: _, [], _, h2, _ => by simp at h2
  | (a, o) :: pl, k :: ks, t :: ts, h1, h2, hs => by
    simp only [List.map_cons, List.cons.injEq] at h1 h2
    unfold pm_sw at hs
    rw [lookupswitch.offset_cons]
    by_cases e : x = k
    · rw [if_pos e] at hs
      rw [if_pos (by rw [h1.1, e])]
      exact ⟨t, hs, h2.1⟩
    · rw [if_neg e] at hs
      rw [if_neg (fun g => e (Int32.toInt_inj.mp (by rw [← g, h1.1])))]
      exact pm_look hd pl ks ts h1.2 h2.2 hs
def pm_rvp (rk : Nat) (r : Int32) (rest : List Value) : List Value := match rk with
  | 0 => rest
  | 1 => .int r :: rest
  | _ => .ref r.toNatClampNeg :: rest
theorem pm_ret_eq {rk nx : Nat} {ls rest : List Value} {go : pm_Go} {r : Int32} {h : pm_Hp} : pm_ret rk nx ls rest go (r, h) = go nx ls (pm_rvp rk r rest) h := by
  match rk with
  | 0 => rfl
  | 1 => rfl
  | n + 2 => rfl
theorem pm_rvp_map {rk : Nat} {r : Int32} {rest : List Value} : (pm_rvp rk r rest).map (pm_tv ad) = pm_rv ad rk r (rest.map (pm_tv ad)) := by
  match rk with
  | 0 => rfl
  | 1 => rfl
  | n + 2 => rfl
theorem pm_rvp_iv {rk : Nat} {r : Int32} {rest : List Value} (h : rest.all pm_iv = true) : (pm_rvp rk r rest).all pm_iv = true := by
  match rk with
  | 0 => exact h
  | 1 => exact h
  | n + 2 => exact h
theorem pm_iv_cat {st : List Value} (h : st.all pm_iv = true) : ∀ v ∈ st, v.category = 1 := fun v hv => by
  have := List.all_eq_true.mp h v hv
  cases v <;> first | rfl | cases this
theorem pm_rc_ref {ci : Nat} {v0 : Value} {As : List Value} (h : pm_rc ci (v0 :: As) = true) : ∃ k, v0 = .ref k := by
  cases v0 with
  | ref k => exact ⟨k, rfl⟩
  | _ => cases h
theorem pm_rc_eq {ci k : Nat} {As : List Value} (h : pm_rc ci (.ref k :: As) = true) : (bif Nat.beq ci 20 then Nat.ble 400 k && Nat.ble k 425 else Nat.beq (pm_ob k).1 ci) = true := h
theorem pm_acl : Cond.methodLink (pm_cn 9) 400 arraycopyName ∈ pm_tb := pm_in 870 (by decide +kernel) rfl
theorem pm_acs : Cond.static arraycopyName ∈ pm_tb := pm_in 871 (by decide +kernel) rfl
theorem pm_acn : Cond.native arraycopyName ∈ pm_tb := pm_in 872 (by decide +kernel) rfl
theorem pm_aci : Cond.initialized "java/lang/System" ∈ pm_tb := pm_in 133 (by decide +kernel) rfl
theorem pm_ft_lt {ci fk ft : Nat} (h : (pm_ft ci)[fk]? = some ft) : ci ≤ 10 := by
  rcases Nat.lt_or_ge ci 11 with g | g
  · omega
  · have : pm_ft ci = [] := by
      unfold pm_ft
      repeat rw [pm_bleF (show _ < ci by omega), cond_false]
      rw [pm_beqF (by omega), cond_false]
    rw [this] at h
    cases h
theorem pm_iret0 {q : Nat} {rt : Option FieldType} (h2 : (match [q], rt with
      | [0], some .int => true
      | [1], some .boolean => true
      | [2], some .char => true
      | [3], some .byte => true
      | _, _ => false) = true) : (q = 0 ∧ rt = some .int) ∨ (q = 1 ∧ rt = some .boolean) ∨ (q = 2 ∧ rt = some .char) ∨ (q = 3 ∧ rt = some .byte) := by
  split at h2 <;> simp_all
theorem pm_iret {q : Nat} {rt : Option FieldType} {v r : Int32} {h h' : pm_Hp} (hs : (match q with
      | 0 => some (v, h)
      | 1 => if v = 0 ∨ v = 1 then some (v, h) else none
      | 2 => if narrow .char (.int v) = .int v then some (v, h) else none
      | _ => if narrow .byte (.int v) = .int v then some (v, h) else none) = some (r, h')) (h2 : (match [q], rt with
      | [0], some .int => true
      | [1], some .boolean => true
      | [2], some .char => true
      | [3], some .byte => true
      | _, _ => false) = true) : ∃ ty, rt = some ty ∧ pm_rk rt = 1 ∧ r = v ∧ h' = h ∧ narrow ty (.int v) = .int v := by
  rcases pm_iret0 h2 with ⟨e1, e2⟩ | ⟨e1, e2⟩ | ⟨e1, e2⟩ | ⟨e1, e2⟩ <;> subst e1 <;> subst e2
  · cases hs; exact ⟨_, rfl, rfl, rfl, rfl, vp_nar_int _⟩
  · by_cases g : v = 0 ∨ v = 1
    · rw [if_pos g] at hs; cases hs; exact ⟨_, rfl, rfl, rfl, rfl, pm_narrow_b g⟩
    · rw [if_neg g] at hs; cases hs
  · by_cases g : narrow .char (.int v) = .int v
    · rw [if_pos g] at hs; cases hs; exact ⟨_, rfl, rfl, rfl, rfl, g⟩
    · rw [if_neg g] at hs; cases hs
  · by_cases g : narrow .byte (.int v) = .int v
    · rw [if_pos g] at hs; cases hs; exact ⟨_, rfl, rfl, rfl, rfl, g⟩
    · rw [if_neg g] at hs; cases hs
theorem pm_aret {rt : Option FieldType} (h : (match rt with
      | some (.array .int) => true
      | _ => false) = true) : rt = some (.array .int) := by
  split at h
  · rfl
  · cases h
theorem pm_vret {rt : Option FieldType} (h : (match rt with
      | none => true
      | _ => false) = true) : rt = none := by
  split at h
  · rfl
  · cases h
theorem pm_callV {C : pm_Cl} {rm : Room} {go : pm_Go} {ls st : List Value} {mj na rk ci i oc : Nat} {q : Int32 × pm_Hp} (X : pm_X D c3 ad L xs A p s m args c cc nL (pm_cn oc)) (V : pm_V D c3 ad L xs A s h H locs) (hL : pm_L ad ls sl nL) (hst : st.all pm_iv = true) (hC : pm_CC l D c3 ad L xs C rm) (hR : rm.cells = 0 ∧ rm.slots = 0 ∧ rm.frames + 1 ≤ R.frames ∧ 60 + rm.locals ≤ R.locals) (hcs : cells ≤ R.cells ∧ slots ≤ R.slots) (hdg : decode cc pc = .ok (.invokevirtual i, 3))
    (h2 : (decide ((oc, i, mj) ∈ pm_ML) && Nat.ble (mj + 1) 309 && Nat.beq (pm_m mj).2.2.2.2.2.2.1 0 && Nat.beq na ((pm_m mj).2.2.2.2.2.2.2 + 1) && Nat.beq rk (pm_rk (pm_m mj).2.2.2.1) && Nat.beq ci (pm_m mj).2.2.2.2.2.1 && (Nat.ble ci 10 || Nat.beq ci 20)) = true) (hs : pm_call C go (pm_rc ci) (pc + 3) ls st h mj na rk = some q)
    (kk : ∀ (h1 : pm_Hp) (st1 : List Value) (H1 : Heap) (locs1 : List Loc), go (pc + 3) ls st1 h1 = some q → pm_V D c3 ad L xs A s h1 H1 locs1 → st1.all pm_iv = true → W p l e R s m args below meth c H1 locs1 cells slots Q (F0 m (pc + 3) sl (st1.map (pm_tv ad)))) : W p l e R s m args below meth c H locs cells slots Q (F0 m pc sl (st.map (pm_tv ad))) := by
  have e7 := Bool.and_eq_true_iff.mp h2
  have e6 := Bool.and_eq_true_iff.mp e7.1
  have e5 := Bool.and_eq_true_iff.mp e6.1
  have e4 := Bool.and_eq_true_iff.mp e5.1
  have e3 := Bool.and_eq_true_iff.mp e4.1
  have e2 := Bool.and_eq_true_iff.mp e3.1
  have hml := pm_ML_ok _ (of_decide_eq_true e2.1)
  have hmj : mj < 309 := Nat.le_of_ble_eq_true e2.2
  have hk0 := Nat.eq_of_beq_eq_true e3.2
  have hna := Nat.eq_of_beq_eq_true e4.2
  have hrk := Nat.eq_of_beq_eq_true e5.2
  have hci := Nat.eq_of_beq_eq_true e6.2
  have F := pm_Fa mj hmj
  unfold pm_call at hs
  cases hck : (pm_rc ci (st.take na).reverse && Nat.ble (st.drop na).length 8 && Nat.beq (st.take na).length na) with
  | false => rw [hck] at hs; cases hs
  | true =>
    rw [hck, cond_true] at hs
    have g3 := Bool.and_eq_true_iff.mp hck
    have g2 := Bool.and_eq_true_iff.mp g3.1
    have hst2 : st = st.take na ++ st.drop na := (List.take_append_drop na st).symm
    have hall : (st.take na).all pm_iv = true ∧ (st.drop na).all pm_iv = true := by
      rw [hst2, List.all_append, Bool.and_eq_true] at hst
      exact hst
    generalize hta : st.take na = ta at *
    generalize st.drop na = rs at *
    subst hst2
    cases hcr : C mj ta.reverse h with
    | none => rw [hcr] at hs; cases hs
    | some rh =>
      obtain ⟨r1, h1⟩ := rh
      rw [hcr, Option.bind_some, pm_ret_eq] at hs
      cases htr : ta.reverse with
      | nil => rw [htr] at g2; cases g2.1
      | cons v0 As =>
        rw [htr] at g2 hcr
        have hlen : ta.length = na := Nat.eq_of_beq_eq_true g3.2
        have hlen2 : (v0 :: As).length = na := by rw [← htr, List.length_reverse]; exact hlen
        obtain ⟨k, rfl⟩ : ∃ k, v0 = .ref k := pm_rc_ref g2.1
        have hM := hC mj _ h r1 h1 hcr hmj (by rw [hk0]; omega) (by unfold pm_na; rw [hk0, if_pos rfl]; omega) (by rw [← htr, List.all_reverse]; exact hall.1)
        have hrev : ta = As.reverse ++ [.ref k] := by rw [← List.reverse_reverse ta, htr, List.reverse_cons]
        subst hrk
        refine pm_cont (rest := rs.map (pm_tv ad)) X V (va_runV (As := As.map (pm_tv ad)) (b := ad k) (rest := rs.map (pm_tv ad)) (C := (pm_m mj).1.cls) X.1 hM ⟨pm_callB X F hml hR.1 hR.2.1 ⟨hR.2.2.1, by have := F.2.2.1.2.1; omega⟩, pm_w X (by have := F.2.2.2.1; rw [hk0, if_neg (by omega)] at this; exact this), pm_w X (F.2.2.2.2 hk0)⟩ ⟨pm_blind, ?_, fun U hU hW => ⟨rfl, pm_pre X V U hU hW⟩⟩ rfl ?_ hL.2.1 ?_ (lv_room (pm_tv_cat g2.2 (pm_iv_cat hall.2))) hdg hcs) (fun H1 locs1 V1 => ?_)
        · have hr := pm_recv (ci := ci) X V (pm_rc_eq g2.1) e7.2
          rw [hci, F.2.2.1.2.2.2.2.2] at hr
          exact hr
        · rw [List.length_map]; simp only [List.length_cons] at hlen2; omega
        · rw [hrev]; simp [pm_tv]
        · rw [← pm_rvp_map]
          exact kk h1 _ H1 locs1 hs V1 (pm_rvp_iv hall.2)
theorem pm_callS {C : pm_Cl} {rm : Room} {go : pm_Go} {ls st : List Value} {mj na rk i oc : Nat} {q : Int32 × pm_Hp} (X : pm_X D c3 ad L xs A p s m args c cc nL (pm_cn oc)) (V : pm_V D c3 ad L xs A s h H locs) (hL : pm_L ad ls sl nL) (hst : st.all pm_iv = true) (hC : pm_CC l D c3 ad L xs C rm) (hR : rm.cells = 0 ∧ rm.slots = 0 ∧ rm.frames + 1 ≤ R.frames ∧ 60 + rm.locals ≤ R.locals) (hcs : cells ≤ R.cells ∧ slots ≤ R.slots) (hdg : decode cc pc = .ok (.invokestatic i, 3))
    (h2 : ((decide ((oc, i, mj) ∈ pm_ML) || decide ((oc, i, mj) ∈ pm_NL)) && Nat.ble (mj + 1) 309 && Nat.beq (pm_m mj).2.2.2.2.2.2.1 1 && Nat.beq na (pm_m mj).2.2.2.2.2.2.2 && Nat.beq rk (pm_rk (pm_m mj).2.2.2.1)) = true) (hs : pm_call C go (fun _ => true) (pc + 3) ls st h mj na rk = some q)
    (kk : ∀ (h1 : pm_Hp) (st1 : List Value) (H1 : Heap) (locs1 : List Loc), go (pc + 3) ls st1 h1 = some q → pm_V D c3 ad L xs A s h1 H1 locs1 → st1.all pm_iv = true → W p l e R s m args below meth c H1 locs1 cells slots Q (F0 m (pc + 3) sl (st1.map (pm_tv ad)))) : W p l e R s m args below meth c H locs cells slots Q (F0 m pc sl (st.map (pm_tv ad))) := by
  have e5 := Bool.and_eq_true_iff.mp h2
  have e4 := Bool.and_eq_true_iff.mp e5.1
  have e3 := Bool.and_eq_true_iff.mp e4.1
  have e2 := Bool.and_eq_true_iff.mp e3.1
  have hlk := (Bool.or_eq_true _ _).mp e2.1
  have hmj : mj < 309 := Nat.le_of_ble_eq_true e2.2
  have hk0 := Nat.eq_of_beq_eq_true e3.2
  have hna := Nat.eq_of_beq_eq_true e4.2
  have hrk := Nat.eq_of_beq_eq_true e5.2
  have F := pm_Fa mj hmj
  have hstat := F.2.2.2.1
  rw [hk0, if_pos rfl] at hstat
  unfold pm_call at hs
  cases hck : ((fun _ => true) (st.take na).reverse && Nat.ble (st.drop na).length 8 && Nat.beq (st.take na).length na) with
  | false => rw [hck] at hs; cases hs
  | true =>
    rw [hck, cond_true] at hs
    have g3 := Bool.and_eq_true_iff.mp hck
    have g2 := Bool.and_eq_true_iff.mp g3.1
    have hst2 : st = st.take na ++ st.drop na := (List.take_append_drop na st).symm
    have hall : (st.take na).all pm_iv = true ∧ (st.drop na).all pm_iv = true := by
      rw [hst2, List.all_append, Bool.and_eq_true] at hst
      exact hst
    generalize hta : st.take na = ta at *
    generalize st.drop na = rs at *
    subst hst2
    cases hcr : C mj ta.reverse h with
    | none => rw [hcr] at hs; cases hs
    | some rh =>
      obtain ⟨r1, h1⟩ := rh
      rw [hcr, Option.bind_some, pm_ret_eq] at hs
      have hlen : ta.length = na := Nat.eq_of_beq_eq_true g3.2
      have hcat := pm_tv_cat (ad := ad) g2.2 (pm_iv_cat hall.2)
      have hmap : ((ta ++ rs).map (pm_tv ad)) = (ta.reverse.map (pm_tv ad)).reverse ++ rs.map (pm_tv ad) := by simp
      rw [hmap]
      subst hrk
      have hM := hC mj _ h r1 h1 hcr hmj (by rw [hk0]; omega) (by unfold pm_na; rw [hk0, if_neg (by omega), List.length_reverse]; omega) (by rw [List.all_reverse]; exact hall.1)
      have hp : PreS s H (va_Pc (ta.reverse.map (pm_tv ad)) (pm_B D c3 ad L xs h)) (ta.reverse.map (pm_tv ad)) := ⟨pm_blind, fun U hU hW => ⟨rfl, pm_pre X V U hU hW⟩⟩
      have hn2 : (ta.reverse.map (pm_tv ad)).length = (pm_m mj).2.2.2.2.2.2.2 := by rw [List.length_map, List.length_reverse]; omega
      have hkk : ∀ (H1 : Heap) (locs1 : List Loc), pm_V D c3 ad L xs A s h1 H1 locs1 → W p l e R s m args below meth c H1 locs1 cells slots Q (F0 m (pc + 3) sl (pm_rv ad (pm_rk (pm_m mj).2.2.2.1) r1 (rs.map (pm_tv ad)))) := fun H1 locs1 V1 => by
        rw [← pm_rvp_map]
        exact kk h1 _ H1 locs1 hs V1 (pm_rvp_iv hall.2)
      have hR2 : rm.frames + 1 ≤ R.frames ∧ 8 + ((pm_m mj).2.2.1 + 11) + rm.locals ≤ R.locals := ⟨hR.2.2.1, by have := F.2.2.1.2.1; omega⟩
      rcases hlk with g | g
      · exact pm_cont (rest := rs.map (pm_tv ad)) X V (va_runS X.1 hM ⟨pm_callB X F (pm_ML_ok _ (of_decide_eq_true g)) hR.1 hR.2.1 hR2, pm_w X hstat⟩ hp rfl hn2 hL.2.1 rfl (lv_room hcat) hdg hcs) hkk
      · have hG : GoodIn pm_tb (pm_wm mj) := fun w hw => by
          rcases List.mem_cons.mp hw with rfl | hw
          · exact ⟨F.1, pm_tb_good _ F.1⟩
          · exact ⟨hw, pm_tb_good _ hw⟩
        exact pm_cont (rest := rs.map (pm_tv ad)) X V (va_runSN (host := RX9) X.1 hM ⟨va_cnB (Ts := pm_tb) (ws' := pm_tb) _ X.1.2.2.2.2 hG rfl hR.1 hR.2.1 (X.2.2.1.2.2.2.1 _ (of_decide_eq_true g)) (pm_w X F.2.1) ⟨F.2.2.1.2.2.1, F.2.2.1.2.2.2.1, F.2.2.1.2.2.2.2.1⟩ hR2, pm_w X hstat, trivial⟩ hp rfl hn2 hL.2.1 rfl (lv_room hcat) hdg hcs) hkk
theorem pm_chk {rm : Room} {go : pm_Go} {ls st : List Value} {n i : Int32} {j oc : Nat} {q : Int32 × pm_Hp} (X : pm_X D c3 ad L xs A p s m args c cc nL (pm_cn oc)) (V : pm_V D c3 ad L xs A s h H locs) (hL : pm_L ad ls sl nL) (hst : st.all pm_iv = true) (hR : rm.cells = 0 ∧ rm.slots = 0 ∧ rm.frames + 1 ≤ R.frames ∧ 60 + rm.locals ≤ R.locals) (hI : 1 ≤ rm.frames) (hcs : cells ≤ R.cells ∧ slots ≤ R.slots) (hdg : decode cc pc = .ok (.invokestatic j, 3)) (ho : oc = 22) (hj : j = 9)
    (hs : (bif Nat.ble st.length 8 then (if i < 0 ∨ n ≤ i then none else go (pc + 3) ls st h) else none) = some q)
    (kk : ∀ (h1 : pm_Hp) (st1 : List Value) (H1 : Heap) (locs1 : List Loc), go (pc + 3) ls st1 h1 = some q → pm_V D c3 ad L xs A s h1 H1 locs1 → st1.all pm_iv = true → W p l e R s m args below meth c H1 locs1 cells slots Q (F0 m (pc + 3) sl (st1.map (pm_tv ad)))) : W p l e R s m args below meth c H locs cells slots Q (F0 m pc sl (.int n :: .int i :: st.map (pm_tv ad))) := by
  subst ho hj
  cases hk : Nat.ble st.length 8 with
  | false => rw [hk] at hs; cases hs
  | true =>
    rw [hk, cond_true] at hs
    by_cases hc : i < 0 ∨ n ≤ i
    · rw [if_pos hc] at hs; cases hs
    · rw [if_neg hc] at hs
      have h0 : ¬ i < 0 := fun g => hc (Or.inl g)
      have hin : i < n := Int32.not_le.mp (fun g => hc (Or.inr g))
      have hcat := pm_tv_cat (ad := ad) hk (pm_iv_cat hst)
      exact pm_cont (rest := st.map (pm_tv ad)) (rk := 0) (r := 0) (h' := h) X V (va_runS (As := [.int i, .int n]) (rest := st.map (pm_tv ad)) X.1 (ck_ix l D c3 ad L xs X.2.2.2.2.1 h i n h0 hin) ⟨callB_of (Ts := pm_tb) (ws' := pm_tb) 2 X.1.2.2.2.2 (pm_gin tk_code0) rfl rfl rfl (pm_w X tk_ini0) (pm_w X tk_link0) ⟨by decide +kernel, by decide +kernel, by decide +kernel⟩ ⟨by show 1 + 1 ≤ R.frames; omega, by show 8 + (2 + 11) + 22 ≤ R.locals; omega⟩, pm_w X tk_stat0⟩ ⟨pm_blind, fun U hU hW => ⟨rfl, pm_pre X V U hU hW⟩⟩ rfl rfl hL.2.1 rfl (lv_room hcat) hdg hcs) (fun H1 locs1 V1 => kk h _ H1 locs1 hs V1 hst)
theorem pm_copy {rm : Room} {go : pm_Go} {ls st : List Value} {n dp sp : Int32} {k0 k1 : Nat} {i oc : Nat} {q : Int32 × pm_Hp} (X : pm_X D c3 ad L xs A p s m args c cc nL (pm_cn oc)) (V : pm_V D c3 ad L xs A s h H locs) (hL : pm_L ad ls sl nL) (hst : st.all pm_iv = true) (hR : rm.cells = 0 ∧ rm.slots = 0 ∧ rm.frames + 1 ≤ R.frames ∧ 60 + rm.locals ≤ R.locals) (hdg : decode cc pc = .ok (.invokestatic i, 3)) (ho : oc = 9) (hi : i = 400)
    (hs : (bif Nat.beq (pm_ob k0).1 11 && Nat.beq (pm_ob k1).1 11 && !(Nat.beq k0 k1) && Nat.ble st.length 8 then (if (sp < 0 ∨ dp < 0 ∨ n < 0) ∨ ¬ sp.toNatClampNeg + n.toNatClampNeg ≤ (pm_ob k0).2.1 ∨ ¬ dp.toNatClampNeg + n.toNatClampNeg ≤ (pm_ob k1).2.1 then none else go (pc + 3) ls st (pm_cp h k0 k1 sp.toNatClampNeg dp.toNatClampNeg n.toNatClampNeg)) else none) = some q)
    (kk : ∀ (h1 : pm_Hp) (st1 : List Value) (H1 : Heap) (locs1 : List Loc), go (pc + 3) ls st1 h1 = some q → pm_V D c3 ad L xs A s h1 H1 locs1 → st1.all pm_iv = true → W p l e R s m args below meth c H1 locs1 cells slots Q (F0 m (pc + 3) sl (st1.map (pm_tv ad)))) : W p l e R s m args below meth c H locs cells slots Q (F0 m pc sl (.int n :: .int dp :: .ref (ad k1) :: .int sp :: .ref (ad k0) :: st.map (pm_tv ad))) := by
  subst ho hi
  cases hk : (Nat.beq (pm_ob k0).1 11 && Nat.beq (pm_ob k1).1 11 && !(Nat.beq k0 k1) && Nat.ble st.length 8) with
  | false => rw [hk] at hs; cases hs
  | true =>
    rw [hk, cond_true] at hs
    have e4 := Bool.and_eq_true_iff.mp hk
    have e3 := Bool.and_eq_true_iff.mp e4.1
    have e2 := Bool.and_eq_true_iff.mp e3.1
    have hk0 := Nat.eq_of_beq_eq_true e2.1
    have hk1 := Nat.eq_of_beq_eq_true e2.2
    have l0 := pm_ob_lt hk0 (by omega)
    have l1 := pm_ob_lt hk1 (by omega)
    by_cases hc : (sp < 0 ∨ dp < 0 ∨ n < 0) ∨ ¬ sp.toNatClampNeg + n.toNatClampNeg ≤ (pm_ob k0).2.1 ∨ ¬ dp.toNatClampNeg + n.toNatClampNeg ≤ (pm_ob k1).2.1
    · rw [if_pos hc] at hs; cases hs
    · rw [if_neg hc] at hs
      have hst3 : st.all pm_iv = true := hst
      have hcat := pm_tv_cat (ad := ad) e4.2 (pm_iv_cat hst3)
      refine va_copyi (D := D) (rest := st.map (pm_tv ad)) X.1.1 X.1.2.1 (X.1.2.2.1.trans hL.2.1.symm) X.1.2.2.2.1 (pm_w X pm_acl) (pm_w X pm_acn) (pm_w X pm_acs) (pm_w X pm_aci) X.2.1 V.1 (X.2.2.2.2.D h) V.2.1 k0 k1 0 0 (c0 := c3.1) (c1 := c3.1) (n0 := (pm_ob k0).2.1) (n1 := (pm_ob k1).2.1) (f := h k0) (g := h k1) (ty := .int) ?_ ?_ rfl rfl rfl (fun q => hc (Or.inl (Or.inl q))) (fun q => hc (Or.inl (Or.inr (Or.inl q)))) (fun q => hc (Or.inl (Or.inr (Or.inr q)))) (Decidable.not_not.mp fun q => hc (Or.inr (Or.inl q))) (Decidable.not_not.mp fun q => hc (Or.inr (Or.inr q))) (fun _ _ => rfl) (by omega) ?_ hdg (fun H1 locs1 hP hD hS => kk _ _ H1 locs1 hs ⟨?_, hS, fun j hj => ?_, ?_⟩ hst3)
      · rw [pm_ws_at l0, pm_cell_11 hk0]
      · rw [pm_ws_at l1, pm_cell_11 hk1]
      · rw [show nativeFrameWords "java/lang/System" "arraycopy" 5 = 7 from by decide +kernel]
        omega
      · rw [pm_cp_at, ← pm_cell_11 (c3 := c3) (ad := ad) hk1, pm_ws_set pm_cp_ne] at hP
        exact hP
      · rw [pm_cp_ne 300 (by omega)]
        exact V.2.2.1 j hj
      · rw [pm_cp_ne 301 (by omega)]
        exact V.2.2.2
/-- where the pure machine comes to an end, the machine does, and alike -/
theorem pm_core {C : pm_Cl} {rm : Room} {cd : Nat → Option pm_RI} {oc : Nat} {rt : Option FieldType} {r : Int32} {h' : pm_Hp} (X : pm_X D c3 ad L xs A p s m args c cc nL (pm_cn oc)) (hg : pm_good oc rt cc cd) (hC : pm_CC l D c3 ad L xs C rm) (hR : rm.cells = 0 ∧ rm.slots = 0 ∧ rm.frames + 1 ≤ R.frames ∧ 60 + rm.locals ≤ R.locals) (hI : 1 ≤ rm.frames) (hcs : cells ≤ R.cells ∧ slots ≤ R.slots)
    (hK : ∀ (pc : Nat) (sl : Array Slot) (H : Heap) (locs : List Loc), pm_V D c3 ad L xs A s h' H locs → (rt = none → decode cc pc = .ok (.return_, 1) → W p l e R s m args below meth c H locs cells slots Q (F0 m pc sl [])) ∧ (∀ ty, rt = some ty → pm_rk rt = 1 → decode cc pc = .ok (.ireturn, 1) → narrow ty (.int r) = .int r → W p l e R s m args below meth c H locs cells slots Q (F0 m pc sl [.int r])) ∧ (rt = some (.array .int) → decode cc pc = .ok (.areturn, 1) → W p l e R s m args below meth c H locs cells slots Q (F0 m pc sl [.ref (ad r.toNatClampNeg)]))) :
    ∀ (n pc : Nat) (ls st : List Value) (h : pm_Hp) (H : Heap) (locs : List Loc) (sl : Array Slot), pm_run C cd n pc ls st h = some (r, h') → pm_V D c3 ad L xs A s h H locs → pm_L ad ls sl nL → st.all pm_iv = true → W p l e R s m args below meth c H locs cells slots Q (F0 m pc sl (st.map (pm_tv ad))) := by
  intro n
  induction n with
  | zero => intro pc ls st h H locs sl hs; cases hs
  | succ n ih =>
    intro pc ls st h H locs sl hs V hL hst
    unfold pm_run at hs
    cases hcd : cd pc with
    | none => rw [hcd] at hs; cases hs
    | some ri =>
    rw [hcd] at hs
    obtain ⟨len, hdg, hok⟩ := hg pc ri hcd
    obtain ⟨I, nx, cv, ys, ks⟩ := ri
    have hnx : nx = pc + len := Nat.eq_of_beq_eq_true (Bool.and_eq_true_iff.mp hok).1
    subst hnx
    have hx := X.1.1
    have hb := X.1.2.1
    dsimp only at hdg
    cases I with
    | iconst v =>
      have h2 := Bool.and_eq_true_iff.mp (Bool.and_eq_true_iff.mp hok).2
      obtain rfl : len = 1 := Nat.eq_of_beq_eq_true h2.2
      exact lv_iconst hx hb hdg (of_decide_eq_true h2.1) (ih _ _ _ _ _ _ _ hs V hL hst)
    | bipush v =>
      have h2 := Bool.and_eq_true_iff.mp (Bool.and_eq_true_iff.mp hok).2
      obtain rfl : len = 2 := Nat.eq_of_beq_eq_true h2.2
      exact lv_bipush hx hb hdg (of_decide_eq_true h2.1) (ih _ _ _ _ _ _ _ hs V hL hst)
    | sipush v =>
      have h2 := Bool.and_eq_true_iff.mp (Bool.and_eq_true_iff.mp hok).2
      obtain rfl : len = 3 := Nat.eq_of_beq_eq_true h2.2
      exact lv_sipush hx hb hdg (of_decide_eq_true h2.1) (ih _ _ _ _ _ _ _ hs V hL hst)
    | ldc i =>
      have h2 := Bool.and_eq_true_iff.mp (Bool.and_eq_true_iff.mp hok).2
      obtain rfl : len = 2 := Nat.eq_of_beq_eq_true h2.1
      match ys, hs, h2.2 with
      | [], hs, h3 => exact lv_ldc hx hb X.1.2.2.2.1 (pm_w X (pm_CT_ok _ (of_decide_eq_true h3))) hdg (ih _ _ _ _ _ _ _ hs V hL hst)
      | [q], hs, h3 =>
        have h4 := Bool.and_eq_true_iff.mp h3
        have h5 := Bool.and_eq_true_iff.mp h4.1
        exact pm_ldcS X rfl h5.1 (of_decide_eq_true h4.2) hdg (ih _ _ _ _ _ _ _ hs V hL hst)
      | _ :: _ :: _, hs, h3 => cases h3
    | ldc_w i =>
      have h2 := Bool.and_eq_true_iff.mp (Bool.and_eq_true_iff.mp hok).2
      obtain rfl : len = 3 := Nat.eq_of_beq_eq_true h2.1
      exact lv_ldcw hx hb X.1.2.2.2.1 (pm_w X (pm_CT_ok _ (of_decide_eq_true h2.2))) hdg (ih _ _ _ _ _ _ _ hs V hL hst)
    | iload_n i =>
      obtain rfl : len = 1 := Nat.eq_of_beq_eq_true (Bool.and_eq_true_iff.mp hok).2
      dsimp only [pm_stp] at hs
      split at hs
      · rename_i x hx1
        exact lv_iload_n hx hb hdg rfl (hL.2.2.2 _ _ _ hx1 rfl) (ih _ _ _ _ _ _ _ hs V hL hst)
      · cases hs
    | iload i =>
      obtain rfl : len = 2 := Nat.eq_of_beq_eq_true (Bool.and_eq_true_iff.mp hok).2
      dsimp only [pm_stp] at hs
      split at hs
      · rename_i x hx1
        exact lv_iload hx hb hdg (hL.2.2.2 _ _ _ hx1 rfl) (ih _ _ _ _ _ _ _ hs V hL hst)
      · cases hs
    | aload_n i =>
      obtain rfl : len = 1 := Nat.eq_of_beq_eq_true (Bool.and_eq_true_iff.mp hok).2
      dsimp only [pm_stp] at hs
      split at hs
      · rename_i x hx1
        exact lv_aload_n hx hb hdg rfl (hL.2.2.2 _ _ _ hx1 rfl) (ih _ _ _ _ _ _ _ hs V hL hst)
      · cases hs
    | aload i =>
      obtain rfl : len = 2 := Nat.eq_of_beq_eq_true (Bool.and_eq_true_iff.mp hok).2
      dsimp only [pm_stp] at hs
      split at hs
      · rename_i x hx1
        exact lv_aload hx hb hdg (hL.2.2.2 _ _ _ hx1 rfl) (ih _ _ _ _ _ _ _ hs V hL hst)
      · cases hs
    | istore_n i =>
      obtain rfl : len = 1 := Nat.eq_of_beq_eq_true (Bool.and_eq_true_iff.mp hok).2
      dsimp only [pm_stp] at hs
      split at hs
      · rename_i x st
        cases hi : Nat.ble (i.val + 1) ls.length with
        | false => rw [hi] at hs; cases hs
        | true =>
          rw [hi, cond_true] at hs
          have hi2 : i.val < nL := by rw [← hL.1]; exact Nat.le_of_ble_eq_true hi
          exact lv_istore_n hx hb hdg rfl hL.has hi2 rfl (fun sl' h2 => ih _ _ _ _ _ _ _ hs V (hL.store rfl hi2 h2) hst)
      · cases hs
    | istore i =>
      obtain rfl : len = 2 := Nat.eq_of_beq_eq_true (Bool.and_eq_true_iff.mp hok).2
      dsimp only [pm_stp] at hs
      split at hs
      · rename_i x st
        cases hi : Nat.ble (i + 1) ls.length with
        | false => rw [hi] at hs; cases hs
        | true =>
          rw [hi, cond_true] at hs
          have hi2 : i < nL := by rw [← hL.1]; exact Nat.le_of_ble_eq_true hi
          exact lv_istore hx hb hdg hL.has hi2 rfl (fun sl' h2 => ih _ _ _ _ _ _ _ hs V (hL.store rfl hi2 h2) hst)
      · cases hs
    | astore_n i =>
      obtain rfl : len = 1 := Nat.eq_of_beq_eq_true (Bool.and_eq_true_iff.mp hok).2
      dsimp only [pm_stp] at hs
      split at hs
      · rename_i x st
        cases hi : Nat.ble (i.val + 1) ls.length with
        | false => rw [hi] at hs; cases hs
        | true =>
          rw [hi, cond_true] at hs
          have hi2 : i.val < nL := by rw [← hL.1]; exact Nat.le_of_ble_eq_true hi
          exact lv_astore_n hx hb hdg rfl hL.has hi2 rfl (fun sl' h2 => ih _ _ _ _ _ _ _ hs V (hL.store rfl hi2 h2) hst)
      · cases hs
    | astore i =>
      obtain rfl : len = 2 := Nat.eq_of_beq_eq_true (Bool.and_eq_true_iff.mp hok).2
      dsimp only [pm_stp] at hs
      split at hs
      · rename_i x st
        cases hi : Nat.ble (i + 1) ls.length with
        | false => rw [hi] at hs; cases hs
        | true =>
          rw [hi, cond_true] at hs
          have hi2 : i < nL := by rw [← hL.1]; exact Nat.le_of_ble_eq_true hi
          exact lv_astore hx hb hdg hL.has hi2 rfl (fun sl' h2 => ih _ _ _ _ _ _ _ hs V (hL.store rfl hi2 h2) hst)
      · cases hs
    | iinc i v =>
      have h2 := Bool.and_eq_true_iff.mp (Bool.and_eq_true_iff.mp hok).2
      obtain rfl : len = 3 := Nat.eq_of_beq_eq_true h2.2
      dsimp only [pm_stp] at hs
      split at hs
      · rename_i x hx1
        have hi2 : i < nL := by rw [← hL.1]; exact (List.getElem?_eq_some_iff.mp hx1).1
        obtain ⟨k, hk⟩ := List.mem_iff_getElem?.mp (pm_lv_mem.mpr ⟨_, hx1, rfl⟩ : (i, Value.int x) ∈ pm_lv ad ls)
        exact lv_iinc hx hb hdg hL.has hk (congrArg (x + ·) (of_decide_eq_true h2.1)) hi2 rfl (fun sl' h3 => ih _ _ _ _ _ _ _ hs V (hL.store rfl hi2 h3) hst)
      · cases hs
    | iadd =>
      obtain rfl : len = 1 := Nat.eq_of_beq_eq_true (Bool.and_eq_true_iff.mp hok).2
      dsimp only [pm_stp] at hs
      split at hs
      · exact lv_iadd hx hb hdg (ih _ _ _ _ _ _ _ hs V hL hst)
      · cases hs
    | isub =>
      obtain rfl : len = 1 := Nat.eq_of_beq_eq_true (Bool.and_eq_true_iff.mp hok).2
      dsimp only [pm_stp] at hs
      split at hs
      · exact lv_isub hx hb hdg (ih _ _ _ _ _ _ _ hs V hL hst)
      · cases hs
    | imul =>
      obtain rfl : len = 1 := Nat.eq_of_beq_eq_true (Bool.and_eq_true_iff.mp hok).2
      dsimp only [pm_stp] at hs
      split at hs
      · exact lv_imul hx hb hdg (ih _ _ _ _ _ _ _ hs V hL hst)
      · cases hs
    | iand =>
      obtain rfl : len = 1 := Nat.eq_of_beq_eq_true (Bool.and_eq_true_iff.mp hok).2
      dsimp only [pm_stp] at hs
      split at hs
      · exact lv_iand hx hb hdg (ih _ _ _ _ _ _ _ hs V hL hst)
      · cases hs
    | ior =>
      obtain rfl : len = 1 := Nat.eq_of_beq_eq_true (Bool.and_eq_true_iff.mp hok).2
      dsimp only [pm_stp] at hs
      split at hs
      · exact lv_ior hx hb hdg (ih _ _ _ _ _ _ _ hs V hL hst)
      · cases hs
    | ixor =>
      obtain rfl : len = 1 := Nat.eq_of_beq_eq_true (Bool.and_eq_true_iff.mp hok).2
      dsimp only [pm_stp] at hs
      split at hs
      · exact lv_ixor hx hb hdg (ih _ _ _ _ _ _ _ hs V hL hst)
      · cases hs
    | ishl =>
      obtain rfl : len = 1 := Nat.eq_of_beq_eq_true (Bool.and_eq_true_iff.mp hok).2
      dsimp only [pm_stp] at hs
      split at hs
      · exact lv_ishl hx hb hdg (ih _ _ _ _ _ _ _ hs V hL hst)
      · cases hs
    | ishr =>
      obtain rfl : len = 1 := Nat.eq_of_beq_eq_true (Bool.and_eq_true_iff.mp hok).2
      dsimp only [pm_stp] at hs
      split at hs
      · exact lv_ishr hx hb hdg (ih _ _ _ _ _ _ _ hs V hL hst)
      · cases hs
    | ineg =>
      obtain rfl : len = 1 := Nat.eq_of_beq_eq_true (Bool.and_eq_true_iff.mp hok).2
      dsimp only [pm_stp] at hs
      split at hs
      · exact lv_ineg hx hb hdg (ih _ _ _ _ _ _ _ hs V hL hst)
      · cases hs
    | iushr =>
      obtain rfl : len = 1 := Nat.eq_of_beq_eq_true (Bool.and_eq_true_iff.mp hok).2
      dsimp only [pm_stp] at hs
      split at hs
      · exact lv_iushr hx hb hdg rfl (ih _ _ _ _ _ _ _ hs V hL hst)
      · cases hs
    | i2c =>
      obtain rfl : len = 1 := Nat.eq_of_beq_eq_true (Bool.and_eq_true_iff.mp hok).2
      dsimp only [pm_stp] at hs
      split at hs
      · exact lv_i2c hx hb hdg rfl (ih _ _ _ _ _ _ _ hs V hL hst)
      · cases hs
    | i2b =>
      obtain rfl : len = 1 := Nat.eq_of_beq_eq_true (Bool.and_eq_true_iff.mp hok).2
      dsimp only [pm_stp] at hs
      split at hs
      · exact lv_i2b hx hb hdg rfl (ih _ _ _ _ _ _ _ hs V hL hst)
      · cases hs
    | idiv =>
      obtain rfl : len = 1 := Nat.eq_of_beq_eq_true (Bool.and_eq_true_iff.mp hok).2
      dsimp only [pm_stp] at hs
      split at hs
      · rename_i y x st
        by_cases hy : y = 0
        · rw [if_pos hy] at hs; cases hs
        · rw [if_neg hy] at hs
          exact lv_idiv hx hb hdg hy (ih _ _ _ _ _ _ _ hs V hL hst)
      · cases hs
    | irem =>
      obtain rfl : len = 1 := Nat.eq_of_beq_eq_true (Bool.and_eq_true_iff.mp hok).2
      dsimp only [pm_stp] at hs
      split at hs
      · rename_i y x st
        by_cases hy : y = 0
        · rw [if_pos hy] at hs; cases hs
        · rw [if_neg hy] at hs
          exact lv_irem hx hb hdg hy (ih _ _ _ _ _ _ _ hs V hL hst)
      · cases hs
    | dup =>
      obtain rfl : len = 1 := Nat.eq_of_beq_eq_true (Bool.and_eq_true_iff.mp hok).2
      dsimp only [pm_stp] at hs
      split at hs
      · exact lv_dup hx hb hdg rfl (ih _ _ _ _ _ _ _ hs V hL hst)
      · exact lv_dup hx hb hdg rfl (ih _ _ _ _ _ _ _ hs V hL hst)
      · cases hs
    | dup2 =>
      obtain rfl : len = 1 := Nat.eq_of_beq_eq_true (Bool.and_eq_true_iff.mp hok).2
      dsimp only [pm_stp] at hs
      split at hs
      · exact lv_dup2_11 hx hb hdg rfl rfl (ih _ _ _ _ _ _ _ hs V hL hst)
      · cases hs
    | pop =>
      obtain rfl : len = 1 := Nat.eq_of_beq_eq_true (Bool.and_eq_true_iff.mp hok).2
      dsimp only [pm_stp] at hs
      split at hs
      · exact lv_pop hx hb hdg rfl (ih _ _ _ _ _ _ _ hs V hL hst)
      · cases hs
    | if_icmp q f =>
      have h2 := Bool.and_eq_true_iff.mp (Bool.and_eq_true_iff.mp hok).2
      obtain rfl : len = 3 := Nat.eq_of_beq_eq_true h2.1
      dsimp only [pm_stp] at hs
      split at hs
      · rename_i y x st t
        have ht : (pc : Int) + f = (t : Int) := of_decide_eq_true h2.2
        cases q with
        | eq =>
          have h3 := pm_if_t hs
          exact lv_icmp_eq hx hb hdg ht (fun g => ih _ _ _ _ _ _ _ (h3.1 g) V hL hst) (fun g => ih _ _ _ _ _ _ _ (h3.2 g) V hL hst)
        | ne =>
          have h3 := pm_if_t hs
          exact lv_icmp_ne hx hb hdg ht (fun g => ih _ _ _ _ _ _ _ (h3.2 g) V hL hst) (fun g => ih _ _ _ _ _ _ _ (h3.1 g) V hL hst)
        | lt =>
          have h3 := pm_if_t hs
          exact lv_icmp_lt hx hb hdg ht (fun g => ih _ _ _ _ _ _ _ (h3.1 g) V hL hst) (fun g => ih _ _ _ _ _ _ _ (h3.2 g) V hL hst)
        | ge =>
          have h3 := pm_if_t hs
          exact lv_icmp_ge hx hb hdg ht (fun g => ih _ _ _ _ _ _ _ (h3.2 (Int32.not_lt.mpr g)) V hL hst) (fun g => ih _ _ _ _ _ _ _ (h3.1 (Int32.not_le.mp g)) V hL hst)
        | gt =>
          have h3 := pm_if_t hs
          exact lv_icmp_gt hx hb hdg ht (fun g => ih _ _ _ _ _ _ _ (h3.2 (Int32.not_le.mpr g)) V hL hst) (fun g => ih _ _ _ _ _ _ _ (h3.1 (Int32.not_lt.mp g)) V hL hst)
        | le =>
          have h3 := pm_if_t hs
          exact lv_icmp_le hx hb hdg ht (fun g => ih _ _ _ _ _ _ _ (h3.1 g) V hL hst) (fun g => ih _ _ _ _ _ _ _ (h3.2 g) V hL hst)
      · cases hs
    | ifCond q f =>
      have h2 := Bool.and_eq_true_iff.mp (Bool.and_eq_true_iff.mp hok).2
      obtain rfl : len = 3 := Nat.eq_of_beq_eq_true h2.1
      dsimp only [pm_stp] at hs
      split at hs
      · rename_i x st t
        have ht : (pc : Int) + f = (t : Int) := of_decide_eq_true h2.2
        cases q with
        | eq =>
          have h3 := pm_if_t hs
          exact lv_if_eq hx hb hdg ht (fun g => ih _ _ _ _ _ _ _ (h3.1 g) V hL hst) (fun g => ih _ _ _ _ _ _ _ (h3.2 g) V hL hst)
        | ne =>
          have h3 := pm_if_t hs
          exact lv_if_ne hx hb hdg ht (fun g => ih _ _ _ _ _ _ _ (h3.2 g) V hL hst) (fun g => ih _ _ _ _ _ _ _ (h3.1 g) V hL hst)
        | lt =>
          have h3 := pm_if_t hs
          exact lv_if_lt hx hb hdg ht (fun g => ih _ _ _ _ _ _ _ (h3.1 g) V hL hst) (fun g => ih _ _ _ _ _ _ _ (h3.2 g) V hL hst)
        | ge =>
          have h3 := pm_if_t hs
          exact lv_if_ge hx hb hdg ht (fun g => ih _ _ _ _ _ _ _ (h3.2 (Int32.not_lt.mpr g)) V hL hst) (fun g => ih _ _ _ _ _ _ _ (h3.1 (Int32.not_le.mp g)) V hL hst)
        | gt =>
          have h3 := pm_if_t hs
          exact lv_if_gt hx hb hdg ht (fun g => ih _ _ _ _ _ _ _ (h3.2 (Int32.not_le.mpr g)) V hL hst) (fun g => ih _ _ _ _ _ _ _ (h3.1 (Int32.not_lt.mp g)) V hL hst)
        | le =>
          have h3 := pm_if_t hs
          exact lv_if_le hx hb hdg ht (fun g => ih _ _ _ _ _ _ _ (h3.1 g) V hL hst) (fun g => ih _ _ _ _ _ _ _ (h3.2 g) V hL hst)
      · cases hs
    | goto f =>
      have h2 := Bool.and_eq_true_iff.mp (Bool.and_eq_true_iff.mp hok).2
      obtain rfl : len = 3 := Nat.eq_of_beq_eq_true h2.1
      dsimp only [pm_stp] at hs
      split at hs
      · rename_i t
        exact lv_goto hx hb hdg (of_decide_eq_true h2.2) (ih _ _ _ _ _ _ _ hs V hL hst)
      · cases hs
    | tableswitch d lo hi offs =>
      have h2 := (Bool.and_eq_true_iff.mp hok).2
      dsimp only [pm_stp] at hs
      split at hs
      · rename_i x st d1 ts
        simp only [Bool.and_eq_true, decide_eq_true_eq] at h2
        obtain ⟨⟨⟨⟨e1, e2⟩, e3⟩, e4⟩, e5⟩ := h2
        rcases pm_sw_spec ks ts e5 hs with ⟨j, t, g1, g2, g3⟩ | ⟨g1, g2⟩
        · have hj : j < ks.length := (List.getElem?_eq_some_iff.mp g1).1
          have hxj : x.toInt = lo + (j : Int) := by
            obtain ⟨hj2, hxx⟩ := List.getElem?_eq_some_iff.mp g1
            have := congrArg (fun l => l[j]?) e2
            simp [hj] at this
            rw [hxx] at this
            exact this
          have hoff : ∃ off, offs[j]? = some off ∧ (pc : Int) + off = (t : Int) := by
            have := congrArg (fun l => l[j]?) e4
            simpa [g2] using this
          obtain ⟨off, o1, o2⟩ := hoff
          exact lv_tableIn hx hb hdg (by omega) (by omega) (by rw [show (x.toInt - lo).toNat = j by omega]; exact o1) o2 (ih _ _ _ _ _ _ _ g3 V hL hst)
        · refine lv_tableOut hx hb hdg ?_ e1 (ih _ _ _ _ _ _ _ g2 V hL hst)
          by_cases hlo : x.toInt < lo
          · exact Or.inl hlo
          · by_cases hhi : hi < x.toInt
            · exact Or.inr hhi
            · exfalso
              have hj : (x.toInt - lo).toNat < ks.length := by omega
              have := congrArg (fun l => l[(x.toInt - lo).toNat]?) e2
              simp [hj] at this
              refine g1 (x.toInt - lo).toNat ?_
              rw [List.getElem?_eq_getElem hj]
              congr 1
              apply Int32.toInt_inj.mp
              omega
      · cases hs
    | lookupswitch d ps =>
      have h2 := (Bool.and_eq_true_iff.mp hok).2
      dsimp only [pm_stp] at hs
      split at hs
      · rename_i x st d1 ts
        have k3 := Bool.and_eq_true_iff.mp h2
        have k2 := Bool.and_eq_true_iff.mp k3.1
        have k1 := Bool.and_eq_true_iff.mp k2.1
        obtain ⟨t, t1, t2⟩ := pm_look (of_decide_eq_true k1.1) ps.toList ks ts (of_decide_eq_true k1.2) (of_decide_eq_true k2.2) hs
        exact lv_lookup hx hb hdg k3.2 rfl t2 (ih _ _ _ _ _ _ _ t1 V hL hst)
      · cases hs
    | getstatic i =>
      have h2 := Bool.and_eq_true_iff.mp (Bool.and_eq_true_iff.mp hok).2
      obtain rfl : len = 3 := Nat.eq_of_beq_eq_true h2.1
      dsimp only [pm_stp] at hs
      split at hs
      · have h3 := Bool.and_eq_true_iff.mp h2.2
        obtain rfl : cv = 1 := of_decide_eq_true h3.2
        exact pm_gets X V (pm_FL_ok _ (of_decide_eq_true h3.1)) hdg (ih _ _ _ _ _ _ _ hs V hL hst)
      · cases hs
    | getfield i =>
      have h2 := Bool.and_eq_true_iff.mp (Bool.and_eq_true_iff.mp hok).2
      obtain rfl : len = 3 := Nat.eq_of_beq_eq_true h2.1
      dsimp only [pm_stp] at hs
      split at hs
      · rename_i k st ci fk ft
        have h3 := Bool.and_eq_true_iff.mp h2.2
        have hfl := pm_FL_ok _ (of_decide_eq_true h3.1)
        cases hc : Nat.beq ci 20 with
        | true =>
          rw [hc, cond_true] at hs
          have h4 := h3.2
          rw [hc, cond_true, Bool.or_eq_true] at h4
          obtain rfl := Nat.eq_of_beq_eq_true hc
          cases hk : (Nat.ble 400 k && Nat.ble k 425) with
          | false => rw [hk] at hs; cases hs
          | true =>
            rw [hk, cond_true] at hs
            have hk2 := Bool.and_eq_true_iff.mp hk
            rcases h4 with h4 | h4
            · obtain rfl := Nat.eq_of_beq_eq_true h4
              exact pm_getS X V hk2.1 hk2.2 (Or.inl rfl) hfl hdg (ih _ _ _ _ _ _ _ hs V hL hst)
            · obtain rfl := Nat.eq_of_beq_eq_true h4
              exact pm_getS X V hk2.1 hk2.2 (Or.inr rfl) hfl hdg (ih _ _ _ _ _ _ _ hs V hL hst)
        | false =>
          rw [hc, cond_false] at hs
          have h4 := h3.2
          rw [hc, cond_false] at h4
          have h5 := of_decide_eq_true h4
          cases hk : Nat.beq (pm_ob k).1 ci with
          | false => rw [hk] at hs; cases hs
          | true =>
            rw [hk, cond_true] at hs
            have hk2 := Nat.eq_of_beq_eq_true hk
            have hci : ci ≤ 10 := pm_ft_lt h5
            refine pm_getf X V hk2 hci (List.getElem?_eq_some_iff.mp h5).1 hfl hdg ?_
            have h6 : (pm_ft (pm_ob k).1).getD fk 0 = ft := by rw [hk2, List.getD_eq_getElem?_getD, h5]; rfl
            unfold pm_fld
            rw [h6]
            cases hf : Nat.beq ft 2 with
            | true => rw [hf, cond_true] at hs; exact ih _ _ _ _ _ _ _ hs V hL hst
            | false => rw [hf, cond_false] at hs; exact ih _ _ _ _ _ _ _ hs V hL hst
      · cases hs
    | putfield i =>
      have h2 := Bool.and_eq_true_iff.mp (Bool.and_eq_true_iff.mp hok).2
      obtain rfl : len = 3 := Nat.eq_of_beq_eq_true h2.1
      dsimp only [pm_stp] at hs
      split at hs
      · rename_i v k st ci fk ft
        have h3 := Bool.and_eq_true_iff.mp h2.2
        have h4 := Bool.and_eq_true_iff.mp h3.1
        have hfl := pm_FL_ok _ (of_decide_eq_true h4.1)
        have h5 := of_decide_eq_true h4.2
        cases hk : Nat.beq (pm_ob k).1 ci with
        | false => rw [hk] at hs; cases hs
        | true =>
          rw [hk, cond_true] at hs
          have hk2 := Nat.eq_of_beq_eq_true hk
          have hci : ci ≤ 10 := pm_ft_lt h5
          have hfin : ft ≠ 2 → (pm_T ci fk).2.2.2 = false := fun g => by
            have := h3.2
            rw [pm_beqF g, Bool.false_or, Bool.not_eq_true'] at this
            exact this
          cases h0 : Nat.beq ft 0 with
          | true =>
            rw [h0, cond_true] at hs
            obtain rfl := Nat.eq_of_beq_eq_true h0
            exact pm_putf X V hk2 hci h5 (by omega) hfl (hfin (by omega)) (fun g => by cases g) hdg (fun H1 locs1 V1 => ih _ _ _ _ _ _ _ hs V1 hL hst)
          | false =>
            rw [h0, cond_false] at hs
            cases h1 : Nat.beq ft 1 with
            | true =>
              rw [h1, cond_true] at hs
              obtain rfl := Nat.eq_of_beq_eq_true h1
              by_cases hv : v = 0 ∨ v = 1
              · rw [if_pos hv] at hs
                exact pm_putf X V hk2 hci h5 (by omega) hfl (hfin (by omega)) (fun _ => hv) hdg (fun H1 locs1 V1 => ih _ _ _ _ _ _ _ hs V1 hL hst)
              · rw [if_neg hv] at hs; cases hs
            | false => rw [h1] at hs; cases hs
      · cases hs
    | iaload =>
      obtain rfl : len = 1 := Nat.eq_of_beq_eq_true (Bool.and_eq_true_iff.mp hok).2
      dsimp only [pm_stp] at hs
      split at hs
      · rename_i i k st
        cases h3 : Nat.beq k 300 with
        | true =>
          rw [h3, cond_true] at hs
          obtain rfl := Nat.eq_of_beq_eq_true h3
          by_cases hi : i < 0 ∨ (h 301 0).toNatClampNeg ≤ i.toNatClampNeg
          · rw [if_pos hi] at hs; cases hs
          · rw [if_neg hi] at hs
            exact pm_sld X V hi hdg (ih _ _ _ _ _ _ _ hs V hL hst)
        | false =>
          rw [h3, cond_false] at hs
          cases hk : Nat.beq (pm_ob k).1 11 with
          | false => rw [hk] at hs; cases hs
          | true =>
            rw [hk, cond_true] at hs
            by_cases hi : i < 0 ∨ (pm_ob k).2.1 ≤ i.toNatClampNeg
            · rw [if_pos hi] at hs; cases hs
            · rw [if_neg hi] at hs
              exact pm_ial X V (Nat.eq_of_beq_eq_true hk) hi hdg (ih _ _ _ _ _ _ _ hs V hL hst)
      · cases hs
    | aaload =>
      obtain rfl : len = 1 := Nat.eq_of_beq_eq_true (Bool.and_eq_true_iff.mp hok).2
      dsimp only [pm_stp] at hs
      split at hs
      · rename_i i k st
        cases hk : (Nat.beq (pm_ob k).1 12 || Nat.beq (pm_ob k).1 13) with
        | false => rw [hk] at hs; cases hs
        | true =>
          rw [hk, cond_true] at hs
          have hk2 : (pm_ob k).1 = 12 ∨ (pm_ob k).1 = 13 := ((Bool.or_eq_true _ _).mp hk).imp Nat.eq_of_beq_eq_true Nat.eq_of_beq_eq_true
          by_cases hi : i < 0 ∨ (pm_ob k).2.1 ≤ i.toNatClampNeg
          · rw [if_pos hi] at hs; cases hs
          · rw [if_neg hi] at hs
            exact pm_aal X V hk2 hi hdg (ih _ _ _ _ _ _ _ hs V hL hst)
      · cases hs
    | baload =>
      obtain rfl : len = 1 := Nat.eq_of_beq_eq_true (Bool.and_eq_true_iff.mp hok).2
      dsimp only [pm_stp] at hs
      split at hs
      · rename_i i k st
        cases hk : (Nat.ble 500 k && Nat.ble k 525) with
        | false => rw [hk] at hs; cases hs
        | true =>
          rw [hk, cond_true] at hs
          have hk2 := Bool.and_eq_true_iff.mp hk
          by_cases hi : i < 0 ∨ lenJS.getD (k - 500) 0 ≤ i.toNatClampNeg
          · rw [if_pos hi] at hs; cases hs
          · rw [if_neg hi] at hs
            have hst2 : st.all pm_iv = true := hst
            exact pm_bal X V hk2.1 hk2.2 hi hdg (ih _ _ _ _ _ _ _ hs V hL hst2)
      · cases hs
    | iastore =>
      obtain rfl : len = 1 := Nat.eq_of_beq_eq_true (Bool.and_eq_true_iff.mp hok).2
      dsimp only [pm_stp] at hs
      split at hs
      · rename_i v i k st
        cases hk : Nat.beq (pm_ob k).1 11 with
        | false => rw [hk] at hs; cases hs
        | true =>
          rw [hk, cond_true] at hs
          by_cases hi : i < 0 ∨ (pm_ob k).2.1 ≤ i.toNatClampNeg
          · rw [if_pos hi] at hs; cases hs
          · rw [if_neg hi] at hs
            exact pm_ias X V (Nat.eq_of_beq_eq_true hk) hi hdg (fun H1 locs1 V1 => ih _ _ _ _ _ _ _ hs V1 hL hst)
      · cases hs
    | arraylength =>
      obtain rfl : len = 1 := Nat.eq_of_beq_eq_true (Bool.and_eq_true_iff.mp hok).2
      dsimp only [pm_stp] at hs
      split at hs
      · rename_i k st
        cases h3 : Nat.beq k 300 with
        | true =>
          rw [h3, cond_true] at hs
          obtain rfl := Nat.eq_of_beq_eq_true h3
          exact pm_slen X V hdg (ih _ _ _ _ _ _ _ hs V hL hst)
        | false =>
          rw [h3, cond_false] at hs
          cases hk : (Nat.ble 500 k && Nat.ble k 525) with
          | true =>
            rw [hk, cond_true] at hs
            have hk2 := Bool.and_eq_true_iff.mp hk
            exact pm_blen X V hk2.1 hk2.2 hdg (ih _ _ _ _ _ _ _ hs V hL hst)
          | false =>
            rw [hk, cond_false] at hs
            cases hk1 : Nat.beq (pm_ob k).1 11 with
            | false => rw [hk1] at hs; cases hs
            | true =>
              rw [hk1, cond_true] at hs
              exact pm_alen X V (Nat.eq_of_beq_eq_true hk1) hdg (ih _ _ _ _ _ _ _ hs V hL hst)
      · cases hs
    | invokevirtual i =>
      have h2 := Bool.and_eq_true_iff.mp (Bool.and_eq_true_iff.mp hok).2
      obtain rfl : len = 3 := Nat.eq_of_beq_eq_true h2.1
      dsimp only [pm_stp] at hs
      split at hs
      · rename_i mj na rk ci
        exact pm_callV X V hL hst hC hR hcs hdg h2.2 hs (fun h1 st1 H1 locs1 hs1 V1 hst1 => ih _ _ _ _ _ _ _ hs1 V1 hL hst1)
      · cases hs
    | invokestatic i =>
      have h2 := Bool.and_eq_true_iff.mp (Bool.and_eq_true_iff.mp hok).2
      obtain rfl : len = 3 := Nat.eq_of_beq_eq_true h2.1
      dsimp only [pm_stp] at hs
      split at hs
      · rename_i mj na rk z
        cases h3 : Nat.beq rk 3 with
        | true =>
          have h4 := h2.2
          dsimp only at h4
          rw [h3, cond_true] at hs h4
          have h5 := Bool.and_eq_true_iff.mp h4
          split at hs
          · rename_i n1 dp k1 sp k0 st
            have hst2 : st.all pm_iv = true := hst
            exact pm_copy X V hL hst2 hR hdg (Nat.eq_of_beq_eq_true h5.1) (Nat.eq_of_beq_eq_true h5.2) hs (fun h1 st1 H1 locs1 hs1 V1 hst1 => ih _ _ _ _ _ _ _ hs1 V1 hL hst1)
          · cases hs
        | false =>
          have h4 := h2.2
          dsimp only at h4
          rw [h3, cond_false] at hs h4
          cases h6 : Nat.beq rk 4 with
          | true =>
            rw [h6, cond_true] at hs h4
            have h5 := Bool.and_eq_true_iff.mp h4
            split at hs
            · rename_i n1 i1 st
              have hst2 : st.all pm_iv = true := hst
              exact pm_chk X V hL hst2 hR hI hcs hdg (Nat.eq_of_beq_eq_true h5.1) (Nat.eq_of_beq_eq_true h5.2) hs (fun h1 st1 H1 locs1 hs1 V1 hst1 => ih _ _ _ _ _ _ _ hs1 V1 hL hst1)
            · cases hs
          | false =>
            rw [h6, cond_false] at hs h4
            exact pm_callS X V hL hst hC hR hcs hdg h4 hs (fun h1 st1 H1 locs1 hs1 V1 hst1 => ih _ _ _ _ _ _ _ hs1 V1 hL hst1)
      · cases hs
    | ireturn =>
      have h2 := Bool.and_eq_true_iff.mp (Bool.and_eq_true_iff.mp hok).2
      obtain rfl : len = 1 := Nat.eq_of_beq_eq_true h2.1
      dsimp only [pm_stp] at hs
      split at hs
      · rename_i v q
        have hrt : ∃ ty, rt = some ty ∧ pm_rk rt = 1 ∧ r = v ∧ h' = h ∧ narrow ty (.int v) = .int v := pm_iret hs h2.2
        obtain ⟨ty, e1, e3, rfl, rfl, e2⟩ := hrt
        exact (hK pc sl H locs V).2.1 ty e1 e3 hdg e2
      · cases hs
    | areturn =>
      have h2 := Bool.and_eq_true_iff.mp (Bool.and_eq_true_iff.mp hok).2
      obtain rfl : len = 1 := Nat.eq_of_beq_eq_true h2.1
      have h3 := h2.2
      dsimp only [pm_stp] at hs
      split at hs
      · rename_i k
        cases hk : Nat.beq (pm_ob k).1 11 with
        | false => rw [hk] at hs; cases hs
        | true =>
          rw [hk, cond_true] at hs
          have hk2 := pm_ob_lt (Nat.eq_of_beq_eq_true hk) (by omega)
          cases hs
          have h9 := (hK pc sl H locs V).2.2 (pm_aret h3) hdg
          rw [nI_clamp (by omega)] at h9
          exact h9
      · cases hs
    | return_ =>
      have h2 := Bool.and_eq_true_iff.mp (Bool.and_eq_true_iff.mp hok).2
      obtain rfl : len = 1 := Nat.eq_of_beq_eq_true h2.1
      have h3 := h2.2
      dsimp only [pm_stp] at hs
      split at hs
      · cases hs
        exact (hK pc sl H locs V).1 (pm_vret h3) hdg
      · cases hs
    | _ =>
      have hz : (none : pm_Rs) = some (r, h') := hs
      cases hz
end PMRUN
