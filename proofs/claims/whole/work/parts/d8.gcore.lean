/-! MAKING: where the machine of making comes to an end, the machine does, and alike -/
def g_ok2 (ri : pm_RI) : Bool := match ri with
  | (.getfield _, _, _, ci :: _, _) => Nat.ble ci 10
  | _ => true
theorem g_all_of {f : pm_RI → Bool} : ∀ {l : List (Nat × pm_RI)}, l.all (fun q => f q.2) = true → ∀ (pc : Nat) (ri : pm_RI), g_look l pc = some ri → f ri = true
  | [], _, pc, ri, h => by cases h
  | q :: l, ha, pc, ri, h => by
    rw [List.all_cons, Bool.and_eq_true] at ha
    unfold g_look at h
    cases e : Nat.beq q.1 pc with
    | true => rw [e, cond_true] at h; cases h; exact ha.1
    | false => rw [e, cond_false] at h; exact g_all_of ha.2 pc ri h
theorem g_G2 : ∀ mj, g_ctor mj → ∀ (pc : Nat) (ri : pm_RI), g_look (g_T mj) pc = some ri → g_ok2 ri = true := by
  intro mj h
  rcases h with rfl | rfl | rfl | rfl | rfl | rfl | rfl | rfl | rfl | rfl | rfl <;> exact g_all_of (by decide +kernel)
theorem g_in_spec {n : Nat} {ls st : List Value} (h : g_in n ls st = true) : ls.all (g_lt n) = true ∧ st.all (g_lt n) = true := Bool.and_eq_true_iff.mp h
section GRUN
variable {p : Program} {l : Launch} {e : Env} {R : Room} {s : State} {m : MethodId} {args : Array Value} {below : List Frame} {meth : Method} {c : Code}
variable {D : va_G} {c3 : ClassId × ClassId × ClassId} {base : Nat} {cc : ByteArray} {nL oc : Nat}
theorem g_core {C : Nat → Nat → gW → Option gW} {d : Nat} {lt : List (Nat × pm_RI)} {Rc Rs : Nat} {as0 : List Nat} {wf : gW} (X : g_X D c3 base p s m args c cc nL (pm_cn oc)) (hg : g_good oc cc lt) (hg2 : ∀ (pc : Nat) (ri : pm_RI), g_look lt pc = some ri → g_ok2 ri = true) (hC : g_CC l D c3 base C d) (hin : meth.name = "<init>") (hr : meth.sig.returnType = none) (hlocks : meth.locks = false) (hRc : R.cells = Rc ∧ R.slots = Rs) (hR : d + 2 ≤ R.frames ∧ 60 + 60 * (d + 1) ≤ R.locals) :
    ∀ (n pc : Nat) (ls st : List Value) (a b : Nat) (w : gW) (as : List Nat) (H : Heap) (locs : List Loc) (sl : Array Slot), g_run C g_mc g_ms lt Rc Rs n pc ls st a b w = some wf → (∃ bs, as = as0 ++ bs) → g_V D c3 base s as w H locs → pm_L (g_ad as) ls sl nL → st.all pm_iv = true →
      W p l e R s m args below meth c H locs a b (MQ below (va_Qv (S := List Nat) (fun _ => True) (fun bs t => g_B D c3 base (as0 ++ bs) wf t) (g_A base)) args s Rc Rs (g_A base)) (F0 m pc sl (st.map (pm_tv (g_ad as)))) := by
  have hx := X.1.1
  have hb := X.1.2.1
  intro n
  induction n with
  | zero => intro pc ls st a b w as H locs sl hs; cases hs
  | succ n ih =>
    intro pc ls st a b w as H locs sl hs hbs V hL hst
    unfold g_run at hs
    cases hcd : g_look lt pc with
    | none => rw [hcd] at hs; cases hs
    | some ri =>
    rw [hcd] at hs
    obtain ⟨len, hdg, hok⟩ := hg pc ri hcd
    obtain ⟨I, nx, cv, ys, ks⟩ := ri
    have hnx : nx = pc + len := Nat.eq_of_beq_eq_true (Bool.and_eq_true_iff.mp hok).1
    subst hnx
    have hok2 := (Bool.and_eq_true_iff.mp hok).2
    dsimp only at hdg hs
    have old : ∀ {bs : List Nat} {sl : Array Slot} {ls : List Value}, g_in w.length ls st = true → pm_L (g_ad as) ls sl nL → pm_L (g_ad (as ++ bs)) ls sl nL := fun hi h => g_L_cg (by rw [V.1]; exact (g_in_spec hi).1) h
    have grow : ∀ {bs : List Nat}, ∃ bs', as ++ bs = as0 ++ bs' := fun {bs} => by
      obtain ⟨bs0, rfl⟩ := hbs
      exact ⟨bs0 ++ bs, List.append_assoc _ _ _⟩
    cases I with
    | iconst v =>
      have h2 := Bool.and_eq_true_iff.mp (Bool.and_eq_true_iff.mp hok2).2
      obtain rfl : len = 1 := Nat.eq_of_beq_eq_true h2.2
      exact lv_iconst hx hb hdg (of_decide_eq_true h2.1) (ih _ _ _ _ _ _ _ _ _ _ hs hbs V hL hst)
    | bipush v =>
      have h2 := Bool.and_eq_true_iff.mp (Bool.and_eq_true_iff.mp hok2).2
      obtain rfl : len = 2 := Nat.eq_of_beq_eq_true h2.2
      exact lv_bipush hx hb hdg (of_decide_eq_true h2.1) (ih _ _ _ _ _ _ _ _ _ _ hs hbs V hL hst)
    | sipush v =>
      have h2 := Bool.and_eq_true_iff.mp (Bool.and_eq_true_iff.mp hok2).2
      obtain rfl : len = 3 := Nat.eq_of_beq_eq_true h2.2
      exact lv_sipush hx hb hdg (of_decide_eq_true h2.1) (ih _ _ _ _ _ _ _ _ _ _ hs hbs V hL hst)
    | iload_n i =>
      obtain rfl : len = 1 := Nat.eq_of_beq_eq_true (Bool.and_eq_true_iff.mp hok2).2
      dsimp only [g_stp] at hs
      split at hs
      · rename_i x hx1
        exact lv_iload_n hx hb hdg rfl (hL.2.2.2 _ _ _ hx1 rfl) (ih _ _ _ _ _ _ _ _ _ _ hs hbs V hL hst)
      · cases hs
    | aload_n i =>
      obtain rfl : len = 1 := Nat.eq_of_beq_eq_true (Bool.and_eq_true_iff.mp hok2).2
      dsimp only [g_stp] at hs
      split at hs
      · rename_i x hx1
        exact lv_aload_n hx hb hdg rfl (hL.2.2.2 _ _ _ hx1 rfl) (ih _ _ _ _ _ _ _ _ _ _ hs hbs V hL hst)
      · cases hs
    | istore_n i =>
      obtain rfl : len = 1 := Nat.eq_of_beq_eq_true (Bool.and_eq_true_iff.mp hok2).2
      dsimp only [g_stp] at hs
      split at hs
      · rename_i x st
        cases hi : Nat.ble (i.val + 1) ls.length with
        | false => rw [hi] at hs; cases hs
        | true =>
          rw [hi, cond_true] at hs
          have hi2 : i.val < nL := by rw [← hL.1]; exact Nat.le_of_ble_eq_true hi
          exact lv_istore_n hx hb hdg rfl hL.has hi2 rfl (fun sl' h2 => ih _ _ _ _ _ _ _ _ _ _ hs hbs V (hL.store rfl hi2 h2) hst)
      · cases hs
    | iinc i v =>
      have h2 := Bool.and_eq_true_iff.mp (Bool.and_eq_true_iff.mp hok2).2
      obtain rfl : len = 3 := Nat.eq_of_beq_eq_true h2.2
      dsimp only [g_stp] at hs
      split at hs
      · rename_i x hx1
        have hi2 : i < nL := by rw [← hL.1]; exact (List.getElem?_eq_some_iff.mp hx1).1
        obtain ⟨k, hk⟩ := List.mem_iff_getElem?.mp (pm_lv_mem.mpr ⟨_, hx1, rfl⟩ : (i, Value.int x) ∈ pm_lv (g_ad as) ls)
        exact lv_iinc hx hb hdg hL.has hk (congrArg (x + ·) (of_decide_eq_true h2.1)) hi2 rfl (fun sl' h3 => ih _ _ _ _ _ _ _ _ _ _ hs hbs V (hL.store rfl hi2 h3) hst)
      · cases hs
    | dup =>
      obtain rfl : len = 1 := Nat.eq_of_beq_eq_true (Bool.and_eq_true_iff.mp hok2).2
      dsimp only [g_stp] at hs
      split at hs
      · exact lv_dup hx hb hdg rfl (ih _ _ _ _ _ _ _ _ _ _ hs hbs V hL hst)
      · cases hs
    | if_icmp q f =>
      have h2 := Bool.and_eq_true_iff.mp (Bool.and_eq_true_iff.mp hok2).2
      obtain rfl : len = 3 := Nat.eq_of_beq_eq_true h2.1
      cases q with
      | ge =>
        dsimp only [g_stp] at hs
        split at hs
        · rename_i y x st t
          have ht : (pc : Int) + f = (t : Int) := of_decide_eq_true h2.2
          exact lv_icmp_ge hx hb hdg ht (fun g => ih _ _ _ _ _ _ _ _ _ _ (by rw [if_neg (Int32.not_lt.mpr g)] at hs; exact hs) hbs V hL hst) (fun g => ih _ _ _ _ _ _ _ _ _ _ (by rw [if_pos (Int32.not_le.mp g)] at hs; exact hs) hbs V hL hst)
        · cases hs
      | _ => cases hs
    | goto f =>
      have h2 := Bool.and_eq_true_iff.mp (Bool.and_eq_true_iff.mp hok2).2
      obtain rfl : len = 3 := Nat.eq_of_beq_eq_true h2.1
      dsimp only [g_stp] at hs
      split at hs
      · rename_i t
        exact lv_goto hx hb hdg (of_decide_eq_true h2.2) (ih _ _ _ _ _ _ _ _ _ _ hs hbs V hL hst)
      · cases hs
    | new i =>
      have h2 := Bool.and_eq_true_iff.mp hok2
      obtain rfl : len = 3 := Nat.eq_of_beq_eq_true h2.1
      dsimp only [g_stp] at hs
      split at hs
      · rename_i ci
        have h3 := Bool.and_eq_true_iff.mp h2.2
        cases hc : (g_in w.length ls st && Nat.ble (a + 1) Rc && Nat.ble (b + (pm_ft ci).length) Rs) with
        | false => rw [hc] at hs; cases hs
        | true =>
          rw [hc, cond_true] at hs
          have k1 := Bool.and_eq_true_iff.mp hc
          have k2 := Bool.and_eq_true_iff.mp k1.1
          refine g_newO X V (Nat.le_of_ble_eq_true h3.2) (of_decide_eq_true h3.1) (by rw [hRc.1]; exact Nat.le_of_ble_eq_true k2.2) (by rw [hRc.2]; exact Nat.le_of_ble_eq_true k1.2) hdg (fun q H1 V1 => ?_)
          have h9 := ih _ _ _ _ _ _ (as ++ [q]) H1 locs sl hs grow V1 (old k2.1 hL) hst
          rw [List.map_cons, g_tv_cg (by rw [V.1]; exact (g_in_spec k2.1).2)] at h9
          have e1 : pm_tv (g_ad (as ++ [q])) (.ref w.length) = .ref q := by show Value.ref _ = _; rw [← V.1, g_ad_new]
          rw [e1] at h9
          exact h9
      · cases hs
    | newarray t =>
      obtain rfl : len = 2 := Nat.eq_of_beq_eq_true hok2
      cases t with
      | int =>
        dsimp only [g_stp] at hs
        split at hs
        · rename_i z st
          by_cases h0 : z < 0
          · rw [if_pos h0] at hs; cases hs
          · rw [if_neg h0] at hs
            cases hc : (g_in w.length ls st && Nat.ble z.toNatClampNeg 3000 && Nat.ble (a + 1) Rc && Nat.ble (b + z.toNatClampNeg) Rs) with
            | false => rw [hc] at hs; cases hs
            | true =>
              rw [hc, cond_true] at hs
              have k1 := Bool.and_eq_true_iff.mp hc
              have k2 := Bool.and_eq_true_iff.mp k1.1
              have k3 := Bool.and_eq_true_iff.mp k2.1
              refine g_newI X V h0 (Nat.le_of_ble_eq_true k3.2) (by rw [hRc.1]; exact Nat.le_of_ble_eq_true k2.2) (by rw [hRc.2]; exact Nat.le_of_ble_eq_true k1.2) hdg (fun q H1 V1 => ?_)
              have h9 := ih _ _ _ _ _ _ (as ++ [q]) H1 locs sl hs grow V1 (g_L_cg (by rw [V.1]; exact (g_in_spec k3.1).1) hL) hst
              rw [List.map_cons, g_tv_cg (by rw [V.1]; exact (g_in_spec k3.1).2)] at h9
              have e1 : pm_tv (g_ad (as ++ [q])) (.ref w.length) = .ref q := by show Value.ref _ = _; rw [← V.1, g_ad_new]
              rw [e1] at h9
              exact h9
        · cases hs
      | _ => cases hs
    | anewarray i =>
      have h2 := Bool.and_eq_true_iff.mp hok2
      have h3 := Bool.and_eq_true_iff.mp h2.1
      obtain rfl : len = 3 := Nat.eq_of_beq_eq_true h3.1
      dsimp only [g_stp] at hs
      split at hs
      · rename_i z st
        by_cases h0 : z < 0
        · rw [if_pos h0] at hs; cases hs
        · rw [if_neg h0] at hs
          cases hc : (g_in w.length ls st && Nat.ble z.toNatClampNeg 3000 && Nat.ble (a + 1) Rc && Nat.ble (b + z.toNatClampNeg) Rs) with
          | false => rw [hc] at hs; cases hs
          | true =>
            rw [hc, cond_true] at hs
            have k1 := Bool.and_eq_true_iff.mp hc
            have k2 := Bool.and_eq_true_iff.mp k1.1
            have k3 := Bool.and_eq_true_iff.mp k2.1
            refine g_newA X V (of_decide_eq_true h3.2) (of_decide_eq_true h2.2) h0 (Nat.le_of_ble_eq_true k3.2) (by rw [hRc.1]; exact Nat.le_of_ble_eq_true k2.2) (by rw [hRc.2]; exact Nat.le_of_ble_eq_true k1.2) hdg (fun q H1 V1 => ?_)
            have h9 := ih _ _ _ _ _ _ (as ++ [q]) H1 locs sl hs grow V1 (g_L_cg (by rw [V.1]; exact (g_in_spec k3.1).1) hL) hst
            rw [List.map_cons, g_tv_cg (by rw [V.1]; exact (g_in_spec k3.1).2)] at h9
            have e1 : pm_tv (g_ad (as ++ [q])) (.ref w.length) = .ref q := by show Value.ref _ = _; rw [← V.1, g_ad_new]
            rw [e1] at h9
            exact h9
      · cases hs
    | multianewarray i dm =>
      have h2 := Bool.and_eq_true_iff.mp hok2
      have h3 := Bool.and_eq_true_iff.mp h2.1
      have h4 := Bool.and_eq_true_iff.mp h3.1
      obtain rfl : len = 4 := Nat.eq_of_beq_eq_true h4.1
      dsimp only [g_stp] at hs
      split at hs
      · rename_i y x st
        by_cases h0 : x = 7 ∧ y = 6
        · rw [if_pos h0] at hs
          obtain ⟨rfl, rfl⟩ := h0
          cases hc : (g_in w.length ls st && Nat.ble (a + 8) Rc && Nat.ble (b + 49) Rs) with
          | false => rw [hc] at hs; cases hs
          | true =>
            rw [hc, cond_true] at hs
            have k1 := Bool.and_eq_true_iff.mp hc
            have k2 := Bool.and_eq_true_iff.mp k1.1
            refine g_newG X V (of_decide_eq_true h4.2) (of_decide_eq_true h3.2) (of_decide_eq_true h2.2) (by rw [hRc.1]; exact Nat.le_of_ble_eq_true k2.2) (by rw [hRc.2]; exact Nat.le_of_ble_eq_true k1.2) hdg (fun q qs H1 locs1 hq V1 => ?_)
            have h9 := ih _ _ _ _ _ _ (as ++ qs) H1 locs1 sl hs grow V1 (g_L_cg (by rw [V.1]; exact (g_in_spec k2.1).1) hL) hst
            rw [List.map_cons, g_tv_cg (by rw [V.1]; exact (g_in_spec k2.1).2)] at h9
            have e1 : pm_tv (g_ad (as ++ qs)) (.ref w.length) = .ref q := by show Value.ref _ = _; rw [hq]
            rw [e1] at h9
            exact h9
        · rw [if_neg h0] at hs; cases hs
      · cases hs
    | getfield i =>
      have h2 := Bool.and_eq_true_iff.mp (Bool.and_eq_true_iff.mp hok2).2
      obtain rfl : len = 3 := Nat.eq_of_beq_eq_true h2.1
      dsimp only [g_stp] at hs
      split at hs
      · rename_i k st ci fk ft
        have h3 := Bool.and_eq_true_iff.mp h2.2
        have hfl := pm_FL_ok _ (of_decide_eq_true h3.1)
        cases hc : (Nat.ble (k + 1) w.length && Nat.beq (g_at w k).1 ci && Nat.beq (g_at w k).2.1 (pm_ft ci).length && Nat.beq ft 2) with
        | false => rw [hc] at hs; cases hs
        | true =>
          rw [hc, cond_true] at hs
          have k1 := Bool.and_eq_true_iff.mp hc
          have k2 := Bool.and_eq_true_iff.mp k1.1
          have k3 := Bool.and_eq_true_iff.mp k2.1
          obtain rfl := Nat.eq_of_beq_eq_true k1.2
          split at hs
          · rename_i r hr9
            have h4 := h3.2
            have hc10 : Nat.beq ci 20 = false := by
              have z := Nat.le_of_ble_eq_true (hg2 pc _ hcd)
              exact pm_beqF (by omega)
            rw [hc10, cond_false] at h4
            have h5 := of_decide_eq_true h4
            exact g_getR X V (Nat.le_of_ble_eq_true k3.1) (Nat.eq_of_beq_eq_true k3.2) (Nat.eq_of_beq_eq_true k2.2) (pm_ft_lt h5) h5 hr9 hfl hdg (ih _ _ _ _ _ _ _ _ _ _ hs hbs V hL hst)
          · cases hs
      · cases hs
    | putfield i =>
      have h1 := Bool.and_eq_true_iff.mp hok2
      have h2 := Bool.and_eq_true_iff.mp (Bool.and_eq_true_iff.mp h1.1).2
      obtain rfl : len = 3 := Nat.eq_of_beq_eq_true h2.1
      dsimp only [g_stp] at hs
      split at hs
      · rename_i v k st ci fk ft
        have h3 := Bool.and_eq_true_iff.mp h2.2
        have h4 := Bool.and_eq_true_iff.mp h3.1
        have hfl := pm_FL_ok _ (of_decide_eq_true h4.1)
        have h5 := of_decide_eq_true h4.2
        cases hc : (Nat.ble (k + 1) w.length && Nat.beq (g_at w k).1 ci && Nat.beq (g_at w k).2.1 (pm_ft ci).length && (Nat.beq ft 0 || Nat.beq ft 1)) with
        | false => rw [hc] at hs; cases hs
        | true =>
          rw [hc, cond_true] at hs
          have k1 := Bool.and_eq_true_iff.mp hc
          have k2 := Bool.and_eq_true_iff.mp k1.1
          have k3 := Bool.and_eq_true_iff.mp k2.1
          have hft : ft = 0 ∨ ft = 1 := ((Bool.or_eq_true _ _).mp k1.2).imp Nat.eq_of_beq_eq_true Nat.eq_of_beq_eq_true
          by_cases hv : v = 0 ∨ v = 1 ∨ ft = 0
          · rw [if_pos hv] at hs
            have h6 := h1.2
            have hfin : (pm_T ci fk).2.2.2 = false := by
              dsimp only at h6
              rw [pm_beqF (a := ft) (b := 2) (by omega), Bool.false_and, Bool.false_and, Bool.false_or, Bool.not_false, Bool.true_and, Bool.not_eq_true'] at h6
              exact h6
            exact g_putI X V (Nat.le_of_ble_eq_true k3.1) (Nat.eq_of_beq_eq_true k3.2) (Nat.eq_of_beq_eq_true k2.2) (pm_ft_lt h5) h5 hft (fun z => hv.elim Or.inl (fun h => h.elim Or.inr (fun h0 => absurd (h0.symm.trans z) (by decide)))) hfl hfin hdg (fun H1 locs1 V1 => ih _ _ _ _ _ _ _ _ _ _ hs hbs V1 hL hst)
          · rw [if_neg hv] at hs; cases hs
      · rename_i r k st ci fk ft
        have h3 := Bool.and_eq_true_iff.mp h2.2
        have h4 := Bool.and_eq_true_iff.mp h3.1
        have hfl := pm_FL_ok _ (of_decide_eq_true h4.1)
        have h5 := of_decide_eq_true h4.2
        cases hc : (Nat.ble (k + 1) w.length && Nat.beq (g_at w k).1 ci && Nat.beq (g_at w k).2.1 (pm_ft ci).length && Nat.beq ft 2 && Nat.ble (r + 1) w.length) with
        | false => rw [hc] at hs; cases hs
        | true =>
          rw [hc, cond_true] at hs
          have k0 := Bool.and_eq_true_iff.mp hc
          have k1 := Bool.and_eq_true_iff.mp k0.1
          have k2 := Bool.and_eq_true_iff.mp k1.1
          have k3 := Bool.and_eq_true_iff.mp k2.1
          obtain rfl := Nat.eq_of_beq_eq_true k1.2
          have h6 : (pm_T ci fk).2.2.2 = true ∧ (pm_T ci fk).1 = pm_cn oc := by
            have h6 := h1.2
            dsimp only at h6
            rw [pm_beqT (a := 2) (b := 2) rfl, Bool.true_and, Bool.not_true, Bool.false_and, Bool.or_false, Bool.and_eq_true] at h6
            exact ⟨h6.1, of_decide_eq_true h6.2⟩
          exact g_putR X V hin (Nat.le_of_ble_eq_true k3.1) (Nat.le_of_ble_eq_true k0.2) (Nat.eq_of_beq_eq_true k3.2) (Nat.eq_of_beq_eq_true k2.2) (pm_ft_lt h5) h5 hfl h6.1 h6.2 hdg (fun H1 locs1 V1 => ih _ _ _ _ _ _ _ _ _ _ hs hbs V1 hL hst)
      · cases hs
    | iastore =>
      obtain rfl : len = 1 := Nat.eq_of_beq_eq_true (Bool.and_eq_true_iff.mp hok2).2
      dsimp only [g_stp] at hs
      split at hs
      · rename_i v i k st
        cases hc : (Nat.ble (k + 1) w.length && Nat.beq (g_at w k).1 11) with
        | false => rw [hc] at hs; cases hs
        | true =>
          rw [hc, cond_true] at hs
          have k1 := Bool.and_eq_true_iff.mp hc
          by_cases hi : i < 0 ∨ (g_at w k).2.1 ≤ i.toNatClampNeg
          · rw [if_pos hi] at hs; cases hs
          · rw [if_neg hi] at hs
            exact g_ias X V (Nat.le_of_ble_eq_true k1.1) (Nat.eq_of_beq_eq_true k1.2) hi hdg (fun H1 locs1 V1 => ih _ _ _ _ _ _ _ _ _ _ hs hbs V1 hL hst)
      · cases hs
    | aastore =>
      obtain rfl : len = 1 := Nat.eq_of_beq_eq_true hok2
      dsimp only [g_stp] at hs
      split at hs
      · rename_i v i k st
        cases hc : (Nat.ble (k + 1) w.length && Nat.beq (g_at w k).1 12 && Nat.ble (v + 1) w.length && Nat.beq (g_at w v).1 7) with
        | false => rw [hc] at hs; cases hs
        | true =>
          rw [hc, cond_true] at hs
          have k1 := Bool.and_eq_true_iff.mp hc
          have k2 := Bool.and_eq_true_iff.mp k1.1
          have k3 := Bool.and_eq_true_iff.mp k2.1
          by_cases hi : i < 0 ∨ (g_at w k).2.1 ≤ i.toNatClampNeg
          · rw [if_pos hi] at hs; cases hs
          · rw [if_neg hi] at hs
            exact g_aas X V (Nat.le_of_ble_eq_true k3.1) (Nat.le_of_ble_eq_true k2.2) (Nat.eq_of_beq_eq_true k3.2) (Nat.eq_of_beq_eq_true k1.2) hi hdg (fun H1 locs1 V1 => ih _ _ _ _ _ _ _ _ _ _ hs hbs V1 hL hst)
      · cases hs
    | invokespecial i =>
      have h2 := Bool.and_eq_true_iff.mp hok2
      obtain rfl : len = 3 := Nat.eq_of_beq_eq_true h2.1
      dsimp only [g_stp] at hs
      split at hs
      · rename_i k st mj q
        have h3 := h2.2
        dsimp only at h3
        cases h8 : Nat.ble st.length 8 with
        | false => rw [h8] at hs; cases hs
        | true =>
          rw [h8, cond_true] at hs
          cases h9 : Nat.beq mj 999 with
          | true =>
            rw [h9, cond_true] at hs h3
            have hcat := pm_tv_cat (ad := g_ad as) h8 (pm_iv_cat (st := st) hst)
            exact W.objInit hx hb X.1.2.2.2.1 (g_w X (g_OI_ok _ (of_decide_eq_true h3))) (g_w X g_oin) (g_w X g_oco) rfl (hL.2.1.trans X.1.2.2.1.symm) rfl hdg (by omega) (by show 2 * 0 + _ + 12 ≤ _; omega) (ih _ _ _ _ _ _ _ _ _ _ hs hbs V hL hst)
          | false =>
            rw [h9, cond_false] at hs h3
            cases hc : (g_in w.length ls st && Nat.ble (a + g_mc mj) Rc && Nat.ble (b + g_ms mj) Rs && Nat.ble q 1) with
            | false => rw [hc] at hs; cases hs
            | true =>
              rw [hc, cond_true] at hs
              have k0 := Bool.and_eq_true_iff.mp hc
              have k1 := Bool.and_eq_true_iff.mp k0.1
              have k2 := Bool.and_eq_true_iff.mp k1.1
              cases hcr : C mj k w with
              | none => rw [hcr] at hs; cases hs
              | some w' =>
                rw [hcr] at hs
                have hs : g_run C g_mc g_ms lt Rc Rs n (pc + 3) ls st (a + g_mc mj) (b + g_ms mj) w' = some wf := hs
                have hq : (q = 0 ∧ (oc, i, mj) ∈ g_ML) ∨ (q = 1 ∧ (oc, i, mj) ∈ g_NL) := by
                  have q1 := Nat.le_of_ble_eq_true k0.2
                  rcases (show q = 0 ∨ q = 1 by omega) with rfl | rfl
                  · exact Or.inl ⟨rfl, of_decide_eq_true h3⟩
                  · exact Or.inr ⟨rfl, of_decide_eq_true h3⟩
                have hst2 : st.all pm_iv = true := hst
                exact g_call X V hL hst2 h8 hC hR ⟨by rw [hRc.1]; exact Nat.le_of_ble_eq_true k2.2, by rw [hRc.2]; exact Nat.le_of_ble_eq_true k1.2⟩ (by rw [V.1]; exact (g_in_spec k2.1).2) hq hcr hdg (fun bs H1 locs1 V1 => ih _ _ _ _ _ _ _ _ _ _ hs grow V1 (g_L_cg (by rw [V.1]; exact (g_in_spec k2.1).1) hL) hst2)
      · cases hs
    | return_ =>
      have h2 := Bool.and_eq_true_iff.mp (Bool.and_eq_true_iff.mp hok2).2
      obtain rfl : len = 1 := Nat.eq_of_beq_eq_true h2.1
      dsimp only [g_stp] at hs
      split at hs
      · cases hc : (Nat.beq a Rc && Nat.beq b Rs) with
        | false => rw [hc] at hs; cases hs
        | true =>
          rw [hc, cond_true] at hs
          cases hs
          have k1 := Bool.and_eq_true_iff.mp hc
          obtain rfl := Nat.eq_of_beq_eq_true k1.1
          obtain rfl := Nat.eq_of_beq_eq_true k1.2
          obtain ⟨bs, rfl⟩ := hbs
          exact W.vret hx hb hr (fun t ht hW => ⟨⟨bs, rfl, trivial, V.1, by rw [ht]; exact V.2.1, V.2.2.1, va_K.moved hW.alike X.2.1, X.2.2.1.warm hW, by rw [ht]; exact Nat.le_trans X.2.2.2 V.2.2.2.1.1, V.2.2.2.2⟩, V.2.2.2.1.F ht⟩) V.2.2.2.1.2.2 hdg
      · cases hs
    | _ => cases hs
end GRUN
theorem g_met (l : Launch) (D : va_G) (c3 : ClassId × ClassId × ClassId) (base : Nat) : ∀ d n, g_CC l D c3 base (g_C d n) d
  | 0, n => fun mj k w w' as hs => (by cases hs)
  | d + 1, n => by
    have ih := g_met l D c3 base d n
    intro mj k w w' as hs hct
    obtain ⟨i1, i2, i3, i4, i5, i6⟩ := g_ci mj hct
    have F := pm_Fa mj i1
    refine Met.ofW (cc := (pm_m mj).2.1) (maxL := (pm_m mj).2.2.1) (ret := (pm_m mj).2.2.2.1) (F.2.2.1.1.resolve_right (by unfold g_ctor at hct; omega)) rfl ?_
    intro p e s m args below meth c s₁ B hml hv
    obtain ⟨rfl, q1, qP, qD, qK, qN, q2, q3⟩ := hv
    have hown : s.vm.findClass (pm_m mj).1.cls = some m.cls := findClass_of_methodNamed B.named
    rw [← F.2.2.1.2.2.2.2.2] at hown
    have hts := atoms_spec (ws := pm_wm mj) B.pre
    have hlocks := B.notSynchronized
    have hr := B.returns
    rw [i3] at hr
    have hin : meth.name = "<init>" := (name_of_methodNamed B.named B.method).1.trans i2
    have X : g_X D c3 base p s m ([.ref (g_ad as k)] : List Value).toArray c (pm_m mj).2.1 (pm_m mj).2.2.1 (pm_cn (pm_m mj).2.2.2.2.2.1) := ⟨⟨B.exec, B.bytes, hml, hown, fun w hw => hts w (List.mem_cons_of_mem _ hw)⟩, qK, qN, q2⟩
    have V : g_V D c3 base s as w s.heap [] := ⟨q1, qP, qD, va_S.rf, q3⟩
    have hcat : ∀ v ∈ ([.ref k] : List Value).map (pm_tv (g_ad as)), v.category = 1 := fun v hv => by
      have : v = .ref (g_ad as k) := by simpa [pm_tv] using hv
      rw [this]; rfl
    have hl := lv_entry (([.ref k] : List Value).map (pm_tv (g_ad as))) (n := (pm_m mj).2.2.1) (by rw [pm_lg hcat]; exact i6)
    show W p l e (g_room (d + 1) mj) s m _ below meth c s.heap [] 0 0 _ (entryFrame m (([.ref k] : List Value).map (pm_tv (g_ad as))).toArray (pm_m mj).2.2.1)
    rw [lg_entry_eq]
    generalize (lg_sl (([.ref k] : List Value).map (pm_tv (g_ad as))) ++ List.replicate ((pm_m mj).2.2.1 - (lg_sl (([.ref k] : List Value).map (pm_tv (g_ad as)))).length) Slot.unset).toArray = sl at hl ⊢
    exact g_core (R := g_room (d + 1) mj) (d := d) (as0 := as) X (g_Ga mj hct) (g_G2 mj hct) ih hin hr hlocks ⟨rfl, rfl⟩ ⟨Nat.le_refl _, by show 60 + 60 * (d + 1) ≤ 60 * (d + 1 + 1); omega⟩ n 0 _ [] 0 0 w as s.heap [] sl hs ⟨[], (List.append_nil as).symm⟩ V (pm_entry (as := [.ref k]) i6 hcat hl) rfl
