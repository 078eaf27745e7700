/-! EVERY METHOD, at every depth -/
def pm_room (d : Nat) : Room := { frames := d + 1, cells := 0, slots := 0, locals := 60 * d }
theorem pm_na_le : ∀ mj, mj < 309 → (pm_m mj).2.2.2.2.2.2.1 ≠ 2 → pm_na mj ≤ (pm_m mj).2.2.1 := by decide +kernel
theorem pm_lg {vs : List Value} (h : ∀ v ∈ vs, v.category = 1) : (lg_sl vs).length = vs.length := by
  induction vs with
  | nil => rfl
  | cons v vs ih =>
    have h1 := h v List.mem_cons_self
    have h2 := ih (fun w hw => h w (List.mem_cons_of_mem _ hw))
    unfold lg_sl at h2 ⊢
    rw [List.flatMap_cons, List.length_append, h2, if_neg (by omega)]
    simp only [List.length_cons, List.length_nil]
    omega
theorem pm_largs : ∀ (vs : List Value) (i0 : Nat), (∀ v ∈ vs, v.category = 1) → ∀ (j : Nat) (v : Value), vs[j]? = some v → (i0 + j, v) ∈ lv_args i0 vs
  | [], _, _, j, v, h => by simp at h
  | u :: vs, i0, hc, 0, v, h => by
    simp only [List.getElem?_cons_zero, Option.some.injEq] at h
    subst h
    exact List.mem_cons_self
  | u :: vs, i0, hc, j + 1, v, h => by
    rw [List.getElem?_cons_succ] at h
    unfold lv_args
    rw [if_neg (by rw [hc u List.mem_cons_self]; omega)]
    have := pm_largs vs (i0 + 1) (fun w hw => hc w (List.mem_cons_of_mem _ hw)) j v h
    rw [show i0 + (j + 1) = i0 + 1 + j by omega]
    exact List.mem_cons_of_mem _ this
theorem pm_entry {ad : Nat → Nat} {as : List Value} {n : Nat} {sl : Array Slot} (hn : as.length ≤ n) (hc : ∀ v ∈ as.map (pm_tv ad), v.category = 1) (hl : lv_has sl n (lv_args 0 (as.map (pm_tv ad)))) : pm_L ad (pm_pad n as) sl n := by
  refine ⟨by unfold pm_pad; rw [List.length_append, List.length_replicate]; omega, hl.1, hl.2.1, fun i u v h1 h2 => ?_⟩
  unfold pm_pad at h1
  by_cases hi : i < as.length
  · rw [List.getElem?_append_left hi] at h1
    have h3 : (as.map (pm_tv ad))[i]? = some v := by
      rw [List.getElem?_map, h1, Option.map_some]
      cases u <;> simp [pm_vv] at h2 <;> subst h2 <;> rfl
    have h4 := pm_largs _ 0 hc i v h3
    rw [Nat.zero_add] at h4
    exact hl.2.2 _ h4
  · rw [List.getElem?_append_right (by omega)] at h1
    have h3 := List.eq_of_mem_replicate (List.mem_of_getElem? h1)
    subst h3
    cases h2
theorem pm_Qc_v {D : va_G} {c3 : ClassId × ClassId × ClassId} {ad : Nat → Nat} {L : Nat} {xs : Nat → Int32} {r : Int32} {h' : pm_Hp} {a : Array Value} {s t : State} (hB : pm_B D c3 ad L xs h' t) (hF : va_F (pm_A ad) s t) : pm_Qc D c3 ad L xs 0 r h' a s (.returned none) t := ⟨⟨(), rfl, trivial, hB⟩, hF⟩
theorem pm_Qc_i {D : va_G} {c3 : ClassId × ClassId × ClassId} {ad : Nat → Nat} {L : Nat} {xs : Nat → Int32} {r : Int32} {h' : pm_Hp} {a : Array Value} {s t : State} (hB : pm_B D c3 ad L xs h' t) (hF : va_F (pm_A ad) s t) : pm_Qc D c3 ad L xs 1 r h' a s (.returned (some (.int r))) t := ⟨⟨r, (), rfl, rfl, hB⟩, hF⟩
theorem pm_Qc_r {D : va_G} {c3 : ClassId × ClassId × ClassId} {ad : Nat → Nat} {L : Nat} {xs : Nat → Int32} {r : Int32} {h' : pm_Hp} {a : Array Value} {s t : State} (hB : pm_B D c3 ad L xs h' t) (hF : va_F (pm_A ad) s t) : pm_Qc D c3 ad L xs 2 r h' a s (.returned (some (.ref (ad r.toNatClampNeg)))) t := ⟨⟨(), _, rfl, trivial, rfl, hB⟩, hF⟩
theorem pm_pf : ∀ mj, mj < 309 → (pm_m mj).2.2.2.2.2.2.1 ≠ 2 → plainFor (pm_m mj).1 = true := by decide +kernel
theorem pm_met (l : Launch) (D : va_G) (c3 : ClassId × ClassId × ClassId) (ad : Nat → Nat) (L : Nat) (xs : Nat → Int32) (hinj : ∀ i j, i < 186 → j < 186 → ad i = ad j → i = j) : ∀ d n, pm_CC l D c3 ad L xs (pm_C d n) (pm_room d)
  | 0, n => fun mj as h r h' hs => (by cases hs)
  | d + 1, n => by
    have ih := pm_met l D c3 ad L xs hinj d n
    intro mj as h r h' hs hmj hk hlen hiv
    have F := pm_Fa mj hmj
    have hG := pm_Ga mj hmj hk
    have hcat : ∀ v ∈ as.map (pm_tv ad), v.category = 1 := fun v hv => by
      obtain ⟨u, hu, rfl⟩ := List.mem_map.mp hv
      have := pm_iv_cat hiv u hu
      cases u <;> first | exact this | rfl
    have hn : as.length ≤ (pm_m mj).2.2.1 := by rw [hlen]; exact pm_na_le mj hmj hk
    refine pm_ofF (cc := (pm_m mj).2.1) (maxL := (pm_m mj).2.2.1) (ret := (pm_m mj).2.2.2.1) (pm_pf mj hmj hk) rfl ?_
    intro p e s m args below meth c s₁ B hml hv
    obtain ⟨rfl, hP, hKn, hStr, hScr, hh⟩ := hv
    have hown : s.vm.findClass (pm_m mj).1.cls = some m.cls := findClass_of_methodNamed B.named
    rw [← F.2.2.1.2.2.2.2.2] at hown
    have hts := atoms_spec (ws := pm_wm mj) B.pre
    have hlocks := B.notSynchronized
    have hr := B.returns
    have X : pm_X D c3 ad L xs (pm_A ad) p s m (as.map (pm_tv ad)).toArray c (pm_m mj).2.1 (pm_m mj).2.2.1 (pm_cn (pm_m mj).2.2.2.2.2.1) := ⟨⟨B.exec, B.bytes, hml, hown, fun w hw => hts w (List.mem_cons_of_mem _ hw)⟩, hKn, hStr, hScr, ⟨hinj, fun k hk => ⟨k, hk, rfl⟩⟩⟩
    have V : pm_V D c3 ad L xs (pm_A ad) s h s.heap [] := ⟨hP, va_S.rf, hh⟩
    have hl := lv_entry (as.map (pm_tv ad)) (n := (pm_m mj).2.2.1) (by rw [pm_lg hcat, List.length_map]; exact hn)
    rw [lg_entry_eq]
    generalize (lg_sl (as.map (pm_tv ad)) ++ List.replicate ((pm_m mj).2.2.1 - (lg_sl (as.map (pm_tv ad))).length) Slot.unset).toArray = sl at hl ⊢
    refine pm_core (R := pm_room (d + 1)) (rm := pm_room d) (rt := (pm_m mj).2.2.2.1) X hG ih ⟨rfl, rfl, Nat.le_refl _, ?_⟩ (Nat.succ_le_succ (Nat.zero_le d)) ⟨Nat.le_refl _, Nat.le_refl _⟩ (fun pc sl H locs V' => ⟨fun e1 hdg => ?_, fun ty e1 e3 hdg hnr => ?_, fun e1 hdg => ?_⟩) n 0 _ [] h s.heap [] sl hs V (pm_entry hn hcat hl) rfl
    · show 60 + 60 * d ≤ 60 * (d + 1)
      omega
    · rw [e1] at hr
      refine W.vret B.exec B.bytes hr (fun t ht hW => ?_) V'.2.1.2.2 hdg
      rw [e1]
      exact pm_Qc_v (pm_pre X V' t ht hW) (V'.2.1.F ht)
    · rw [e1] at hr
      refine W.zret B.exec B.bytes hr hnr (fun t ht hW => ?_) V'.2.1.2.2 hdg
      rw [e3]
      exact pm_Qc_i (pm_pre X V' t ht hW) (V'.2.1.F ht)
    · rw [e1] at hr
      refine W.aret B.exec B.bytes hr (Or.inr ⟨_, rfl⟩) (Or.inr ⟨_, rfl⟩) (fun t ht hW => ?_) V'.2.1.2.2 hdg
      rw [e1]
      exact pm_Qc_r (pm_pre X V' t ht hW) (V'.2.1.F ht)
