/-! CALLS -/
def pm_wm (mj : Nat) : List Cond := Cond.code (pm_m mj).1 (pm_m mj).2.1 (pm_m mj).2.2.1 (pm_m mj).2.2.2.1 :: pm_tb
def pm_Qc (D : va_G) (c3 : ClassId × ClassId × ClassId) (ad : Nat → Nat) (L : Nat) (xs : Nat → Int32) (rk : Nat) (r : Int32) (h' : pm_Hp) : Array Value → State → Outcome → State → Prop := match rk with
  | 0 => va_Qv (S := Unit) (fun _ => True) (fun _ t => pm_B D c3 ad L xs h' t) (pm_A ad)
  | 1 => va_Qi (S := Unit) (fun x _ => x = r) (fun _ t => pm_B D c3 ad L xs h' t) (pm_A ad)
  | _ => va_Qr (S := Unit) (fun _ => True) (fun _ a t => a = ad r.toNatClampNeg ∧ pm_B D c3 ad L xs h' t) (pm_A ad)
def pm_rv (ad : Nat → Nat) (rk : Nat) (r : Int32) (rest : List Value) : List Value := match rk with
  | 0 => rest
  | 1 => .int r :: rest
  | _ => .ref (ad r.toNatClampNeg) :: rest
theorem pm_tb_good : ∀ w ∈ pm_tb, (w.onTables && w.keeps) = true ∨ ∃ ty, w = .arrayClass ty := fun w hw => good_of_word (List.mem_filter.mp hw).2
theorem pm_blind {D : va_G} {c3 : ClassId × ClassId × ClassId} {ad : Nat → Nat} {L : Nat} {xs : Nat → Int32} {h : pm_Hp} {av : List Value} : FrameBlind (va_Pc av (pm_B D c3 ad L xs h)) := fun a U g mk q => by
  obtain ⟨q0, qP, qK, q1, q2, q3⟩ := q
  exact ⟨q0, qP, va_K.moved (u := U) (U := U.calling g mk a) (Vm.Alike.refl U.vm) qK, q1.blind, q2.blind, q3⟩
section PMCALL
variable {p : Program} {l : Launch} {e : Env} {R : Room} {s : State} {m : MethodId} {args : Array Value} {below : List Frame} {meth : Method} {c : Code} {H : Heap} {locs : List Loc} {cells slots : Nat} {Q : State → Prop}
variable {D : va_G} {c3 : ClassId × ClassId × ClassId} {ad : Nat → Nat} {L : Nat} {xs : Nat → Int32} {A : Nat → Prop} {cc : ByteArray} {nL : Nat} {own : String} {pc : Nat} {sl : Array Slot} {rest : List Value} {h : pm_Hp}
theorem pm_Ad.sub (h : pm_Ad ad A) : ∀ q, pm_A ad q → A q := fun q hq => by
  obtain ⟨k, hk, rfl⟩ := hq
  exact h.2 k hk
theorem pm_pre (X : pm_X D c3 ad L xs A p s m args c cc nL own) (V : pm_V D c3 ad L xs A s h H locs) : ∀ U : State, U.heap = H → s.WarmedH U.vm → pm_B D c3 ad L xs h U := fun U hU hW =>
  ⟨by rw [hU]; exact V.1, va_K.moved hW.alike X.2.1, X.2.2.1.go V.2.1 hW hU X.2.2.2.2.sub, X.2.2.2.1.go V.2.1 hW hU X.2.2.2.2.sub, V.2.2⟩
theorem pm_cont {a : Array Value} {st0 : List Value} {rk : Nat} {r : Int32} {h' : pm_Hp} (X : pm_X D c3 ad L xs A p s m args c cc nL own) (V : pm_V D c3 ad L xs A s h H locs)
    (hr : va_Run p l e R s m args below meth c H locs cells slots 0 0 (F0 m pc sl st0) rest (pm_Qc D c3 ad L xs rk r h' a) (pm_A ad))
    (kk : ∀ (H1 : Heap) (locs1 : List Loc), pm_V D c3 ad L xs A s h' H1 locs1 → W p l e R s m args below meth c H1 locs1 cells slots Q (F0 m (pc + 3) sl (pm_rv ad rk r rest))) : W p l e R s m args below meth c H locs cells slots Q (F0 m pc sl st0) := by
  have hA : ∀ q, q < H.size → pm_A ad q → A q := fun q _ g => X.2.2.2.2.sub q g
  match rk, hr, kk with
  | 0, hr, kk =>
    refine va_callv (S := Unit) (a := a) hr V.2.1 hA X.2.2.2.2.sub (fun u t H1 locs1 ht hvm hw hB hz1 hk1 hS => kk H1 locs1 ?_)
    obtain ⟨hP, -, -, -, h5⟩ := hB
    exact ⟨by rw [← ht]; exact hP, hS, h5⟩
  | 1, hr, kk =>
    refine va_calli (S := Unit) (a := a) hr V.2.1 hA X.2.2.2.2.sub (fun x u t H1 locs1 ht hvm hw hB hz1 hk1 hS => ?_)
    subst hw
    refine kk H1 locs1 ?_
    obtain ⟨hP, -, -, -, h5⟩ := hB
    exact ⟨by rw [← ht]; exact hP, hS, h5⟩
  | n + 2, hr, kk =>
    refine va_callr (S := Unit) (a := a) hr V.2.1 hA X.2.2.2.2.sub (fun u ra t H1 locs1 ht hvm hw hB hz1 hk1 hS => ?_)
    obtain ⟨rfl, hP, -, -, -, h5⟩ := hB
    refine kk H1 locs1 ?_
    exact ⟨by rw [← ht]; exact hP, hS, h5⟩
theorem pm_callB {mj i : Nat} {rm : Room} (X : pm_X D c3 ad L xs A p s m args c cc nL own) (F : pm_F mj) (hl : Cond.methodLink own i (pm_m mj).1 ∈ pm_tb) (hrc : rm.cells = 0) (hrs : rm.slots = 0) (hR : rm.frames + 1 ≤ R.frames ∧ 8 + ((pm_m mj).2.2.1 + 11) + rm.locals ≤ R.locals) : CallB R s args own i (pm_m mj).1 (pm_m mj).2.1 (pm_m mj).2.2.1 (pm_m mj).2.2.2.1 (pm_wm mj) rm 0 0 (pm_m mj).2.2.2.2.2.2.2 := by
  obtain ⟨f1, f2, ⟨f3, -, f4, f5, f6, -⟩, -, -⟩ := F
  refine callB_of (Ts := pm_tb) (ws := pm_wm mj) (ws' := pm_tb) _ X.1.2.2.2.2 (fun w hw => ?_) rfl hrc hrs (pm_w X f2) (pm_w X hl) ⟨f4, f5, f6⟩ hR
  rcases List.mem_cons.mp hw with rfl | hw
  · exact ⟨f1, pm_tb_good _ f1⟩
  · exact ⟨hw, pm_tb_good _ hw⟩
theorem pm_recv {k ci : Nat} (X : pm_X D c3 ad L xs A p s m args c cc nL own) (V : pm_V D c3 ad L xs A s h H locs) (hk : (bif Nat.beq ci 20 then Nat.ble 400 k && Nat.ble k 425 else Nat.beq (pm_ob k).1 ci) = true) (hc : (Nat.ble ci 10 || Nat.beq ci 20) = true) : ∃ cellB : Cell, H[ad k]? = some cellB ∧ cellB.vm.isStatics = false ∧ s.vm.findClass (pm_cn ci) = some cellB.cls := by
  rcases (Bool.or_eq_true _ _).mp hc with h1 | h1
  · have h2 := Nat.le_of_ble_eq_true h1
    rw [pm_beqF (by omega), cond_false] at hk
    have hk := Nat.eq_of_beq_eq_true hk
    exact va_recv (q := (pm_cn ci, pm_T ci, (pm_ft ci).length)) X.2.1 V.1 (ci := ci) (q0 := k) (pm_cl_at ci h2) (by rw [pm_ws_at (pm_ob_lt hk (by omega)), pm_cell_o hk h2])
  · have h2 := Nat.eq_of_beq_eq_true h1
    subst h2
    rw [pm_beqT rfl, cond_true, Bool.and_eq_true] at hk
    have g1 := Nat.le_of_ble_eq_true hk.1
    have g2 := Nat.le_of_ble_eq_true hk.2
    have g3 := vk_recv X.2.2.1.1 (show k - 400 < 26 by omega) V.2.1
    rw [show 400 + (k - 400) = k by omega] at g3
    exact g3
theorem pm_tv_cat {vs : List Value} (h8 : Nat.ble vs.length 8 = true) (hv : ∀ v ∈ vs, v.category = 1) : ((vs.map (pm_tv ad)).map fun v => v.category).sum ≤ 8 := by
  have h9 := Nat.le_of_ble_eq_true h8
  have : ∀ us : List Value, (∀ v ∈ us, v.category = 1) → ((us.map (pm_tv ad)).map fun v => v.category).sum = us.length := by
    intro us
    induction us with
    | nil => intro _; rfl
    | cons v us ih =>
      intro hus
      have hc : (pm_tv ad v).category = 1 := by
        have := hus v List.mem_cons_self
        cases v <;> first | exact this | rfl
      simp only [List.map_cons, List.sum_cons, hc, ih (fun w hw => hus w (List.mem_cons_of_mem _ hw)), List.length_cons]
      omega
  rw [this vs hv]
  exact h9
end PMCALL
