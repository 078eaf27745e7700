/-! MAKING: every constructor, at every depth -/
def g_room (d mj : Nat) : Room := { frames := d + 1, cells := g_mc mj, slots := g_ms mj, locals := 60 * (d + 1) }
def g_CC (l : Launch) (D : va_G) (c3 : ClassId × ClassId × ClassId) (base : Nat) (C : Nat → Nat → gW → Option gW) (d : Nat) : Prop := ∀ (mj k : Nat) (w w' : gW) (as : List Nat), C mj k w = some w' → g_ctor mj → Met l (pm_m mj).1 (pm_wm mj) (g_room d mj) (va_Pc [.ref (g_ad as k)] (g_B D c3 base as w)) (va_Qv (S := List Nat) (fun _ => True) (fun bs t => g_B D c3 base (as ++ bs) w' t) (g_A base)) (g_mc mj) (g_ms mj) (g_A base)
theorem g_ci : ∀ mj, g_ctor mj → mj < 309 ∧ (pm_m mj).1.name = "<init>" ∧ (pm_m mj).2.2.2.1 = none ∧ (pm_m mj).2.2.2.2.2.2.1 = 2 ∧ (pm_m mj).2.2.2.2.2.2.2 = 0 ∧ 1 ≤ (pm_m mj).2.2.1 := by
  intro mj h
  rcases h with rfl | rfl | rfl | rfl | rfl | rfl | rfl | rfl | rfl | rfl | rfl <;> exact ⟨by decide, by decide +kernel, by decide +kernel, by decide +kernel, by decide +kernel, by decide +kernel⟩
theorem g_mlc : ∀ q ∈ g_ML, q.2.2 = 99 ∨ q.2.2 = 40 ∨ q.2.2 = 105 ∨ q.2.2 = 156 := by decide +kernel
theorem g_nlc : ∀ q ∈ g_NL, q.2.2 = 44 ∨ q.2.2 = 96 ∨ q.2.2 = 4 ∨ q.2.2 = 73 ∨ q.2.2 = 52 ∨ q.2.2 = 0 ∨ q.2.2 = 101 := by decide +kernel
theorem g_mlC {q : Nat × Nat × Nat} (h : q ∈ g_ML) : g_ctor q.2.2 := by
  have := g_mlc q h
  unfold g_ctor
  omega
theorem g_nlC {q : Nat × Nat × Nat} (h : q ∈ g_NL) : g_ctor q.2.2 := by
  have := g_nlc q h
  unfold g_ctor
  omega
section GCORE
variable {p : Program} {l : Launch} {e : Env} {R : Room} {s : State} {m : MethodId} {args : Array Value} {below : List Frame} {meth : Method} {c : Code} {H : Heap} {locs : List Loc} {cells slots : Nat} {Q : State → Prop}
variable {D : va_G} {c3 : ClassId × ClassId × ClassId} {base : Nat} {cc : ByteArray} {nL oc : Nat} {pc : Nat} {sl : Array Slot} {rest : List Value} {as : List Nat} {w : gW}
theorem g_getR {k ci fk i r : Nat} (X : g_X D c3 base p s m args c cc nL (pm_cn oc)) (V : g_V D c3 base s as w H locs) (hk : k < w.length) (hc : (g_at w k).1 = ci) (hn : (g_at w k).2.1 = (pm_ft ci).length) (hc1 : ci ≤ 10) (hf : (pm_ft ci)[fk]? = some 2) (hv : (g_at w k).2.2.2 fk = some r) (hl : Cond.fieldLink (pm_cn oc) i (pm_T ci fk).1 (pm_T ci fk).2.1 (pm_T ci fk).2.2.1 ∈ pm_tb) (hdg : decode cc pc = .ok (.getfield i, 3))
    (kk : W p l e R s m args below meth c H locs cells slots Q (F0 m (pc + 3) sl (.ref (g_ad as r) :: rest))) : W p l e R s m args below meth c H locs cells slots Q (F0 m pc sl (.ref (g_ad as k) :: rest)) := by
  have hlt := (List.getElem?_eq_some_iff.mp hf).1
  refine va_get (D := D) (ci := ci) (C := pm_cn ci) (T := pm_T ci) (N := (pm_ft ci).length) (v := .ref (g_ad as r)) (fs := (List.range (g_at w k).2.1).map (g_fld (g_ad as) (g_at w k))) X.1.1 X.1.2.1 X.1.2.2.2.2 (pm_uws ci hc1) X.1.2.2.2.1 X.2.1 V.2.1 k ?_ (pm_cl_at ci hc1) fk hlt (g_w X hl) (fun _ h9 => h9) ?_ hdg kk
  · rw [g_ws_at hk, g_cell_o hc hc1]
  · rw [hn, List.getElem?_map, List.getElem?_range hlt, Option.map_some]
    unfold g_fld
    rw [hc, List.getD_eq_getElem?_getD, hf, hv]
    rfl
theorem g_putI {k ci fk i ft : Nat} {v : Int32} (X : g_X D c3 base p s m args c cc nL (pm_cn oc)) (V : g_V D c3 base s as w H locs) (hk : k < w.length) (hc : (g_at w k).1 = ci) (hn : (g_at w k).2.1 = (pm_ft ci).length) (hc1 : ci ≤ 10) (hf : (pm_ft ci)[fk]? = some ft) (hft : ft = 0 ∨ ft = 1) (hv : ft = 1 → v = 0 ∨ v = 1) (hl : Cond.fieldLink (pm_cn oc) i (pm_T ci fk).1 (pm_T ci fk).2.1 (pm_T ci fk).2.2.1 ∈ pm_tb) (hfin : (pm_T ci fk).2.2.2 = false) (hdg : decode cc pc = .ok (.putfield i, 3))
    (kk : ∀ (H1 : Heap) (locs1 : List Loc), g_V D c3 base s as (w.set k (g_uI (g_at w k) fk v)) H1 locs1 → W p l e R s m args below meth c H1 locs1 cells slots Q (F0 m (pc + 3) sl rest)) : W p l e R s m args below meth c H locs cells slots Q (F0 m pc sl (.int v :: .ref (g_ad as k) :: rest)) := by
  have hlt := (List.getElem?_eq_some_iff.mp hf).1
  have hfd : (pm_ft ci).getD fk 0 = ft := by rw [List.getD_eq_getElem?_getD, hf]; rfl
  have key : ∀ ty, parseFieldDescriptor (pm_T ci fk).2.2.1 = some ty → narrow ty (.int v) = .int v → fits ty (.int v) = true → W p l e R s m args below meth c H locs cells slots Q (F0 m pc sl (.int v :: .ref (g_ad as k) :: rest)) := fun ty h1 h2 h3 => by
    refine va_put (D := D) (ci := ci) (v := .int v) (ty := ty) (C := pm_cn ci) (T := pm_T ci) (N := (pm_ft ci).length) (fs := (List.range (g_at w k).2.1).map (g_fld (g_ad as) (g_at w k))) X.1.1 X.1.2.1 X.1.2.2.2.2 (pm_uws ci hc1) _ (g_hty hc1) (pm_fnm ci hc1) X.1.2.2.2.1 X.2.1 V.2.1 V.2.2.1 V.2.2.2.1 k ?_ (pm_cl_at ci hc1) fk hlt (g_w X hl) (fun _ h9 => h9) hfin h1 h2 h3 ?_ hdg (fun H1 locs1 hP hD hS => kk H1 locs1 ?_)
    · rw [g_ws_at hk, g_cell_o hc hc1]
    · rw [List.length_map, List.length_range, hn]; exact hlt
    · have e1 : (g_ws c3 as w).set k (g_ad as k, .inr (ci, ((List.range (g_at w k).2.1).map (g_fld (g_ad as) (g_at w k))).set fk (.int v))) = g_ws c3 as (w.set k (g_uI (g_at w k) fk v)) := by
        rw [g_fld_setI (by rw [hc, hfd]; exact pm_beqF (by omega)), ← g_cell_o (c3 := c3) (ad := g_ad as) (e := g_uI (g_at w k) fk v) hc hc1, g_ws_set hk]
      rw [e1] at hP hD
      exact ⟨by rw [List.length_set]; exact V.1, hP, hD, hS, g_wf_uI V.2.2.2.2 hk⟩
  obtain ⟨-, f0, f1, -⟩ := pm_fty ci hc1 fk hlt
  rw [hfd] at f0 f1
  rcases hft with e | e
  · exact key _ (f0 e) (vp_nar_int v) rfl
  · refine key _ (f1 e) ?_ ?_
    · rcases hv e with rfl | rfl <;> decide
    · rcases hv e with rfl | rfl <;> decide
theorem g_putR {k ci fk i r : Nat} (X : g_X D c3 base p s m args c cc nL (pm_cn oc)) (V : g_V D c3 base s as w H locs) (hin : meth.name = "<init>") (hk : k < w.length) (hr : r < w.length) (hc : (g_at w k).1 = ci) (hn : (g_at w k).2.1 = (pm_ft ci).length) (hc1 : ci ≤ 10) (hf : (pm_ft ci)[fk]? = some 2) (hl : Cond.fieldLink (pm_cn oc) i (pm_T ci fk).1 (pm_T ci fk).2.1 (pm_T ci fk).2.2.1 ∈ pm_tb) (hfin : (pm_T ci fk).2.2.2 = true) (hdecl : (pm_T ci fk).1 = pm_cn oc) (hdg : decode cc pc = .ok (.putfield i, 3))
    (kk : ∀ (H1 : Heap) (locs1 : List Loc), g_V D c3 base s as (w.set k (g_uR (g_at w k) fk r)) H1 locs1 → W p l e R s m args below meth c H1 locs1 cells slots Q (F0 m (pc + 3) sl rest)) : W p l e R s m args below meth c H locs cells slots Q (F0 m pc sl (.ref (g_ad as r) :: .ref (g_ad as k) :: rest)) := by
  have hlt := (List.getElem?_eq_some_iff.mp hf).1
  have hfd : (pm_ft ci).getD fk 0 = 2 := by rw [List.getD_eq_getElem?_getD, hf]; rfl
  obtain ⟨n1, n2⟩ := g_narR (g_rty ci hc1 fk hlt hfd) (g_ad as r)
  refine va_putF (D := D) (ci := ci) (v := .ref (g_ad as r)) (ty := (parseFieldDescriptor (pm_T ci fk).2.2.1).getD .int) (C := pm_cn ci) (T := pm_T ci) (N := (pm_ft ci).length) (fs := (List.range (g_at w k).2.1).map (g_fld (g_ad as) (g_at w k))) X.1.1 X.1.2.1 X.1.2.2.2.2 (pm_uws ci hc1) _ (g_hty hc1) (pm_fnm ci hc1) X.1.2.2.2.1 X.2.1 V.2.1 V.2.2.1 V.2.2.2.1 k ?_ (pm_cl_at ci hc1) fk hlt (g_w X hl) (fun _ h9 => h9) hfin hin hdecl (g_hty hc1 fk hlt) n1 n2 ?_ hdg (fun H1 locs1 hP hD hS => kk H1 locs1 ?_)
  · rw [g_ws_at hk, g_cell_o hc hc1]
  · rw [List.length_map, List.length_range, hn]; exact hlt
  · have e1 : (g_ws c3 as w).set k (g_ad as k, .inr (ci, ((List.range (g_at w k).2.1).map (g_fld (g_ad as) (g_at w k))).set fk (.ref (g_ad as r)))) = g_ws c3 as (w.set k (g_uR (g_at w k) fk r)) := by
      rw [g_fld_setR (by rw [hc, hfd]; rfl), ← g_cell_o (c3 := c3) (ad := g_ad as) (e := g_uR (g_at w k) fk r) hc hc1, g_ws_set hk]
    rw [e1] at hP hD
    exact ⟨by rw [List.length_set]; exact V.1, hP, hD, hS, g_wf_uR V.2.2.2.2 hk hr⟩
theorem g_ias {k : Nat} {i v : Int32} (X : g_X D c3 base p s m args c cc nL (pm_cn oc)) (V : g_V D c3 base s as w H locs) (hk : k < w.length) (hc : (g_at w k).1 = 11) (hi : ¬ (i < 0 ∨ (g_at w k).2.1 ≤ i.toNatClampNeg)) (hdg : decode cc pc = .ok (.iastore, 1))
    (kk : ∀ (H1 : Heap) (locs1 : List Loc), g_V D c3 base s as (w.set k (g_uI (g_at w k) i.toNatClampNeg v)) H1 locs1 → W p l e R s m args below meth c H1 locs1 cells slots Q (F0 m (pc + 1) sl rest)) : W p l e R s m args below meth c H locs cells slots Q (F0 m pc sl (.int v :: .int i :: .ref (g_ad as k) :: rest)) := by
  refine va_iast (D := D) X.1.1 X.1.2.1 X.2.1 V.2.1 V.2.2.1 V.2.2.2.1 k 0 (cA := c3.1) (n := (g_at w k).2.1) (f := (g_at w k).2.2.1) ?_ rfl hi hdg (fun H1 locs1 hP hD hS => kk H1 locs1 ?_)
  · rw [g_ws_at hk, g_cell_11 hc]
  · have e1 : (g_ws c3 as w).set k (g_ad as k, .inl (c3.1, (g_at w k).2.1, .inl (upd (g_at w k).2.2.1 i.toNatClampNeg v))) = g_ws c3 as (w.set k (g_uI (g_at w k) i.toNatClampNeg v)) := by
      rw [← g_ws_set hk, g_cell_11 (e := g_uI (g_at w k) i.toNatClampNeg v) hc]
      rfl
    rw [e1] at hP hD
    exact ⟨by rw [List.length_set]; exact V.1, hP, hD, hS, g_wf_uI V.2.2.2.2 hk⟩
theorem g_aas {k r : Nat} {i : Int32} (X : g_X D c3 base p s m args c cc nL (pm_cn oc)) (V : g_V D c3 base s as w H locs) (hk : k < w.length) (hr : r < w.length) (hc : (g_at w k).1 = 12) (hc7 : (g_at w r).1 = 7) (hi : ¬ (i < 0 ∨ (g_at w k).2.1 ≤ i.toNatClampNeg)) (hdg : decode cc pc = .ok (.aastore, 1))
    (kk : ∀ (H1 : Heap) (locs1 : List Loc), g_V D c3 base s as (w.set k (g_uR (g_at w k) i.toNatClampNeg r)) H1 locs1 → W p l e R s m args below meth c H1 locs1 cells slots Q (F0 m (pc + 1) sl rest)) : W p l e R s m args below meth c H locs cells slots Q (F0 m pc sl (.ref (g_ad as r) :: .int i :: .ref (g_ad as k) :: rest)) := by
  refine va_astq (D := D) X.1.1 X.1.2.1 X.2.1 V.2.1 V.2.2.1 V.2.2.2.1 k 1 r 7 (cA := c3.2.1) (r := (pm_cn 7, pm_T 7, (pm_ft 7).length)) (n := (g_at w k).2.1) (v := g_ad as r) (vs := (List.range (g_at w r).2.1).map (g_fld (g_ad as) (g_at w r))) (f := fun j => ((g_at w k).2.2.2 j).map (g_ad as)) ?_ rfl ?_ (pm_cl_at 7 (by omega)) hi hdg (fun H1 locs1 hP hD hS => kk H1 locs1 ?_)
  · rw [g_ws_at hk, g_cell_12 hc]
  · rw [g_ws_at hr, g_cell_o hc7 (by omega)]
  · have e1 : (g_ws c3 as w).set k (g_ad as k, .inl (c3.2.1, (g_at w k).2.1, .inr (.inr (.inr (.inr (va_up (fun j => ((g_at w k).2.2.2 j).map (g_ad as)) i.toNatClampNeg (some (g_ad as r)))))))) = g_ws c3 as (w.set k (g_uR (g_at w k) i.toNatClampNeg r)) := by
      have e2 : va_up (fun j => ((g_at w k).2.2.2 j).map (g_ad as)) i.toNatClampNeg (some (g_ad as r)) = fun j => ((g_uR (g_at w k) i.toNatClampNeg r).2.2.2 j).map (g_ad as) := funext fun j => by
        show (if j = i.toNatClampNeg then some (g_ad as r) else ((g_at w k).2.2.2 j).map (g_ad as)) = ((if j = i.toNatClampNeg then some r else (g_at w k).2.2.2 j)).map (g_ad as)
        by_cases z : j = i.toNatClampNeg
        · rw [if_pos z, if_pos z]; rfl
        · rw [if_neg z, if_neg z]
      rw [← g_ws_set hk, g_cell_12 (e := g_uR (g_at w k) i.toNatClampNeg r) hc, e2]
      rfl
    rw [e1] at hP hD
    exact ⟨by rw [List.length_set]; exact V.1, hP, hD, hS, g_wf_uR V.2.2.2.2 hk hr⟩
theorem g_call {C : Nat → Nat → gW → Option gW} {d mj k i q : Nat} {w' : gW} {ls st : List Value} (X : g_X D c3 base p s m args c cc nL (pm_cn oc)) (V : g_V D c3 base s as w H locs) (hL : pm_L (g_ad as) ls sl nL) (hst : st.all pm_iv = true) (h8 : Nat.ble st.length 8 = true) (hC : g_CC l D c3 base C d) (hR : d + 2 ≤ R.frames ∧ 60 + 60 * (d + 1) ≤ R.locals) (hcs : cells + g_mc mj ≤ R.cells ∧ slots + g_ms mj ≤ R.slots) (hin : st.all (g_lt as.length) = true) (hq : (q = 0 ∧ (oc, i, mj) ∈ g_ML) ∨ (q = 1 ∧ (oc, i, mj) ∈ g_NL)) (hcr : C mj k w = some w') (hdg : decode cc pc = .ok (.invokespecial i, 3))
    (kk : ∀ (bs : List Nat) (H1 : Heap) (locs1 : List Loc), g_V D c3 base s (as ++ bs) w' H1 locs1 → W p l e R s m args below meth c H1 locs1 (cells + g_mc mj) (slots + g_ms mj) Q (F0 m (pc + 3) sl (st.map (pm_tv (g_ad (as ++ bs)))))) : W p l e R s m args below meth c H locs cells slots Q (F0 m pc sl (.ref (g_ad as k) :: st.map (pm_tv (g_ad as)))) := by
  have hct : g_ctor mj := by
    rcases hq with ⟨-, g⟩ | ⟨-, g⟩
    · exact g_mlC g
    · exact g_nlC g
  obtain ⟨i1, i2, i3, i4, i5, i6⟩ := g_ci mj hct
  have F := pm_Fa mj i1
  have hM := hC mj k w w' as hcr hct
  have hG : GoodIn pm_tb (pm_wm mj) := pm_gin F.1
  have hw : pm_wm mj = Cond.code (pm_m mj).1 (pm_m mj).2.1 (pm_m mj).2.2.1 none :: pm_tb := by unfold pm_wm; rw [i3]
  have hcat := pm_tv_cat (ad := g_ad as) h8 (pm_iv_cat hst)
  have hp : PreS s H (va_Pc [.ref (g_ad as k)] (g_B D c3 base as w)) [.ref (g_ad as k)] := ⟨g_blind, fun U hU hW => ⟨rfl, V.1, by rw [hU]; exact V.2.1, V.2.2.1, va_K.moved hW.alike X.2.1, X.2.2.1.warm hW, by rw [hU]; exact Nat.le_trans X.2.2.2 V.2.2.2.1.1, V.2.2.2.2⟩⟩
  have hins : Cond.instanceMethod (pm_m mj).1 ∈ pm_tb := by
    have := F.2.2.2.1
    rw [i4, if_neg (by decide)] at this
    exact this
  have hR2 : (g_room d mj).frames + 1 ≤ R.frames ∧ 8 + ((pm_m mj).2.2.1 + 11) + (g_room d mj).locals ≤ R.locals := ⟨hR.1, by have := F.2.2.1.2.1; show 8 + (_ + 11) + 60 * (d + 1) ≤ _; omega⟩
  have cont : va_Run p l e R s m args below meth c H locs cells slots (g_mc mj) (g_ms mj) (F0 m pc sl (.ref (g_ad as k) :: st.map (pm_tv (g_ad as)))) (st.map (pm_tv (g_ad as))) (va_Qv (S := List Nat) (fun _ => True) (fun bs t => g_B D c3 base (as ++ bs) w' t) (g_A base) [Value.ref (g_ad as k)].toArray) (g_A base) → W p l e R s m args below meth c H locs cells slots Q (F0 m pc sl (.ref (g_ad as k) :: st.map (pm_tv (g_ad as)))) := fun hr => by
    refine va_callv (S := List Nat) hr V.2.2.2.1 (fun q _ h => h) (fun q h => h) (fun u t H1 locs1 ht hvm hw2 hB hz hk2 hS => ?_)
    have h9 := kk u H1 locs1 ⟨hB.1, by rw [← ht]; exact hB.2.1, hB.2.2.1, hS, hB.2.2.2.2.2.2⟩
    rw [g_tv_cg hin] at h9
    exact h9
  rcases hq with ⟨-, g⟩ | ⟨-, g⟩
  · exact cont (va_runI (As := []) (b := g_ad as k) (rest := st.map (pm_tv (g_ad as))) X.1 hM ⟨callB_of (Ts := pm_tb) (ws' := pm_tb) (pm_m mj).2.2.2.2.2.2.2 X.1.2.2.2.2 hG hw rfl rfl (g_w X F.2.1) (g_w X (g_ML_ok _ g)) ⟨F.2.2.1.2.2.1, F.2.2.1.2.2.2.1, F.2.2.1.2.2.2.2.1⟩ hR2, i2, g_w X hins⟩ hp rfl i5.symm hL.2.1 rfl (lv_room hcat) hdg hcs)
  · exact cont (va_runIN (host := RX9) (As := []) (b := g_ad as k) (rest := st.map (pm_tv (g_ad as))) X.1 hM ⟨va_cnB (Ts := pm_tb) (ws' := pm_tb) (pm_m mj).2.2.2.2.2.2.2 X.1.2.2.2.2 hG hw rfl rfl (X.2.2.1.2.2 _ g) (g_w X F.2.1) ⟨F.2.2.1.2.2.1, F.2.2.1.2.2.2.1, F.2.2.1.2.2.2.2.1⟩ hR2, i2, g_w X hins⟩ hp rfl i5.symm hL.2.1 rfl (lv_room hcat) hdg hcs)
end GCORE
