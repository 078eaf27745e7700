/-! MAKING: a row for each instruction -/
def g_A (base : Nat) : Nat → Prop := fun q => base ≤ q
def g_N (c3 : ClassId × ClassId × ClassId) (U : State) : Prop := va_AO RX7 U ∧ (∃ kA : Class, U.vm.classes[c3.2.2]? = some kA ∧ kA.kind = .array c3.1 (.array .int)) ∧ ∀ q ∈ g_NL, va_Nw (.methodLinkNest (pm_cn q.1) q.2.1 (pm_m q.2.2).1 RX9) U
theorem g_N.warm {c3 : ClassId × ClassId × ClassId} {s U : State} (hW : s.WarmedH U.vm) (h : g_N c3 s) : g_N c3 U := by
  obtain ⟨h1, ⟨kA, h2, h3⟩, h4⟩ := h
  obtain ⟨k', h5, h6⟩ := hW.alike.2.2 _ _ h2
  exact ⟨h1.moved hW.alike, ⟨k', h5, by rw [h6]; exact h3⟩, fun q hq => va_Nw.warmM hW (h4 q hq)⟩
theorem g_N.blind {c3 : ClassId × ClassId × ClassId} {U : State} {g : JFrame} {mk : MethodId} {a : Array Value} (h : g_N c3 U) : g_N c3 (U.calling g mk a) := by
  obtain ⟨h1, h2, h4⟩ := h
  exact ⟨va_AO.moved (u := U) (U := U.calling g mk a) (Vm.Alike.refl U.vm) h1, h2, fun q hq => va_Nw.same (u := U) rfl rfl (h4 q hq)⟩
def g_B (D : va_G) (c3 : ClassId × ClassId × ClassId) (base : Nat) (as : List Nat) (w : gW) (U : State) : Prop := as.length = w.length ∧ va_P D vwCl (g_ws c3 as w) U.heap ∧ va_D (g_A base) (g_ws c3 as w) ∧ va_K D vwCl (pm_tys c3) U ∧ g_N c3 U ∧ base ≤ U.heap.size ∧ g_wf w
def g_X (D : va_G) (c3 : ClassId × ClassId × ClassId) (base : Nat) (p : Program) (s : State) (m : MethodId) (args : Array Value) (c : Code) (cc : ByteArray) (nL : Nat) (own : String) : Prop := CallFix p m c cc nL s args pm_tb own ∧ va_K D vwCl (pm_tys c3) s ∧ g_N c3 s ∧ base ≤ s.heap.size
def g_V (D : va_G) (c3 : ClassId × ClassId × ClassId) (base : Nat) (s : State) (as : List Nat) (w : gW) (H : Heap) (locs : List Loc) : Prop := as.length = w.length ∧ va_P D vwCl (g_ws c3 as w) H ∧ va_D (g_A base) (g_ws c3 as w) ∧ va_S (g_A base) s.heap H locs ∧ g_wf w
theorem g_blind {D : va_G} {c3 : ClassId × ClassId × ClassId} {base : Nat} {as : List Nat} {w : gW} {av : List Value} : FrameBlind (va_Pc av (g_B D c3 base as w)) := fun a U g mk q => by
  obtain ⟨q0, q1, qP, qD, qK, qN, q2, q3⟩ := q
  exact ⟨q0, q1, qP, qD, va_K.moved (u := U) (U := U.calling g mk a) (Vm.Alike.refl U.vm) qK, qN.blind, q2, q3⟩
theorem g_ini : ∀ ci, ci ≤ 10 → Cond.initialized (pm_cn ci) ∈ pm_tb
  | 0, _ => (pm_Fa 0 (by decide)).2.1
  | 1, _ => (pm_Fa 4 (by decide)).2.1
  | 2, _ => (pm_Fa 40 (by decide)).2.1
  | 3, _ => (pm_Fa 44 (by decide)).2.1
  | 4, _ => (pm_Fa 52 (by decide)).2.1
  | 5, _ => (pm_Fa 73 (by decide)).2.1
  | 6, _ => (pm_Fa 96 (by decide)).2.1
  | 7, _ => (pm_Fa 99 (by decide)).2.1
  | 8, _ => (pm_Fa 101 (by decide)).2.1
  | 9, _ => (pm_Fa 105 (by decide)).2.1
  | 10, _ => (pm_Fa 156 (by decide)).2.1
  | n + 11, h => absurd h (by omega)
theorem g_ins : ∀ ci, ci ≤ 10 → (ci, (pm_ft ci).length) ∈ g_IN := by decide +kernel
theorem g_dv : ∀ ci, ci ≤ 10 → ∀ j, j < (pm_ft ci).length → defaultValue ((parseFieldDescriptor (pm_T ci j).2.2.1).getD .int) = bif Nat.beq ((pm_ft ci).getD j 0) 2 then .null else .int 0 := by decide +kernel
theorem g_rty : ∀ ci, ci ≤ 10 → ∀ j, j < (pm_ft ci).length → (pm_ft ci).getD j 0 = 2 → ((parseFieldDescriptor (pm_T ci j).2.2.1).getD .int).isReference = true := by decide +kernel
theorem g_hty {ci : Nat} (hc : ci ≤ 10) : ∀ j, j < (pm_ft ci).length → parseFieldDescriptor (pm_T ci j).2.2.1 = some ((parseFieldDescriptor (pm_T ci j).2.2.1).getD .int) := fun j hj => by
  obtain ⟨t, ht⟩ := Option.isSome_iff_exists.mp (pm_fty ci hc j hj).1
  rw [ht]; rfl
theorem g_narR {ty : FieldType} (h : ty.isReference = true) (a : Nat) : narrow ty (.ref a) = .ref a ∧ fits ty (.ref a) = true := by
  cases ty <;> first | (exact ⟨rfl, rfl⟩) | (simp [FieldType.isReference] at h)
theorem g_dapp {A : Nat → Prop} {ws es : va_W} {n : Nat} (hD : va_D A ws) (h1 : ∀ (k : Nat) (q : Nat × va_E), ws[k]? = some q → q.1 < n) (h2 : ∀ (k : Nat) (q : Nat × va_E), es[k]? = some q → q.1 = n + k ∧ A q.1) : va_D A (ws ++ es) := by
  have cs : ∀ (k : Nat) (q : Nat × va_E), (ws ++ es)[k]? = some q → (ws[k]? = some q ∧ q.1 < n) ∨ (ws.length ≤ k ∧ es[k - ws.length]? = some q ∧ q.1 = n + (k - ws.length) ∧ A q.1) := fun k q hq => by
    rcases Nat.lt_or_ge k ws.length with g | g
    · rw [List.getElem?_append_left g] at hq
      exact Or.inl ⟨hq, h1 k q hq⟩
    · rw [List.getElem?_append_right g] at hq
      exact Or.inr ⟨g, hq, h2 _ q hq⟩
  refine ⟨fun i j p q hi hj e => ?_, fun k q hq => ?_⟩
  · rcases cs i p hi with ⟨a1, a2⟩ | ⟨a1, a2, a3, -⟩ <;> rcases cs j q hj with ⟨b1, b2⟩ | ⟨b1, b2, b3, -⟩
    · exact hD.1 i j p q a1 b1 e
    · omega
    · omega
    · omega
  · rcases cs k q hq with ⟨a1, -⟩ | ⟨-, -, -, a4⟩
    · exact hD.2 k q a1
    · exact a4
section GROW
variable {p : Program} {l : Launch} {e : Env} {R : Room} {s : State} {m : MethodId} {args : Array Value} {below : List Frame} {meth : Method} {c : Code} {H : Heap} {locs : List Loc} {cells slots : Nat} {Q : State → Prop}
variable {D : va_G} {c3 : ClassId × ClassId × ClassId} {base : Nat} {cc : ByteArray} {nL oc : Nat} {pc : Nat} {sl : Array Slot} {rest : List Value} {as : List Nat} {w : gW}
theorem g_w {x : Cond} (X : g_X D c3 base p s m args c cc nL (pm_cn oc)) (hw : x ∈ pm_tb) : x.before args s = true := X.1.2.2.2.2 x hw
theorem g_hA (X : g_X D c3 base p s m args c cc nL (pm_cn oc)) : ∀ q, s.heap.size ≤ q → g_A base q := fun q h => Nat.le_trans X.2.2.2 h
theorem g_newO {ci i : Nat} (X : g_X D c3 base p s m args c cc nL (pm_cn oc)) (V : g_V D c3 base s as w H locs) (hc : ci ≤ 10) (hk : (oc, i, ci) ∈ g_CK) (h1 : cells + 1 ≤ R.cells) (h2 : slots + (pm_ft ci).length ≤ R.slots) (hdg : decode cc pc = .ok (.new i, 3))
    (kk : ∀ (q : Nat) (H1 : Heap), g_V D c3 base s (as ++ [q]) (w ++ [g_new ci (pm_ft ci).length]) H1 locs → W p l e R s m args below meth c H1 locs (cells + 1) (slots + (pm_ft ci).length) Q (F0 m (pc + 3) sl (.ref q :: rest))) : W p l e R s m args below meth c H locs cells slots Q (F0 m pc sl rest) := by
  refine va_new (D := D) (cl := vwCl) (tys := pm_tys c3) (ws := g_ws c3 as w) (A := g_A base) (H0 := s.heap) (C := pm_cn ci) (T := pm_T ci) (N := (pm_ft ci).length) (ci := ci) (fs := (List.range (pm_ft ci).length).map (g_fld (g_ad as) (g_new ci (pm_ft ci).length))) X.1.1 X.1.2.1 X.1.2.2.2.2 (pm_uws ci hc) _ (g_hty hc) X.1.2.2.2.1 (g_w X (g_CK_ok _ hk)) (g_w X (g_IN_ok _ (g_ins ci hc))) (g_w X (g_ini ci hc)) X.2.1 V.2.1 V.2.2.1 V.2.2.2.1 (g_hA X) (pm_cl_at ci hc) (fun j hj => ?_) h1 h2 hdg (fun q H1 hP hD hS => kk q H1 ?_)
  · rw [g_dv ci hc j hj]
    have e2 : ((List.range (pm_ft ci).length).map (g_fld (g_ad as) (g_new ci (pm_ft ci).length))).getD j Value.null = g_fld (g_ad as) (g_new ci (pm_ft ci).length) j := by
      rw [List.getD_eq_getElem?_getD, List.getElem?_map, List.getElem?_range hj]
      rfl
    unfold vp_V
    rw [e2]
    rfl
  · have e1 := g_ws_push (c3 := c3) (q := q) (k := ci) (n := (pm_ft ci).length) V.1 V.2.2.2.2
    rw [g_cell_o (ci := ci) rfl hc] at e1
    refine ⟨by rw [List.length_append, List.length_append, V.1]; rfl, ?_, ?_, hS, g_wf_new V.2.2.2.2⟩
    · rw [e1]; exact hP
    · rw [e1]; exact hD
theorem g_newI {n : Int32} (X : g_X D c3 base p s m args c cc nL (pm_cn oc)) (V : g_V D c3 base s as w H locs) (h0 : ¬ n < 0) (hn : n.toNatClampNeg ≤ 3000) (h1 : cells + 1 ≤ R.cells) (h2 : slots + n.toNatClampNeg ≤ R.slots) (hdg : decode cc pc = .ok (.newarray .int, 2))
    (kk : ∀ (q : Nat) (H1 : Heap), g_V D c3 base s (as ++ [q]) (w ++ [g_new 11 n.toNatClampNeg]) H1 locs → W p l e R s m args below meth c H1 locs (cells + 1) (slots + n.toNatClampNeg) Q (F0 m (pc + 2) sl (.ref q :: rest))) : W p l e R s m args below meth c H locs cells slots Q (F0 m pc sl (.int n :: rest)) := by
  refine va_newa (atype := .int) (D := D) (cl := vwCl) (tys := pm_tys c3) (ws := g_ws c3 as w) (A := g_A base) (H0 := s.heap) (ty := .int) (N' := n.toNatClampNeg) (a0 := (n.toNatClampNeg, .inl (fun _ => 0))) X.1.1 X.1.2.1 (g_w X g_arI) rfl X.2.1 V.2.1 V.2.2.1 V.2.2.2.1 (g_hA X) (fun _ => rfl) h0 rfl (by show _ * 4 ≤ _; omega) h1 h2 hdg (fun q cA H1 hK hP hD hS => kk q H1 ?_)
  have k1 : s.vm.findClass ("[" ++ FieldType.int.toString) = some cA := (hK.2 3 (cA, .int) rfl).2
  have k2 : s.vm.findClass ("[" ++ FieldType.int.toString) = some c3.1 := (X.2.1.2 0 (c3.1, .int) rfl).2
  have k3 : cA = c3.1 := Option.some.inj (k1.symm.trans k2)
  subst k3
  have e1 := g_ws_push (c3 := c3) (q := q) (k := 11) (n := n.toNatClampNeg) V.1 V.2.2.2.2
  rw [g_cell_11 rfl] at e1
  refine ⟨by rw [List.length_append, List.length_append, V.1]; rfl, ?_, ?_, hS, g_wf_new V.2.2.2.2⟩
  · rw [e1]; exact hP
  · rw [e1]; exact hD
theorem g_newA {n : Int32} {i : Nat} (X : g_X D c3 base p s m args c cc nL (pm_cn oc)) (V : g_V D c3 base s as w H locs) (ho : oc = 2) (hi : i = 9) (h0 : ¬ n < 0) (hn : n.toNatClampNeg ≤ 3000) (h1 : cells + 1 ≤ R.cells) (h2 : slots + n.toNatClampNeg ≤ R.slots) (hdg : decode cc pc = .ok (.anewarray i, 3))
    (kk : ∀ (q : Nat) (H1 : Heap), g_V D c3 base s (as ++ [q]) (w ++ [g_new 12 n.toNatClampNeg]) H1 locs → W p l e R s m args below meth c H1 locs (cells + 1) (slots + n.toNatClampNeg) Q (F0 m (pc + 3) sl (.ref q :: rest))) : W p l e R s m args below meth c H locs cells slots Q (F0 m pc sl (.int n :: rest)) := by
  subst ho hi
  refine va_newq (D := D) (cl := vwCl) (tys := pm_tys c3) (ws := g_ws c3 as w) (A := g_A base) (H0 := s.heap) (C := RX7) (N' := n.toNatClampNeg) X.1.1 X.1.2.1 X.1.2.2.2.1 (g_w X g_clA) X.2.2.1.1 X.2.1 V.2.1 V.2.2.1 V.2.2.2.1 (g_hA X) h0 rfl (by omega) h1 h2 hdg (fun q cA H1 hK hP hD hS => kk q H1 ?_)
  obtain ⟨_, _, _, _, _, k1⟩ := (hK.2 3 (cA, .object RX7) rfl).2
  obtain ⟨_, _, _, _, _, k2⟩ := (X.2.1.2 1 (c3.2.1, .object RX7) rfl).2
  have k3 : cA = c3.2.1 := Option.some.inj (k1.symm.trans k2)
  subst k3
  have e1 := g_ws_push (c3 := c3) (q := q) (k := 12) (n := n.toNatClampNeg) V.1 V.2.2.2.2
  rw [g_cell_12 rfl] at e1
  refine ⟨by rw [List.length_append, List.length_append, V.1]; rfl, ?_, ?_, hS, g_wf_new V.2.2.2.2⟩
  · rw [e1]; exact hP
  · rw [e1]; exact hD
theorem g_newG {i d : Nat} (X : g_X D c3 base p s m args c cc nL (pm_cn oc)) (V : g_V D c3 base s as w H locs) (ho : oc = 4) (hi : i = 24) (hd : d = 2) (h1 : cells + 8 ≤ R.cells) (h2 : slots + 49 ≤ R.slots) (hdg : decode cc pc = .ok (.multianewarray i d, 4))
    (kk : ∀ (q : Nat) (qs : List Nat) (H1 : Heap) (locs1 : List Loc), g_ad (as ++ qs) w.length = q → g_V D c3 base s (as ++ qs) (w ++ g_grid w.length) H1 locs1 → W p l e R s m args below meth c H1 locs1 (cells + 8) (slots + 49) Q (F0 m (pc + 4) sl (.ref q :: rest))) : W p l e R s m args below meth c H locs cells slots Q (F0 m pc sl (.int 6 :: .int 7 :: rest)) := by
  subst ho hi hd
  obtain ⟨kA, hkA, hA⟩ := X.2.2.1.2.1
  obtain ⟨-, kI, hkI, cz, hI⟩ := (X.2.1.2 0 (c3.1, .int) rfl).1 0 (fun _ => .null)
  have hf : s.vm.findClass "[[I" = some c3.2.2 := (X.2.1.2 2 (c3.2.2, .array .int) rfl).2
  refine mg_row X.1.1 X.1.2.1 X.1.2.2.2.1 (g_w X g_clG) hf hkA hA hkI hI hdg h1 h2 (fun H1 locs1 z1 z2 z3 z4 z5 => ?_)
  have hS := V.2.2.2.1
  have lt : ∀ (k : Nat) (q : Nat × va_E), (g_ws c3 as w)[k]? = some q → q.1 < H.size := fun k q hq => (V.2.1 k q hq).lt
  generalize hqs : (List.range 8).map (fun k => H.size + k) = qs
  have aq : ∀ k, k < 8 → g_ad (as ++ qs) (w.length + k) = H.size + k := fun k hk => by
    unfold g_ad
    rw [← V.1, List.getD_eq_getElem?_getD, List.getElem?_append_right (by omega), Nat.add_sub_cancel_left, ← hqs, List.getElem?_map, List.getElem?_range hk]
    rfl
  have lq : qs.length = 8 := by rw [← hqs]; simp
  have gl : (g_grid w.length).length = 8 := rfl
  have e1 := g_ws_app (c3 := c3) (bs := qs) (es := g_grid w.length) V.1 V.2.2.2.2
  have hP1 : va_P D vwCl ((List.range (g_grid w.length).length).map (fun k => (g_ad (as ++ qs) (w.length + k), g_cell c3 (g_ad (as ++ qs)) (g_at (g_grid w.length) k)))) H1 := fun k q hq => by
    rw [gl] at hq
    have hk : k < 8 := by
      rcases Nat.lt_or_ge k 8 with g | g
      · exact g
      · rw [List.getElem?_eq_none (by simp; omega)] at hq; cases hq
    rw [List.getElem?_map, List.getElem?_range hk, Option.map_some] at hq
    cases hq
    rw [aq k hk]
    cases k with
    | zero =>
      have e2 : g_at (g_grid w.length) 0 = (13, 7, fun _ => 0, fun j => if j < 7 then some (w.length + 1 + j) else none) := rfl
      rw [e2, g_cell_13 rfl]
      show H1[H.size + 0]? = some (vp_cell _ _)
      rw [vp_cell_q, Nat.add_zero, z2]
      congr 2
      funext j
      by_cases g : j < 7
      · rw [if_pos g]
        show _ = va_rf ((if j < 7 then some (w.length + 1 + j) else none).map _)
        rw [if_pos g, Option.map_some, show w.length + 1 + j = w.length + (1 + j) by omega, aq (1 + j) (by omega), show H.size + (1 + j) = H.size + 1 + j by omega]
        rfl
      · rw [if_neg g]
        show _ = va_rf ((if j < 7 then some (w.length + 1 + j) else none).map _)
        rw [if_neg g]
        rfl
    | succ k =>
      have e2 : g_at (g_grid w.length) (k + 1) = g_new 11 6 := by
        have : k = 0 ∨ k = 1 ∨ k = 2 ∨ k = 3 ∨ k = 4 ∨ k = 5 ∨ k = 6 := by omega
        rcases this with rfl | rfl | rfl | rfl | rfl | rfl | rfl <;> rfl
      rw [e2, g_cell_11 rfl]
      show H1[H.size + (k + 1)]? = some (vp_cell _ _)
      rw [vp_cell_i, show H.size + (k + 1) = H.size + 1 + k by omega, z4 k (by omega)]
      rfl
  refine kk _ qs H1 locs1 (aq 0 (by omega)) ⟨by rw [List.length_append, List.length_append, V.1, lq, gl], ?_, ?_, ⟨Nat.le_trans hS.1 (by omega), fun q h3 h4 => (z3 q (Nat.lt_of_lt_of_le h3 hS.1)).trans (hS.2.1 q h3 h4), fun q hq => ?_⟩, g_wf_push V.2.2.2.2 (fun k hk j i h => ?_)⟩
  · rw [e1]
    exact (V.2.1.kept (fun k q hq => z3 q.1 (lt k q hq))).app hP1
  · rw [e1]
    refine g_dapp V.2.2.1 lt (fun k q hq => ?_)
    rw [gl] at hq
    have hk : k < 8 := by
      rcases Nat.lt_or_ge k 8 with g | g
      · exact g
      · rw [List.getElem?_eq_none (by simp; omega)] at hq; cases hq
    rw [List.getElem?_map, List.getElem?_range hk, Option.map_some] at hq
    cases hq
    refine ⟨aq k hk, ?_⟩
    show base ≤ g_ad (as ++ qs) (w.length + k)
    rw [aq k hk]
    exact Nat.le_trans X.2.2.2 (Nat.le_trans hS.1 (by omega))
  · rcases z5 q hq with g | g
    · exact hS.2.2 q g
    · show base ≤ q.base
      rw [g]
      exact Nat.le_trans X.2.2.2 hS.1
  · rw [gl] at hk ⊢
    cases k with
    | zero =>
      have h : (if j < 7 then some (w.length + 1 + j) else none) = some i := h
      by_cases g : j < 7
      · rw [if_pos g] at h; cases h; omega
      · rw [if_neg g] at h; cases h
    | succ k =>
      have e2 : g_at (g_grid w.length) (k + 1) = g_new 11 6 := by
        have : k = 0 ∨ k = 1 ∨ k = 2 ∨ k = 3 ∨ k = 4 ∨ k = 5 ∨ k = 6 := by omega
        rcases this with rfl | rfl | rfl | rfl | rfl | rfl | rfl <;> rfl
      rw [e2] at h
      cases h
theorem g_fld_setI {ad : Nat → Nat} {x : gE} {j : Nat} {v : Int32} (hj : Nat.beq ((pm_ft x.1).getD j 0) 2 = false) : ((List.range x.2.1).map (g_fld ad x)).set j (.int v) = (List.range (g_uI x j v).2.1).map (g_fld ad (g_uI x j v)) := by
  apply List.ext_getElem?
  intro i
  rw [List.getElem?_set]
  show _ = ((List.range x.2.1).map (g_fld ad (g_uI x j v)))[i]?
  by_cases hi : i < x.2.1
  · by_cases z : j = i
    · subst z
      rw [if_pos rfl, if_pos (by simpa using hi), List.getElem?_map, List.getElem?_range hi, Option.map_some]
      unfold g_fld
      show some (Value.int v) = some (bif Nat.beq ((pm_ft x.1).getD j 0) 2 then _ else Value.int (upd x.2.2.1 j v j))
      rw [hj, cond_false]
      simp [upd]
    · rw [if_neg z, List.getElem?_map, List.getElem?_map, List.getElem?_range hi, Option.map_some, Option.map_some]
      unfold g_fld
      show some (bif Nat.beq ((pm_ft x.1).getD i 0) 2 then _ else Value.int (x.2.2.1 i)) = some (bif Nat.beq ((pm_ft x.1).getD i 0) 2 then _ else Value.int (upd x.2.2.1 j v i))
      rw [show upd x.2.2.1 j v i = x.2.2.1 i from if_neg (fun g => z g.symm)]
      rfl
  · rw [List.getElem?_eq_none (l := (List.range x.2.1).map (g_fld ad (g_uI x j v))) (by simpa using hi)]
    by_cases z : j = i
    · subst z
      rw [if_pos rfl, if_neg (by simpa using hi)]
    · rw [if_neg z, List.getElem?_eq_none (by simpa using hi)]
theorem g_fld_setR {ad : Nat → Nat} {x : gE} {j r : Nat} (hj : Nat.beq ((pm_ft x.1).getD j 0) 2 = true) : ((List.range x.2.1).map (g_fld ad x)).set j (.ref (ad r)) = (List.range (g_uR x j r).2.1).map (g_fld ad (g_uR x j r)) := by
  apply List.ext_getElem?
  intro i
  rw [List.getElem?_set]
  show _ = ((List.range x.2.1).map (g_fld ad (g_uR x j r)))[i]?
  by_cases hi : i < x.2.1
  · by_cases z : j = i
    · subst z
      rw [if_pos rfl, if_pos (by simpa using hi), List.getElem?_map, List.getElem?_range hi, Option.map_some]
      unfold g_fld
      show some (Value.ref (ad r)) = some (bif Nat.beq ((pm_ft x.1).getD j 0) 2 then va_rf ((va_up x.2.2.2 j (some r) j).map ad) else _)
      rw [hj, cond_true, show va_up x.2.2.2 j (some r) j = some r from if_pos rfl]
      rfl
    · rw [if_neg z, List.getElem?_map, List.getElem?_map, List.getElem?_range hi, Option.map_some, Option.map_some]
      unfold g_fld
      show some (bif Nat.beq ((pm_ft x.1).getD i 0) 2 then va_rf ((x.2.2.2 i).map ad) else _) = some (bif Nat.beq ((pm_ft x.1).getD i 0) 2 then va_rf ((va_up x.2.2.2 j (some r) i).map ad) else _)
      rw [show va_up x.2.2.2 j (some r) i = x.2.2.2 i from if_neg (fun g => z g.symm)]
      rfl
  · rw [List.getElem?_eq_none (l := (List.range x.2.1).map (g_fld ad (g_uR x j r))) (by simpa using hi)]
    by_cases z : j = i
    · subst z
      rw [if_pos rfl, if_neg (by simpa using hi)]
    · rw [if_neg z, List.getElem?_eq_none (by simpa using hi)]
end GROW
