/-! THE WORLD of the pure heap: 186 cells at addresses ad 0 .. ad 185, the script at ad 300, the texts at ad 400 .., their bytes at ad 500 .. -/
def pm_fld (ad : Nat → Nat) (h : pm_Hp) (k j : Nat) : Value := bif Nat.beq ((pm_ft (pm_ob k).1).getD j 0) 2 then .ref (ad ((pm_ob k).2.2.getD j 0)) else .int (h k j)
def pm_cell (c3 : ClassId × ClassId × ClassId) (ad : Nat → Nat) (h : pm_Hp) (k : Nat) : va_E :=
  bif Nat.beq (pm_ob k).1 11 then .inl (c3.1, (pm_ob k).2.1, .inl (h k))
  else bif Nat.beq (pm_ob k).1 12 then .inl (c3.2.1, (pm_ob k).2.1, .inr (.inr (.inr (.inr fun j => some (ad ((pm_ob k).2.2.getD j 0))))))
  else bif Nat.beq (pm_ob k).1 13 then .inl (c3.2.2, (pm_ob k).2.1, .inr (.inr (.inr (.inr fun j => some (ad ((pm_ob k).2.2.getD j 0))))))
  else .inr ((pm_ob k).1, (List.range (pm_ob k).2.1).map (pm_fld ad h k))
def pm_ws (c3 : ClassId × ClassId × ClassId) (ad : Nat → Nat) (h : pm_Hp) : va_W := (List.range 186).map (fun k => (ad k, pm_cell c3 ad h k))
theorem pm_ws_at {c3 : ClassId × ClassId × ClassId} {ad : Nat → Nat} {h : pm_Hp} {k : Nat} (hk : k < 186) : (pm_ws c3 ad h)[k]? = some (ad k, pm_cell c3 ad h k) := by
  simp [pm_ws, hk]
theorem pm_ws_lt {c3 : ClassId × ClassId × ClassId} {ad : Nat → Nat} {h : pm_Hp} {k : Nat} {q : Nat × va_E} (hq : (pm_ws c3 ad h)[k]? = some q) : k < 186 ∧ q = (ad k, pm_cell c3 ad h k) := by
  have hk : k < 186 := by
    rcases Nat.lt_or_ge k 186 with g | g
    · exact g
    · have : (pm_ws c3 ad h)[k]? = none := by simp [pm_ws, g]
      rw [this] at hq
      cases hq
  rw [pm_ws_at hk] at hq
  exact ⟨hk, (Option.some.inj hq).symm⟩
theorem pm_beqF {a b : Nat} (h : a ≠ b) : Nat.beq a b = false := by
  cases e : Nat.beq a b with
  | false => rfl
  | true => exact absurd (Nat.eq_of_beq_eq_true e) h
theorem pm_beqT {a b : Nat} (h : a = b) : Nat.beq a b = true := by
  subst h
  exact Nat.beq_refl a
theorem pm_bleF {a b : Nat} (h : b < a) : Nat.ble a b = false := by
  cases e : Nat.ble a b with
  | false => rfl
  | true => exact absurd (Nat.le_of_ble_eq_true e) (by omega)
theorem pm_ob_out {k : Nat} (h : 186 ≤ k) : (pm_ob k).1 = 99 := by
  unfold pm_ob
  repeat rw [pm_bleF (show _ < k by omega), cond_false]
  rw [pm_beqF (by omega), cond_false]
theorem pm_ob_lt {k c : Nat} (h : (pm_ob k).1 = c) (hc : c ≠ 99) : k < 186 := by
  rcases Nat.lt_or_ge k 186 with g | g
  · exact g
  · exact absurd (h.symm.trans (pm_ob_out g)) hc
/-- the kinds' field counts -/
theorem pm_ob_len : ∀ k, k < 186 → ((pm_ob k).1 ≤ 10 → (pm_ob k).2.1 = (pm_ft (pm_ob k).1).length) ∧ (pm_ob k).2.1 < 2 ^ 31 := by decide +kernel
theorem pm_cl_at : ∀ ci, ci ≤ 10 → vwCl[ci]? = some (pm_cn ci, pm_T ci, (pm_ft ci).length)
  | 0, _ => rfl | 1, _ => rfl | 2, _ => rfl | 3, _ => rfl | 4, _ => rfl | 5, _ => rfl | 6, _ => rfl | 7, _ => rfl | 8, _ => rfl | 9, _ => rfl | 10, _ => rfl
  | n + 11, h => absurd h (by omega)
theorem pm_cell_11 {c3 : ClassId × ClassId × ClassId} {ad : Nat → Nat} {h : pm_Hp} {k : Nat} (hk : (pm_ob k).1 = 11) : pm_cell c3 ad h k = .inl (c3.1, (pm_ob k).2.1, .inl (h k)) := by
  unfold pm_cell
  rw [pm_beqT hk, cond_true]
theorem pm_cell_12 {c3 : ClassId × ClassId × ClassId} {ad : Nat → Nat} {h : pm_Hp} {k : Nat} (hk : (pm_ob k).1 = 12) : pm_cell c3 ad h k = .inl (c3.2.1, (pm_ob k).2.1, .inr (.inr (.inr (.inr fun j => some (ad ((pm_ob k).2.2.getD j 0)))))) := by
  unfold pm_cell
  rw [pm_beqF (b := 11) (by omega), cond_false, pm_beqT hk, cond_true]
theorem pm_cell_13 {c3 : ClassId × ClassId × ClassId} {ad : Nat → Nat} {h : pm_Hp} {k : Nat} (hk : (pm_ob k).1 = 13) : pm_cell c3 ad h k = .inl (c3.2.2, (pm_ob k).2.1, .inr (.inr (.inr (.inr fun j => some (ad ((pm_ob k).2.2.getD j 0)))))) := by
  unfold pm_cell
  rw [pm_beqF (b := 11) (by omega), cond_false, pm_beqF (b := 12) (by omega), cond_false, pm_beqT hk, cond_true]
theorem pm_cell_o {c3 : ClassId × ClassId × ClassId} {ad : Nat → Nat} {h : pm_Hp} {k ci : Nat} (hk : (pm_ob k).1 = ci) (hc : ci ≤ 10) : pm_cell c3 ad h k = .inr (ci, (List.range (pm_ob k).2.1).map (pm_fld ad h k)) := by
  unfold pm_cell
  rw [pm_beqF (b := 11) (by omega), cond_false, pm_beqF (b := 12) (by omega), cond_false, pm_beqF (b := 13) (by omega), cond_false, hk]
theorem pm_ws_set {c3 : ClassId × ClassId × ClassId} {ad : Nat → Nat} {h h' : pm_Hp} {k : Nat} (hh : ∀ a, a ≠ k → h' a = h a) : (pm_ws c3 ad h).set k (ad k, pm_cell c3 ad h' k) = pm_ws c3 ad h' := by
  apply List.ext_getElem?
  intro i
  rcases Nat.lt_or_ge i 186 with hi | hi
  · rw [pm_ws_at hi, List.getElem?_set]
    by_cases e : k = i
    · subst e
      rw [if_pos rfl, if_pos (by simp [pm_ws]; exact hi)]
    · rw [if_neg e, pm_ws_at hi]
      have : pm_cell c3 ad h i = pm_cell c3 ad h' i := by
        unfold pm_cell pm_fld
        rw [hh i (fun q => e q.symm)]
      rw [this]
  · rw [List.getElem?_eq_none (by simp [pm_ws]; exact hi), List.getElem?_eq_none (by simp [pm_ws]; exact hi)]
theorem pm_up_ne {h : pm_Hp} {k j : Nat} {v : Int32} : ∀ a, a ≠ k → pm_up h k j v a = h a := fun a ha => funext fun b => if_neg (fun q => ha q.1)
theorem pm_up_at {h : pm_Hp} {k j : Nat} {v : Int32} : upd (h k) j v = pm_up h k j v k := funext fun b => by
  unfold upd pm_up
  by_cases e : b = j
  · rw [if_pos e, if_pos ⟨rfl, e⟩]
  · rw [if_neg e, if_neg (fun q => e q.2)]
theorem pm_cp_ne {h : pm_Hp} {k0 k1 sp dp n : Nat} : ∀ a, a ≠ k1 → pm_cp h k0 k1 sp dp n a = h a := fun a ha => funext fun b => if_neg (fun q => ha q.1)
theorem pm_cp_at {h : pm_Hp} {k0 k1 sp dp n : Nat} : va_cpy (h k0) (h k1) sp dp n = pm_cp h k0 k1 sp dp n k1 := funext fun b => by
  unfold va_cpy pm_cp
  by_cases e : dp ≤ b ∧ b < dp + n
  · rw [if_pos e, if_pos ⟨rfl, e⟩]
  · rw [if_neg e, if_neg (fun q => e q.2)]
theorem pm_fld_set {ad : Nat → Nat} {h : pm_Hp} {k j N : Nat} {v : Int32} (hj : Nat.beq ((pm_ft (pm_ob k).1).getD j 0) 2 = false) : ((List.range N).map (pm_fld ad h k)).set j (.int v) = (List.range N).map (pm_fld ad (pm_up h k j v) k) := by
  apply List.ext_getElem?
  intro i
  rw [List.getElem?_set]
  by_cases hi : i < N
  · by_cases e : j = i
    · subst e
      rw [if_pos rfl, if_pos (by simpa using hi), List.getElem?_map, List.getElem?_range hi, Option.map_some]
      unfold pm_fld
      rw [hj, cond_false]
      simp [pm_up]
    · rw [if_neg e]
      simp only [List.getElem?_map, List.getElem?_range hi, Option.map_some, pm_fld]
      rw [show pm_up h k j v k i = h k i from if_neg (fun q => e q.2.symm)]
  · rw [List.getElem?_eq_none (l := (List.range N).map (pm_fld ad (pm_up h k j v) k)) (by simpa using hi)]
    by_cases e : j = i
    · subst e
      rw [if_pos rfl, if_neg (by simpa using hi)]
    · rw [if_neg e, List.getElem?_eq_none (by simpa using hi)]
/-! what does not change in a run -/
def pm_A (ad : Nat → Nat) : Nat → Prop := fun q => ∃ k, k < 186 ∧ ad k = q
def pm_Str (ad : Nat → Nat) (A : Nat → Prop) (U : State) (H : Heap) : Prop := vk_S nJS lenJS bytJS (fun i => ad (400 + i)) (fun i => ad (500 + i)) A U H ∧ (∀ (i : Nat) (q : Nat × Nat), pm_st[i]? = some q → ∃ tx, vk_R (pm_cn q.1) q.2 tx (ad (400 + i)) U) ∧ va_Z "java/lang/String" "COMPACT_STRINGS" "Z" (.int 1) A U H ∧ (∀ q ∈ pm_NL, va_Nw (.methodLinkNest (pm_cn q.1) q.2.1 (pm_m q.2.2).1 RX9) U) ∧ va_Zq "jdk/internal/util/Preconditions" "SIOOBE_FORMATTER" "Ljava/util/function/BiFunction;" A U H
def pm_Scr (ad : Nat → Nat) (A : Nat → Prop) (L : Nat) (xs : Nat → Int32) (U : State) (H : Heap) : Prop := va_X (ad 300) L xs U H ∧ ad 300 < H.size ∧ ¬ A (ad 300) ∧ L < 2 ^ 31
abbrev pm_tys (c3 : ClassId × ClassId × ClassId) : List (ClassId × FieldType) := [(c3.1, .int), (c3.2.1, .object RX7), (c3.2.2, .array .int)]
def pm_Ad (ad : Nat → Nat) (A : Nat → Prop) : Prop := (∀ i j, i < 186 → j < 186 → ad i = ad j → i = j) ∧ ∀ k, k < 186 → A (ad k)
theorem pm_Str.go {ad : Nat → Nat} {A B : Nat → Prop} {s U : State} {H : Heap} {locs : List Loc} (h : pm_Str ad A s s.heap) (hS : va_S A s.heap H locs) (hW : s.WarmedH U.vm) (hU : U.heap = H) (hAB : ∀ q, B q → A q) : pm_Str ad B U U.heap := by
  obtain ⟨h1, h2, h3, h4, h5⟩ := h
  rw [hU]
  refine ⟨((h1.kept hS.2.1).narrow hAB).moved hW.alike, fun i q hq => ?_, ((h3.kept hS.2.1).narrow hAB).moved hW.alike, fun q hq => va_Nw.warmM hW (h4 q hq), ((h5.kept hS.2.1).narrow hAB).moved hW.alike⟩
  obtain ⟨tx, ht⟩ := h2 i q hq
  exact ⟨tx, ht.warm hW⟩
theorem pm_Scr.go {ad : Nat → Nat} {A B : Nat → Prop} {L : Nat} {xs : Nat → Int32} {s U : State} {H : Heap} {locs : List Loc} (h : pm_Scr ad A L xs s s.heap) (hS : va_S A s.heap H locs) (hW : s.WarmedH U.vm) (hU : U.heap = H) (hAB : ∀ q, B q → A q) : pm_Scr ad B L xs U U.heap := by
  obtain ⟨h1, h2, h3, h4⟩ := h
  rw [hU]
  refine ⟨?_, Nat.lt_of_lt_of_le h2 hS.1, fun q => h3 (hAB _ q), h4⟩
  obtain ⟨scr, g1, g2, g3, g4⟩ := h1
  exact ⟨scr, by rw [hS.2.1 _ h2 h3]; exact g1, State.isArrayOf_alike hW.alike g2, g3, g4⟩
theorem pm_Str.blind {ad : Nat → Nat} {A : Nat → Prop} {U : State} {g : JFrame} {mk : MethodId} {a : Array Value} (h : pm_Str ad A U U.heap) : pm_Str ad A (U.calling g mk a) (U.calling g mk a).heap := by
  obtain ⟨h1, h2, h3, h4, h5⟩ := h
  refine ⟨vk_S.moved (u := U) (U := U.calling g mk a) (Vm.Alike.refl U.vm) h1, fun i q hq => ?_, va_Z.moved (u := U) (U := U.calling g mk a) (Vm.Alike.refl U.vm) h3, fun q hq => va_Nw.same (u := U) rfl rfl (h4 q hq), va_Zq.moved (u := U) (U := U.calling g mk a) (Vm.Alike.refl U.vm) h5⟩
  obtain ⟨tx, ht⟩ := h2 i q hq
  exact ⟨tx, vk_R.same (u := U) rfl ht⟩
theorem pm_Scr.blind {ad : Nat → Nat} {A : Nat → Prop} {L : Nat} {xs : Nat → Int32} {U : State} {g : JFrame} {mk : MethodId} {a : Array Value} (h : pm_Scr ad A L xs U U.heap) : pm_Scr ad A L xs (U.calling g mk a) (U.calling g mk a).heap := by
  obtain ⟨h1, h2, h3, h4⟩ := h
  exact ⟨va_X.moved (u := U) (U := U.calling g mk a) (Vm.Alike.refl U.vm) h1, h2, h3, h4⟩
/-- a method's start and end: the world is the heap h, the script is there -/
def pm_B (D : va_G) (c3 : ClassId × ClassId × ClassId) (ad : Nat → Nat) (L : Nat) (xs : Nat → Int32) (h : pm_Hp) (U : State) : Prop := va_P D vwCl (pm_ws c3 ad h) U.heap ∧ va_K D vwCl (pm_tys c3) U ∧ pm_Str ad (pm_A ad) U U.heap ∧ pm_Scr ad (pm_A ad) L xs U U.heap ∧ (∀ j, j < L → h 300 j = xs j) ∧ h 301 0 = nI L
/-- what holds all through a run of a method's body -/
def pm_X (D : va_G) (c3 : ClassId × ClassId × ClassId) (ad : Nat → Nat) (L : Nat) (xs : Nat → Int32) (A : Nat → Prop) (p : Program) (s : State) (m : MethodId) (args : Array Value) (c : Code) (cc : ByteArray) (nL : Nat) (own : String) : Prop := CallFix p m c cc nL s args pm_tb own ∧ va_K D vwCl (pm_tys c3) s ∧ pm_Str ad A s s.heap ∧ pm_Scr ad A L xs s s.heap ∧ pm_Ad ad A
/-- what holds at one place of a run -/
def pm_V (D : va_G) (c3 : ClassId × ClassId × ClassId) (ad : Nat → Nat) (L : Nat) (xs : Nat → Int32) (A : Nat → Prop) (s : State) (h : pm_Hp) (H : Heap) (locs : List Loc) : Prop := va_P D vwCl (pm_ws c3 ad h) H ∧ va_S A s.heap H locs ∧ (∀ j, j < L → h 300 j = xs j) ∧ h 301 0 = nI L
theorem pm_Ad.D {c3 : ClassId × ClassId × ClassId} {ad : Nat → Nat} {A : Nat → Prop} (h : pm_Ad ad A) (hp : pm_Hp) : va_D A (pm_ws c3 ad hp) := by
  refine ⟨fun i j p q hi hj e => ?_, fun k q hq => ?_⟩
  · obtain ⟨h1, rfl⟩ := pm_ws_lt hi
    obtain ⟨h2, rfl⟩ := pm_ws_lt hj
    exact h.1 i j h1 h2 e
  · obtain ⟨h1, rfl⟩ := pm_ws_lt hq
    exact h.2 k h1
/-! values and locals -/
def pm_tv (ad : Nat → Nat) : Value → Value
  | .ref k => .ref (ad k)
  | v => v
def pm_vv (ad : Nat → Nat) : Value → Option Value
  | .int x => some (.int x)
  | .ref k => some (.ref (ad k))
  | _ => none
def pm_L (ad : Nat → Nat) (ls : List Value) (sl : Array Slot) (nL : Nat) : Prop := ls.length = nL ∧ sl.size = nL ∧ lv_wf sl ∧ ∀ (i : Nat) (u v : Value), ls[i]? = some u → pm_vv ad u = some v → sl[i]? = some (Slot.val v)
def pm_lv (ad : Nat → Nat) (ls : List Value) : List (Nat × Value) := (List.range ls.length).filterMap (fun i => (ls[i]?.bind (pm_vv ad)).map (fun v => (i, v)))
theorem pm_lv_mem {ad : Nat → Nat} {ls : List Value} {i : Nat} {v : Value} : (i, v) ∈ pm_lv ad ls ↔ ∃ u, ls[i]? = some u ∧ pm_vv ad u = some v := by
  unfold pm_lv
  rw [List.mem_filterMap]
  constructor
  · rintro ⟨j, hj, h⟩
    cases e : ls[j]? with
    | none => rw [e] at h; cases h
    | some u =>
      rw [e] at h
      simp only [Option.bind_some] at h
      cases e2 : pm_vv ad u with
      | none => rw [e2] at h; cases h
      | some w =>
        rw [e2] at h
        simp only [Option.map_some, Option.some.injEq, Prod.mk.injEq] at h
        obtain ⟨rfl, rfl⟩ := h
        exact ⟨u, e, e2⟩
  · rintro ⟨u, h1, h2⟩
    refine ⟨i, ?_, ?_⟩
    · rw [List.mem_range]
      exact (List.getElem?_eq_some_iff.mp h1).1
    · rw [h1, Option.bind_some, h2]
      rfl
theorem pm_L.has {ad : Nat → Nat} {ls : List Value} {sl : Array Slot} {nL : Nat} (h : pm_L ad ls sl nL) : lv_has sl nL (pm_lv ad ls) := by
  refine ⟨h.2.1, h.2.2.1, fun q hq => ?_⟩
  obtain ⟨i, v⟩ := q
  obtain ⟨u, h1, h2⟩ := pm_lv_mem.mp hq
  exact h.2.2.2 i u v h1 h2
theorem pm_vv_cat {ad : Nat → Nat} {u v : Value} (h : pm_vv ad u = some v) : v.category = 1 := by
  cases u <;> simp [pm_vv] at h <;> subst h <;> rfl
theorem pm_L.store {ad : Nat → Nat} {ls : List Value} {sl sl' : Array Slot} {nL i : Nat} {u w : Value} (h : pm_L ad ls sl nL) (hu : pm_vv ad u = some w) (hi : i < nL) (h' : lv_has sl' nL ((i, w) :: (pm_lv ad ls).filter (fun q => !(q.1 == i) && !(q.1 + 1 == i && q.2.category == 2)))) : pm_L ad (ls.set i u) sl' nL := by
  refine ⟨by rw [List.length_set]; exact h.1, h'.1, h'.2.1, fun j a v h1 h2 => ?_⟩
  rw [List.getElem?_set] at h1
  by_cases e : i = j
  · subst e
    rw [if_pos rfl, if_pos (by rw [h.1]; exact hi)] at h1
    cases h1
    rw [hu] at h2
    cases h2
    exact h'.2.2 (i, w) List.mem_cons_self
  · rw [if_neg e] at h1
    refine h'.2.2 (j, v) (List.mem_cons_of_mem _ (List.mem_filter.mpr ⟨pm_lv_mem.mpr ⟨a, h1, h2⟩, ?_⟩))
    have hc := pm_vv_cat h2
    have e2 : ¬ j = i := fun q => e q.symm
    simp [e2, hc]
