/-! SEVEN ROWS OF SIX: the array of arrays -/
def mg_o (cA : ClassId) (a i : Nat) : Cell := arrV cA 7 (fun j => if j < i then .ref (a + 1 + j) else .null)
def mg_i (cI : ClassId) : Cell := arrV cI 6 (fun _ => .int 0)
def mg_s (T : State) (cA cI : ClassId) : Nat → State
  | 0 => T.pushCell (mg_o cA T.heap.size 0)
  | i + 1 => ((mg_s T cA cI i).pushCell (mg_i cI)).setCell T.heap.size (mg_o cA T.heap.size (i + 1))
theorem mg_o_n {cA : ClassId} {a : Nat} : ({ cls := cA, slots := Array.replicate 7 .null, vm := .none } : Cell) = mg_o cA a 0 := by
  rw [arrV_new]
  unfold mg_o
  congr 1
theorem mg_i_n {cI : ClassId} : ({ cls := cI, slots := Array.replicate 6 (.int 0), vm := .none } : Cell) = mg_i cI := arrV_new _ _ _
theorem mg_o_s {cA : ClassId} {a i : Nat} : (mg_o cA a i).setSlot i (.ref (a + 1 + i)) = mg_o cA a (i + 1) := by
  unfold mg_o
  rw [arrV_store]
  congr 1
  funext j
  unfold updV
  by_cases h : j = i
  · subst h
    rw [if_pos rfl, if_pos (by omega)]
  · rw [if_neg h]
    show (if j < i then Value.ref (a + 1 + j) else Value.null) = _
    by_cases g : j < i
    · rw [if_pos g, if_pos (by omega)]
    · rw [if_neg g, if_neg (by omega)]
theorem mg_f (T : State) (cA cI : ClassId) : ∀ i, (mg_s T cA cI i).heap.size = T.heap.size + 1 + i ∧ (mg_s T cA cI i).heap[T.heap.size]? = some (mg_o cA T.heap.size i) ∧ (mg_s T cA cI i).vm = T.vm ∧ (mg_s T cA cI i).slotsUsed = T.slotsUsed + 7 + 6 * i ∧ (∀ a, a < T.heap.size → (mg_s T cA cI i).heap[a]? = T.heap[a]?) ∧ ∀ j, j < i → (mg_s T cA cI i).heap[T.heap.size + 1 + j]? = some (mg_i cI)
  | 0 => by
    refine ⟨by simp [mg_s], by simp [mg_s], rfl, ?_, fun a ha => ?_, fun j hj => absurd hj (Nat.not_lt_zero j)⟩
    · show T.slotsUsed + (arrV _ _ _).slots.size = _
      rw [arrV_size]
    · show (T.heap.push _)[a]? = _
      rw [Array.getElem?_push, if_neg (by omega)]
  | i + 1 => by
    obtain ⟨f1, f2, f3, f4, f5, f6⟩ := mg_f T cA cI i
    have hh : (mg_s T cA cI (i + 1)).heap = ((mg_s T cA cI i).heap.push (mg_i cI)).setIfInBounds T.heap.size (mg_o cA T.heap.size (i + 1)) := rfl
    refine ⟨?_, ?_, f3, ?_, fun a ha => ?_, fun j hj => ?_⟩
    · rw [hh, Array.size_setIfInBounds, Array.size_push, f1]; omega
    · rw [hh, Array.getElem?_setIfInBounds, if_pos rfl, if_pos (by rw [Array.size_push, f1]; omega)]
    · show (mg_s T cA cI i).slotsUsed + (arrV _ _ _).slots.size = _
      rw [arrV_size, f4]; omega
    · rw [hh, Array.getElem?_setIfInBounds, if_neg (by omega), Array.getElem?_push, if_neg (by omega)]
      exact f5 a ha
    · rw [hh, Array.getElem?_setIfInBounds, if_neg (by omega), Array.getElem?_push]
      by_cases g : T.heap.size + 1 + j = (mg_s T cA cI i).heap.size
      · rw [if_pos g]
      · rw [if_neg g]
        exact f6 j (by omega)
theorem mg_t (T : State) (f : JFrame) (cA cI : ClassId) : ∀ i, mg_s (T.setTop f) cA cI i = (mg_s T cA cI i).setTop f
  | 0 => rfl
  | i + 1 => by
    show ((mg_s (T.setTop f) cA cI i).pushCell _).setCell _ _ = _
    rw [mg_t T f cA cI i]
    rfl
theorem mg_ref {t : FieldType} (h : t = .array .int) (v : Value) (hv : v = .null ∨ ∃ a, v = .ref a) : fits t v = true := by
  subst h
  rcases hv with rfl | ⟨a, rfl⟩ <;> rfl
section MGW
variable {E : CtlPost} {e : Env} {d : Bool} {acts : List Action} {s : State}
theorem mg_wn {cx cy : ClassId} {k : Class} {ty : FieldType} {n : Nat} {v : Value} (hk : s.vm.classes[cx]? = some k) (hkind : k.kind = .array cy ty) (h1 : ¬ n > e.platform.arrayLengthLimit) (h2 : ¬ n * componentBytes ty > e.platform.maxHeapBytes) (hf : fits ty v = true) (hd : v.isDefault = true) {Q : Addr → Pre} (h3 : s.heap.size < e.platform.maxCells) (h4 : s.slotsUsed + n ≤ e.platform.maxSlots)
    (hq : Q s.heap.size d acts (s.pushCell { cls := cx, slots := Array.replicate n v, vm := .none })) : wp (Jvm.newArray cx n v) Q E e d acts s := by
  have a1 : ∀ i x, (Array.replicate n v)[i]? = some x → s.fitsSlot cx .none i x = true := fun i x hx => by
    rw [Array.getElem?_replicate] at hx
    by_cases g : i < n
    · rw [if_pos g] at hx
      cases hx
      simp [State.fitsSlot, State.slotType?, hk, hkind, hf]
    · rw [if_neg g] at hx; cases hx
  have a2 : allocActs (Array.replicate n v) s.heap.size acts = acts := by
    unfold allocActs
    rw [if_pos (by rw [Array.all_replicate]; simp [hd])]
  simp only [Jvm.newArray, Jvm.arrayFits, wp_bind', Jvm.W.ask, Jvm.W.ite, h1, if_false, wp_pure', Jvm.W.theClass, hk, hkind, h2, Jvm.W.alloc, Jvm.W.stop, Option.some.injEq, exists_eq_left', Array.size_replicate, a2]
  rw [if_neg (by omega)]
  exact ⟨h3, h4, a1, hq⟩
theorem mg_w2 {cA cI cz : ClassId} {kA kI : Class} (hkA : s.vm.classes[cA]? = some kA) (hA : kA.kind = .array cI (.array .int)) (hkI : s.vm.classes[cI]? = some kI) (hI : kI.kind = .array cz .int) (h1 : 7 ≤ e.platform.arrayLengthLimit) (h2 : 28 ≤ e.platform.maxHeapBytes) (h3 : s.heap.size + 8 ≤ e.platform.maxCells) (h4 : s.slotsUsed + 49 ≤ e.platform.maxSlots) {Q : Addr → Pre}
    (hq : ∀ d' acts', Q s.heap.size d' acts' (mg_s s cA cI 7)) : wp (multianewarray.make cA [7, 6]) Q E e d acts s := by
  have i7 : ¬ (7 : Int32) < 0 := by decide
  have i6 : ¬ (6 : Int32) < 0 := by decide
  have n7 : (7 : Int32).toNatClampNeg = 7 := by decide
  have n6 : (6 : Int32).toNatClampNeg = 6 := by decide
  have hfind : ([(6 : Int32)].find? (· < 0)) = none := by decide
  rw [multianewarray.make]
  simp only [wp_bind', Jvm.W.ite, i7, if_false, wp_pure', Jvm.W.theClass, hkA, hA, Option.some.injEq, exists_eq_left', n7]
  refine mg_wn hkA hA (by omega) (by show ¬ 7 * 4 > _; omega) (mg_ref rfl _ (Or.inl rfl)) rfl (by omega) (by omega) ?_
  rw [mg_o_n (a := s.heap.size)]
  simp only [hfind]
  rw [ite_self, wp_bind', Std.Legacy.Range.forIn_eq_forIn_range']
  show wp (forIn (List.range' 0 7 1) PUnit.unit _) _ E e d acts _
  refine wp_forIn_inv (fun rest s' => ∃ i, i ≤ 7 ∧ rest = List.range' i (7 - i) ∧ s' = mg_s s cA cI i) _ _ ⟨0, by omega, rfl, rfl⟩ ?_ ?_
  · rintro x rest s' d' acts' Q' ⟨i, hi, hl, rfl⟩ hnext
    have hlt : i < 7 := by
      rcases Nat.lt_or_ge i 7 with h | h
      · exact h
      · rw [show 7 - i = 0 by omega] at hl; cases hl
    rw [show 7 - i = (7 - (i + 1)) + 1 by omega, List.range'_succ] at hl
    obtain ⟨rfl, hrest⟩ := List.cons.inj hl
    obtain ⟨f1, f2, f3, f4, f5, f6⟩ := mg_f s cA cI x
    simp only [wp_bind']
    rw [multianewarray.make]
    simp only [wp_bind', Jvm.W.ite, i6, if_false, wp_pure', Jvm.W.theClass, f3, hkI, hI, Option.some.injEq, exists_eq_left', n6]
    refine mg_wn (by rw [f3]; exact hkI) hI (by omega) (by show ¬ 6 * 4 > _; omega) rfl rfl (by rw [f1]; omega) (by rw [f4]; omega) ?_
    rw [show defaultValue FieldType.int = Value.int 0 from rfl, mg_i_n]
    simp only [wp_bind', Jvm.W.writeLoc, wp_pure']
    refine ⟨mg_o cA s.heap.size x, ?_, (fun z => (by cases z)), ?_, ?_, hnext _ _ _ ⟨x + 1, hlt, hrest, ?_⟩⟩
    · rw [State.heap_pushCell, Array.getElem?_push, if_neg (by rw [f1]; omega)]
      exact f2
    · show x < (arrV _ _ _).slots.size
      rw [arrV_size]; exact hlt
    · show State.fitsSlot _ cA .none x _ = true
      simp [State.fitsSlot, State.slotType?, f3, hkA, hA, mg_ref rfl _ (Or.inr ⟨_, rfl⟩)]
    · rw [f1, mg_o_s]; rfl
  · rintro s' d' acts' ⟨i, hi, hl, rfl⟩
    have h7 : i = 7 := by
      rcases Nat.lt_or_ge i 7 with h | h
      · rw [show 7 - i = (7 - (i + 1)) + 1 by omega, List.range'_succ] at hl; cases hl
      · omega
    subst h7
    simp only [wp_pure']
    exact hq _ _
end MGW
section MGS
variable {p : Program} {l : Launch} {e : Env} {R : Room} {s : State} {m : MethodId} {args : Array Value} {below : List Frame} {meth : Method} {c : Code} {H : Heap} {locs : List Loc} {cells slots : Nat} {Q : State → Prop} {T : State}
theorem mg_X (X : Stand p l e R s m args below meth c T locs cells slots) (cA cI : ClassId) : ∀ i, Stand p l e R s m args below meth c (mg_s T cA cI i) (locs ++ (List.range i).map fun j => (⟨T.heap.size, j⟩ : Loc)) (cells + (1 + i)) (slots + (7 + 6 * i))
  | 0 => by
    have h := X.pushed (mg_o cA T.heap.size 0)
    rw [show (mg_o cA T.heap.size 0).slots.size = 7 from arrV_size _ _ _] at h
    rw [List.range_zero, List.map_nil, List.append_nil]
    exact h
  | i + 1 => by
    have Y := mg_X X cA cI i
    obtain ⟨f1, f2, f3, f4, f5, f6⟩ := mg_f T cA cI i
    have hc : ((mg_s T cA cI i).pushCell (mg_i cI)).heap[T.heap.size]? = some (mg_o cA T.heap.size i) := by
      rw [State.heap_pushCell, Array.getElem?_push, if_neg (by rw [f1]; omega)]
      exact f2
    have h := (Y.pushed (mg_i cI)).stored hc i (.ref (T.heap.size + 1 + i))
    rw [show (mg_i cI).slots.size = 6 from arrV_size _ _ _, mg_o_s] at h
    rw [List.range_succ, List.map_append, ← List.append_assoc, show cells + (1 + (i + 1)) = cells + (1 + i) + 1 by omega, show slots + (7 + 6 * (i + 1)) = slots + (7 + 6 * i) + 6 by omega]
    exact h
theorem mg_row {cc : ByteArray} (hexec : p.tables.exec = Jvm.exec) (hb : c.code = cc) {own : String} {idx : Nat} (hown : s.vm.findClass own = some m.cls) (hclink : (Cond.classLink own idx "[[I").before args s = true) {cA cI cz : ClassId} {kA kI : Class} (hfA : s.vm.findClass "[[I" = some cA) (hkA : s.vm.classes[cA]? = some kA) (hA : kA.kind = .array cI (.array .int)) (hkI : s.vm.classes[cI]? = some kI) (hI : kI.kind = .array cz .int) {pc : Nat} {ls : Array Slot} {rest : List Value} (hdg : decode cc pc = .ok (.multianewarray idx 2, 4)) (hcells : cells + 8 ≤ R.cells) (hslots : slots + 49 ≤ R.slots)
    (kk : ∀ (H1 : Heap) (locs1 : List Loc), H1.size = H.size + 8 → H1[H.size]? = some (arrV cA 7 (fun j => if j < 7 then .ref (H.size + 1 + j) else .null)) → (∀ a, a < H.size → H1[a]? = H[a]?) → (∀ j, j < 7 → H1[H.size + 1 + j]? = some (arrV cI 6 (fun _ => .int 0))) → (∀ q ∈ locs1, q ∈ locs ∨ q.base = H.size) → W p l e R s m args below meth c H1 locs1 (cells + 8) (slots + 49) Q (F0 m (pc + 4) ls (.ref H.size :: rest))) :
    W p l e R s m args below meth c H locs cells slots Q (F0 m pc ls (.int 6 :: .int 7 :: rest)) := by
  intro T hT X
  subst hT; subst hb
  have hpl : e.platform.magicAccessors = ({} : Platform).magicAccessors := by rw [X.admits.platform]
  obtain ⟨c0, hf0, hcl⟩ := Cond.classLink_spec hown hclink e.platform hpl
  cases hfA.symm.trans hf0
  obtain ⟨hg1, hw1, hr1⟩ := State.classEntry (e := e) X.warmed hcl
  generalize T.vm.noted m.cls idx (.cls cA) = vm1 at hg1 hw1 hr1
  obtain ⟨kA1, hkA1, heA⟩ := hw1.alike.2.2 _ _ hkA
  obtain ⟨kI1, hkI1, heI⟩ := hw1.alike.2.2 _ _ hkI
  have hA1 : kA1.kind = .array cI (.array .int) := by rw [heA]; exact hA
  have hI1 : kI1.kind = .array cz .int := by rw [heI]; exact hI
  have X1 := X.noted hw1
  have X2 := mg_X X1 cA cI 7
  obtain ⟨z1, z2⟩ := X.roomAbove hcells hslots
  obtain ⟨f1, f2, f3, f4, f5, f6⟩ := mg_f (T.setVm vm1) cA cI 7
  obtain ⟨t, a1, b1⟩ := kk (mg_s (T.setVm vm1) cA cI 7).heap (locs ++ (List.range 7).map fun j => (⟨T.heap.size, j⟩ : Loc)) f1 f2 f5 f6 (fun q hq => by
    rcases List.mem_append.mp hq with h | h
    · exact Or.inl h
    · obtain ⟨j, -, rfl⟩ := List.mem_map.mp h
      exact Or.inr rfl) (mg_s (T.setVm vm1) cA cI 7) rfl X2
  refine ⟨t, ?_, b1⟩
  jvm_step X.here [hexec, hdg]
  simp only [multianewarray.sem, wp_bind', Jvm.W.resolveClassAt_links (State.method?_setTop (F0 m pc ls (.int 6 :: .int 7 :: rest)) X.here.top) hg1]
  rw [Jvm.W.popN, if_neg (by decide)]
  refine ⟨F0 m pc ls (.int 6 :: .int 7 :: rest), State.topJava?_setTop' (s := T.setVm vm1) _ X.here.top, [.int 7, .int 6], rest, rfl, rfl, ?_⟩
  simp only [List.mapM_cons, List.mapM_nil, wp_bind', wp_pure']
  refine mg_w2 (kA := kA1) (kI := kI1) (by exact hkA1) hA1 (by exact hkI1) hI1 (by rw [Launch.admits_arrayLengthLimit X.admits]; decide) (by rw [Launch.admits_maxHeapBytes X.admits]; decide) (by exact z1) (by exact z2) (fun d' acts' => ?_)
  rw [show ((T.setTop (F0 m pc ls (.int 6 :: .int 7 :: rest))).setVm vm1).setTop { (F0 m pc ls (.int 6 :: .int 7 :: rest)) with stack := rest } = (T.setVm vm1).setTop { (F0 m pc ls (.int 6 :: .int 7 :: rest)) with stack := rest } from by
    show ((T.setVm vm1).setTop _).setTop _ = _
    rw [State.setTop_setTop], mg_t]
  simp only [wp_bind', Jvm.W.mark, Jvm.W.pushRef, State.topJava?_setTop' _ X2.here.top, Option.some.injEq, exists_eq_left', State.setTop_setTop, State.heap_setTop]
  intro acts
  simp [jvm, X2.here.top]
  exact a1
end MGS
