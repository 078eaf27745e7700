/-! TEXTS, STATICS, CLASSES at the law's entry -/
def st_x : List String := ["cost mend tear dirt change when or and not by out measure kind lets torn worn next scene wear dress coat uniform mask set ", ";+-*/()<=>", "scene", "wear", "dress", "coat", "uniform", "mask", "set", "when", "or", "and", "not", "cost", "mend", "tear", "change", "by", "out", "measure", "kind", "lets", "torn", "worn", "dirt", "next"]
def st_q (i : Nat) : Nat × Nat := pm_st.getD i (0, 0)
def st_t (i : Nat) : Term := .string (pm_cn (st_q i).1) (st_q i).2
def st_v (i : Nat) : Term := .field (st_t i) "java/lang/String" "value" "[B"
def st_o (i : Nat) : Nat := (lenJS.take i).sum + 4 * i + 9
def st_l : List Cond := flatC (Jvm.Cond.and given_1 narrow_1)
theorem st_r0 : Cond.stringRef (pm_cn (st_q 0).1) (st_q 0).2 (st_x.getD 0 "") ∈ lw_tbl := List.mem_of_getElem? (i := 677) (by decide +kernel)
theorem st_r1 : Cond.stringRef (pm_cn (st_q 1).1) (st_q 1).2 (st_x.getD 1 "") ∈ lw_tbl := List.mem_of_getElem? (i := 734) (by decide +kernel)
theorem st_r2 : Cond.stringRef (pm_cn (st_q 2).1) (st_q 2).2 (st_x.getD 2 "") ∈ lw_tbl := List.mem_of_getElem? (i := 1514) (by decide +kernel)
theorem st_r3 : Cond.stringRef (pm_cn (st_q 3).1) (st_q 3).2 (st_x.getD 3 "") ∈ lw_tbl := List.mem_of_getElem? (i := 1521) (by decide +kernel)
theorem st_r4 : Cond.stringRef (pm_cn (st_q 4).1) (st_q 4).2 (st_x.getD 4 "") ∈ lw_tbl := List.mem_of_getElem? (i := 1522) (by decide +kernel)
theorem st_r5 : Cond.stringRef (pm_cn (st_q 5).1) (st_q 5).2 (st_x.getD 5 "") ∈ lw_tbl := List.mem_of_getElem? (i := 1523) (by decide +kernel)
theorem st_r6 : Cond.stringRef (pm_cn (st_q 6).1) (st_q 6).2 (st_x.getD 6 "") ∈ lw_tbl := List.mem_of_getElem? (i := 1524) (by decide +kernel)
theorem st_r7 : Cond.stringRef (pm_cn (st_q 7).1) (st_q 7).2 (st_x.getD 7 "") ∈ lw_tbl := List.mem_of_getElem? (i := 1525) (by decide +kernel)
theorem st_r8 : Cond.stringRef (pm_cn (st_q 8).1) (st_q 8).2 (st_x.getD 8 "") ∈ lw_tbl := List.mem_of_getElem? (i := 1526) (by decide +kernel)
theorem st_r9 : Cond.stringRef (pm_cn (st_q 9).1) (st_q 9).2 (st_x.getD 9 "") ∈ lw_tbl := List.mem_of_getElem? (i := 1531) (by decide +kernel)
theorem st_r10 : Cond.stringRef (pm_cn (st_q 10).1) (st_q 10).2 (st_x.getD 10 "") ∈ lw_tbl := List.mem_of_getElem? (i := 1532) (by decide +kernel)
theorem st_r11 : Cond.stringRef (pm_cn (st_q 11).1) (st_q 11).2 (st_x.getD 11 "") ∈ lw_tbl := List.mem_of_getElem? (i := 1533) (by decide +kernel)
theorem st_r12 : Cond.stringRef (pm_cn (st_q 12).1) (st_q 12).2 (st_x.getD 12 "") ∈ lw_tbl := List.mem_of_getElem? (i := 1534) (by decide +kernel)
theorem st_r13 : Cond.stringRef (pm_cn (st_q 13).1) (st_q 13).2 (st_x.getD 13 "") ∈ lw_tbl := List.mem_of_getElem? (i := 1535) (by decide +kernel)
theorem st_r14 : Cond.stringRef (pm_cn (st_q 14).1) (st_q 14).2 (st_x.getD 14 "") ∈ lw_tbl := List.mem_of_getElem? (i := 1536) (by decide +kernel)
theorem st_r15 : Cond.stringRef (pm_cn (st_q 15).1) (st_q 15).2 (st_x.getD 15 "") ∈ lw_tbl := List.mem_of_getElem? (i := 1537) (by decide +kernel)
theorem st_r16 : Cond.stringRef (pm_cn (st_q 16).1) (st_q 16).2 (st_x.getD 16 "") ∈ lw_tbl := List.mem_of_getElem? (i := 1538) (by decide +kernel)
theorem st_r17 : Cond.stringRef (pm_cn (st_q 17).1) (st_q 17).2 (st_x.getD 17 "") ∈ lw_tbl := List.mem_of_getElem? (i := 1543) (by decide +kernel)
theorem st_r18 : Cond.stringRef (pm_cn (st_q 18).1) (st_q 18).2 (st_x.getD 18 "") ∈ lw_tbl := List.mem_of_getElem? (i := 1544) (by decide +kernel)
theorem st_r19 : Cond.stringRef (pm_cn (st_q 19).1) (st_q 19).2 (st_x.getD 19 "") ∈ lw_tbl := List.mem_of_getElem? (i := 1545) (by decide +kernel)
theorem st_r20 : Cond.stringRef (pm_cn (st_q 20).1) (st_q 20).2 (st_x.getD 20 "") ∈ lw_tbl := List.mem_of_getElem? (i := 1546) (by decide +kernel)
theorem st_r21 : Cond.stringRef (pm_cn (st_q 21).1) (st_q 21).2 (st_x.getD 21 "") ∈ lw_tbl := List.mem_of_getElem? (i := 1547) (by decide +kernel)
theorem st_r22 : Cond.stringRef (pm_cn (st_q 22).1) (st_q 22).2 (st_x.getD 22 "") ∈ lw_tbl := List.mem_of_getElem? (i := 1548) (by decide +kernel)
theorem st_r23 : Cond.stringRef (pm_cn (st_q 23).1) (st_q 23).2 (st_x.getD 23 "") ∈ lw_tbl := List.mem_of_getElem? (i := 1549) (by decide +kernel)
theorem st_r24 : Cond.stringRef (pm_cn (st_q 24).1) (st_q 24).2 (st_x.getD 24 "") ∈ lw_tbl := List.mem_of_getElem? (i := 1550) (by decide +kernel)
theorem st_r25 : Cond.stringRef (pm_cn (st_q 25).1) (st_q 25).2 (st_x.getD 25 "") ∈ lw_tbl := List.mem_of_getElem? (i := 1551) (by decide +kernel)
theorem st_r : ∀ i, i < 26 → Cond.stringRef (pm_cn (st_q i).1) (st_q i).2 (st_x.getD i "") ∈ lw_tbl
  | 0, _ => st_r0
  | 1, _ => st_r1
  | 2, _ => st_r2
  | 3, _ => st_r3
  | 4, _ => st_r4
  | 5, _ => st_r5
  | 6, _ => st_r6
  | 7, _ => st_r7
  | 8, _ => st_r8
  | 9, _ => st_r9
  | 10, _ => st_r10
  | 11, _ => st_r11
  | 12, _ => st_r12
  | 13, _ => st_r13
  | 14, _ => st_r14
  | 15, _ => st_r15
  | 16, _ => st_r16
  | 17, _ => st_r17
  | 18, _ => st_r18
  | 19, _ => st_r19
  | 20, _ => st_r20
  | 21, _ => st_r21
  | 22, _ => st_r22
  | 23, _ => st_r23
  | 24, _ => st_r24
  | 25, _ => st_r25
  | n + 26, h => absurd h (by omega)
theorem st_zc : Cond.laysStatic "java/lang/String" "COMPACT_STRINGS" "Z" ∈ lw_tbl := List.mem_of_getElem? (i := 687) (by decide +kernel)
theorem st_zf : Cond.laysStatic "jdk/internal/util/Preconditions" "SIOOBE_FORMATTER" "Ljava/util/function/BiFunction;" ∈ lw_tbl := List.mem_of_getElem? (i := 703) (by decide +kernel)
theorem st_ic : Cond.initialized "java/lang/String" ∈ lw_tbl := List.mem_of_getElem? (i := 134) (by decide +kernel)
theorem st_if : Cond.initialized "jdk/internal/util/Preconditions" ∈ lw_tbl := List.mem_of_getElem? (i := 136) (by decide +kernel)
theorem st_ai : Cond.arrayClass .int ∈ lw_tbl := List.mem_of_getElem? (i := 222) (by decide +kernel)
theorem st_aS : Cond.arrayOver (.object RX7) ∈ lw_tbl := List.mem_of_getElem? (i := 382) (by decide +kernel)
theorem st_aG : Cond.arrayOver (.array .int) ∈ lw_tbl := List.mem_of_getElem? (i := 451) (by decide +kernel)
theorem st_g4 : Cond.eq (.static "java/lang/String" "COMPACT_STRINGS" "Z") (.int 1) ∈ st_l := List.mem_of_getElem? (i := 4) (by decide +kernel)
theorem st_g5 : Cond.isRef (.static "jdk/internal/util/Preconditions" "SIOOBE_FORMATTER" "Ljava/util/function/BiFunction;") ∈ st_l := List.mem_of_getElem? (i := 5) (by decide +kernel)
theorem st_m : ∀ i, i < 26 → st_l[st_o i]? = some (.exactly (st_t i) "java/lang/String") ∧ st_l[st_o i + 1]? = some (.eq (.field (st_t i) "java/lang/String" "coder" "B") (.int 0)) ∧ st_l[st_o i + 2]? = some (.arrayOf (st_v i) .byte) ∧ st_l[st_o i + 3]? = some (.eq (.length (st_v i)) (.int (Int32.ofNat (lenJS.getD i 0)))) ∧ ∀ j, j < lenJS.getD i 0 → st_l[st_o i + 4 + j]? = some (.eq (.elem (st_v i) (.int (Int32.ofNat j))) (.int ((bytJS.getD i []).getD j 0))) := by decide +kernel
theorem st_n : ∀ i, i < 26 → lenJS.getD i 0 < 2 ^ 31 := by decide +kernel
theorem st_d : ∀ i, i < 26 → ∀ j, j < 26 → lenJS.getD i 0 = lenJS.getD j 0 → (∀ k, k < lenJS.getD i 0 → (bytJS.getD i []).getD k 0 = (bytJS.getD j []).getD k 0) → i = j := by decide +kernel
section STR
variable {args : Array Value} {s : State} {A : Nat → Prop}
theorem st_1 (hg : (Jvm.Cond.and given_1 narrow_1).before args s = true) (hA : ∀ a : Nat, a < s.heap.size → ¬ A a) {i : Nat} (hi : i < 26) : ∃ q : Nat × Nat, (st_t i).eval args s none [] s = some (.ref q.1) ∧ va_O "java/lang/String" q.1 A s s.heap ∧ va_OF "java/lang/String" "coder" "B" (.int 0) q.1 A s s.heap ∧ va_OF "java/lang/String" "value" "[B" (.ref q.2) q.1 A s s.heap ∧ va_T .byte q.2 (lenJS.getD i 0) (fun j => .int ((bytJS.getD i []).getD j 0)) A s s.heap := by
  have hs := flat_of_before _ hg
  obtain ⟨m1, m2, m3, m4, m5⟩ := st_m i hi
  have z : ∀ x : Nat, x < 1 → x = 0 := fun x hx => by omega
  obtain ⟨aK, aV, hS, he⟩ := vk_Sof (args := args) (s := s) (N := 1) (tm := fun _ => st_t i) (len := [lenJS.getD i 0]) (byt := [bytJS.getD i []]) (A := A) (fun x hx => by rw [z x hx]; exact st_n i hi) (fun x hx => hs _ (List.mem_of_getElem? m1)) (fun x hx => hs _ (List.mem_of_getElem? m2)) (fun x hx => hs _ (List.mem_of_getElem? m3)) (fun x hx => by rw [z x hx]; exact hs _ (List.mem_of_getElem? m4)) (fun x hx j hj => by rw [z x hx] at hj ⊢; exact hs _ (List.mem_of_getElem? (m5 j hj))) (fun x y hx hy hn => absurd ((z x hx).trans (z y hy).symm) hn) hA
  have h0 := hS.1 0 (by omega)
  exact ⟨(aK 0, aV 0), he 0 (by omega), h0.1, h0.2.1, h0.2.2.1, h0.2.2.2⟩
theorem st_2 {i j a u v : Nat} (hi : i < 26) (hj : j < 26) (f1 : va_OF "java/lang/String" "value" "[B" (.ref u) a A s s.heap) (f2 : va_OF "java/lang/String" "value" "[B" (.ref v) a A s s.heap) (t1 : va_T .byte u (lenJS.getD i 0) (fun k => .int ((bytJS.getD i []).getD k 0)) A s s.heap) (t2 : va_T .byte v (lenJS.getD j 0) (fun k => .int ((bytJS.getD j []).getD k 0)) A s s.heap) : i = j := by
  obtain ⟨cf, k, n, f, cell, a1, a2, a3, a4, a5, a6⟩ := f1
  obtain ⟨cf', k', n', f', cell', b1, b2, b3, b4, b5, b6⟩ := f2
  have e1 := Option.some.inj (a1.symm.trans b1)
  simp only [Prod.mk.injEq] at e1
  obtain ⟨-, -, -, rfl⟩ := e1
  cases a3.symm.trans b3
  cases a5.symm.trans b5
  obtain ⟨ce, c1, c2, c3, c4, c5, c6, c7⟩ := t1
  obtain ⟨ce', d1, d2, d3, d4, d5, d6, d7⟩ := t2
  cases c1.symm.trans d1
  have hl : lenJS.getD i 0 = lenJS.getD j 0 := (nI_eq (st_n i hi) (st_n j hj)).mp (c5.symm.trans d5)
  refine st_d i hi j hj hl (fun k hk => ?_)
  have g1 := c6 k hk
  have g2 := d6 k (by rw [← hl]; exact hk)
  exact Value.int.inj (Option.some.inj (g1.symm.trans g2))
theorem st_3 (hg : (Jvm.Cond.and given_1 narrow_1).before args s = true) (hA : ∀ a : Nat, a < s.heap.size → ¬ A a) : ∃ ad : Nat → Nat × Nat, vk_S nJS lenJS bytJS (fun i => (ad i).1) (fun i => (ad i).2) A s s.heap ∧ ∀ i, i < 26 → (st_t i).eval args s none [] s = some (.ref (ad i).1) := by
  have h0 : ∀ i : Nat, ∃ q : Nat × Nat, i < 26 → (st_t i).eval args s none [] s = some (.ref q.1) ∧ va_O "java/lang/String" q.1 A s s.heap ∧ va_OF "java/lang/String" "coder" "B" (.int 0) q.1 A s s.heap ∧ va_OF "java/lang/String" "value" "[B" (.ref q.2) q.1 A s s.heap ∧ va_T .byte q.2 (lenJS.getD i 0) (fun j => .int ((bytJS.getD i []).getD j 0)) A s s.heap := fun i => by
    by_cases hi : i < 26
    · obtain ⟨q, h⟩ := st_1 hg hA hi
      exact ⟨q, fun _ => h⟩
    · exact ⟨(0, 0), fun h => absurd h hi⟩
  obtain ⟨ad, had⟩ := Classical.axiomOfChoice h0
  refine ⟨ad, ⟨fun i hi => (had i hi).2, fun i j hi hj e => ?_⟩, fun i hi => (had i hi).1⟩
  have x := had i hi
  have y := had j hj
  have e : (ad i).1 = (ad j).1 := e
  have f2 := y.2.2.2.1
  rw [← e] at f2
  exact st_2 hi hj x.2.2.2.1 f2 x.2.2.2.2 y.2.2.2.2
theorem st_4 {ad : Nat → Nat} {aq : Nat → Nat × Nat} (hts : ∀ w ∈ lw_tbl, w.before args s = true) (hg : (Jvm.Cond.and given_1 narrow_1).before args s = true) (hA : ∀ a : Nat, a < s.heap.size → ¬ A a) (hS : vk_S nJS lenJS bytJS (fun i => (aq i).1) (fun i => (aq i).2) A s s.heap) (he : ∀ i, i < 26 → (st_t i).eval args s none [] s = some (.ref (aq i).1)) (h4 : ∀ i, i < 26 → ad (400 + i) = (aq i).1) (h5 : ∀ i, i < 26 → ad (500 + i) = (aq i).2) : pm_Str ad A s s.heap := by
  have hs := flat_of_before _ hg
  refine ⟨⟨fun i hi => ?_, fun i j hi hj e => ?_⟩, fun i q hq => ?_, va_Zof (hts _ st_zc) (hts _ st_ic) (va_eqi (hs _ st_g4)) hA, fun q hq => va_Nw.of rfl (hts _ (pm_NL_ok q hq)), va_Zqof (hts _ st_zf) (hts _ st_if) (hs _ st_g5) hA⟩
  · have hi : i < 26 := hi
    have := hS.1 i hi
    dsimp only at this ⊢
    rw [h4 i hi, h5 i hi]
    exact this
  · have hi : i < 26 := hi
    have hj : j < 26 := hj
    dsimp only at e
    rw [h4 i hi, h4 j hj] at e
    exact hS.2 i j hi hj e
  · have hi : i < 26 := (List.getElem?_eq_some_iff.mp hq).1
    have eq : st_q i = q := by unfold st_q; rw [List.getD_eq_getElem?_getD, hq]; rfl
    refine ⟨st_x.getD i "", ?_⟩
    rw [h4 i hi, ← eq]
    exact vk_R.of (hts _ (st_r i hi)) (he i hi)
/-- the classes, and the classes of arrays -/
theorem st_5 (hts : ∀ w ∈ lw_tbl, w.before args s = true) : ∃ (D : va_G) (c3 : ClassId × ClassId × ClassId), va_K D vwCl (pm_tys c3) s ∧ g_N c3 s := by
  have ht : ∀ w ∈ pm_tb, w.before args s = true := fun w hw => hts w (List.mem_filter.mp hw).1
  have k0 : ∀ ci : Nat, ∃ q : ClassId × (Nat → Nat), ci ≤ 10 → u_Kn s (pm_cn ci) (pm_T ci) (pm_ft ci).length q.1 q.2 := fun ci => by
    by_cases hc : ci ≤ 10
    · obtain ⟨cC, iS, h⟩ := u_known (C := pm_cn ci) (T := pm_T ci) (N := (pm_ft ci).length) (n := (pm_ft ci).length) ht (pm_uws ci hc) (ht _ (g_IN_ok _ (g_ins ci hc)))
      exact ⟨(cC, iS), fun _ => h⟩
    · exact ⟨(0, fun _ => 0), fun h => absurd h hc⟩
  obtain ⟨dd, hdd⟩ := Classical.axiomOfChoice k0
  obtain ⟨cI, kI, cz, i1, i2, i3⟩ := Cond.arrayClass_spec (hts _ st_ai)
  obtain ⟨cS, cA, kA, s1, s2, s3, s4, s5⟩ := Cond.arrayOver_spec (hts _ st_aS)
  obtain ⟨cJ, cG, kG, g1, g2, g3, g4, g5⟩ := arrayOverA_spec (hts _ st_aG)
  have eJ : cJ = cI := Option.some.inj (g1.symm.trans i1)
  subst eJ
  refine ⟨(fun c => (dd c).1, fun c => (dd c).2), (cJ, cA, cG), ⟨fun c q hq => ?_, fun k q hq => ?_⟩, va_AO.of (hts _ st_aS), ⟨kG, g3, g4⟩, fun q hq => va_Nw.of rfl (hts _ (g_NL_ok q hq))⟩
  · have hc : c ≤ 10 := by
      have := (List.getElem?_eq_some_iff.mp hq).1
      have l11 : vwCl.length = 11 := rfl
      omega
    have e1 := Option.some.inj ((pm_cl_at c hc).symm.trans hq)
    rw [← e1]
    exact hdd c hc
  · have hk : k < 3 := (List.getElem?_eq_some_iff.mp hq).1
    have : k = 0 ∨ k = 1 ∨ k = 2 := by omega
    rcases this with rfl | rfl | rfl
    · cases hq
      exact ⟨fun n z => ⟨fun k h => (by cases h), kI, i2, cz, i3⟩, i1⟩
    · cases hq
      exact ⟨fun n z => ⟨fun k h => (by cases h), kA, s3, cS, s4⟩, kA, cS, s3, s4, s1, s5⟩
    · cases hq
      exact ⟨fun n z => ⟨fun k h => (by cases h), kG, g3, cJ, g4⟩, g5⟩
end STR
