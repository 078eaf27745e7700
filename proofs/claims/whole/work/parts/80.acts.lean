theorem LW.to {k n : Nat} {Ls : Nat → Ln} {h g : pm_Hp} (hk : k < 2) (e : g 170 = h 170) (c : ∀ a, 18 ≤ a → a ≤ 30 → a ≠ 24 → g a = h a) (L : LW k n Ls h) : LW k n Ls g := L.rg hk (fun j _ _ => by rw [e]) (by rw [e]) (by rw [c _ (by omega) (by omega) (by omega)]) (fun j hj => c _ (by omega) (by omega) (by omega))
theorem Pl.to {T R : Nat} {h g : pm_Hp} (e : g 170 = h 170) (c : ∀ a, a = 1 ∨ (3 ≤ a ∧ a ≤ 13) ∨ a = 15 → g a = h a) (P : Pl T R h) : Pl T R g := P.eq e (c 1 (by omega)) (c 15 (by omega)) (fun f hf h9 => by
  have := ta_in f hf h9
  simp only [List.mem_cons, List.not_mem_nil, or_false] at this
  exact c _ (by omega))
theorem minE (a b : Int32) : (if b < a then b else a) = if a < b then a else b := by
  by_cases h1 : a < b
  · rw [if_pos h1, if_neg (fun h2 => Int32.lt_irrefl (Int32.lt_trans h1 h2))]
  · rw [if_neg h1]
    by_cases h2 : b < a
    · rw [if_pos h2]
    · rw [if_neg h2]
      exact Int32.le_antisymm (Int32.not_lt.mp h2) (Int32.not_lt.mp h1)
theorem maxE (a b : Int32) : (if a < b then b else a) = if a ≤ b then b else a := by
  by_cases h1 : a < b
  · rw [if_pos h1, if_pos (Int32.le_of_lt h1)]
  · rw [if_neg h1]
    by_cases h2 : a ≤ b
    · rw [if_pos h2]; exact Int32.le_antisymm h2 (Int32.not_lt.mp h1)
    · rw [if_neg h2]
theorem QW.up0 {u : Nat → Int32} {f0 : Nat} {v : Int32} (hf : f0 = 5 ∨ f0 = 6 ∨ f0 = 7) (Q : QW u) : QW (ur f0 v u) := Q.up (by omega) (fun e => by omega) (fun e => by omega) (fun e => by omega) (fun e => by omega) (fun e => by omega)
theorem q_care {d T R A n0 n1 q N M c nx : Nat} {L0 L1 : Nat → Ln} {h : pm_Hp} (hd : 11 ≤ d) (F : FS T R A n0 n1 q N M L0 L1 h) (Z : KR T R A c nx h) (I : IM h) (v1 v2 : Int32) : MU d 122 238 [.int v1, .int v2] h := by
  obtain ⟨d, rfl, -⟩ := dpos hd
  have P := F.1.1
  have hT := P.1
  by_cases g1 : isT T v1
  · obtain ⟨t, ht, rfl⟩ := isT_ex (by omega) g1
    have W := F.1.2.1 t ht
    by_cases ga : aw h t
    · refine MU.no (r := 0) ?_ ?_
      · rw [e_X9_care, c_isThing (by omega) P.2.2.2.1, pm_bd_s, b2_t g1, if_neg (by decide), c_isAway (by omega) P ht, pm_bd_s, b2_t ga, if_neg (by decide)]
      · rw [e_X10_care, m_isThing (by omega) P.2.2.1 hT, pm_bd_s, b2_t g1, if_neg (by decide), m_isOut (by omega) P ht, pm_bd_s, b2_t ga, if_neg (by decide)]
    · have Z' := Z
      obtain ⟨hc6, hn, z1, z2, z3, -⟩ := Z
      obtain ⟨k, hk, ek, ek2⟩ := F.bk
      obtain ⟨h1, a1, C⟩ := c_startAct (d := d) (h := h) (by omega) hc6 hn z1 z2
      obtain ⟨c1, c2⟩ := C12 C hn
      by_cases hv : v2 = 0
      · obtain ⟨h2, a2, WC⟩ := c_write (d := d) (k := k) (h := pm_up h1 3 t 0) (by omega) (by rw [pm_up_k (by omega), c1 2 (by omega)]; exact ek2) hk (nI t) (nI 3)
        have e170 : h2 170 = h 170 := by rw [WC.1 170 (by omega) (by omega), pm_up_n (by omega), c2 170 (by omega) (by omega)]
        obtain ⟨h3, b1, MK⟩ := m_keeps (d := d) (c := c) (by omega) hc6 h2 (by rw [WC.1 169 (by omega) (by omega), pm_up_k (by omega), c2 169 (by omega) (by omega)]; exact z3)
        have w170 : h3 170 = h 170 := by rw [MK.1 170 (by omega) (by omega), e170]
        obtain ⟨h4, b2', WM⟩ := m_notes (d := d) (k := k) (h := pm_up h3 170 (4 + 20 * t + 2) 0) (by omega) (by rw [pm_up_j (by omega), w170]; exact ek) hk (nI t) (nI 3)
        have Pg := P.m.eq e170
        have act := ACT (hc := pm_up h1 3 t 0) (hm := h2) (hw := pm_up h3 170 (4 + 20 * t + 2) 0) (u := ur 2 0 (wq h t)) (p := h 170 1) F Z' I ht C (fun a y1 y2 y3 => by rw [pm_up_n (by omega)]) (by rw [pm_up_k (by omega), c1 2 (by omega)]; exact F.1.2.2.1.2.1) (fun j _ => by rw [pm_up_k (by omega)]) (((CW.rf P ht).o (fun a y1 y2 => c1 a (by omega))).up9 (g := 2) (by omega) rfl) hk WC eqi.rf MK (fun a y1 _ _ => by rw [pm_up_n y1]) (by rw [pm_up_j (by omega), w170]) (fun j y1 y2 => by rw [pm_up_j (by omega)]) ((RW.rf.to (fun j _ _ => by rw [w170])).up (by omega)) WM (ur_n (by omega)) (MV.same P ht (ur_n (by omega)) (ur_n (by omega))) ((QW.of W).up (by omega) (fun e => absurd e (by decide)) (fun _ => nb0 _) (fun e => absurd e (by decide)) (fun e => absurd e (by decide)) (fun e => absurd e (by decide))) (fun e => by
          rw [ur_n (by omega)] at e
          rw [ur_n (by omega), ur_n (by omega)]
          exact F.1.2.2.2.2 t ht e)
        refine ⟨1, h2, h4, ?_, ?_, act.1, Or.inr act.2⟩
        · rw [e_X9_care, c_isThing (by omega) P.2.2.2.1, pm_bd_s, b2_t g1, if_neg (by decide), c_isAway (by omega) P ht, pm_bd_s, b2_f ga, if_pos rfl, if_pos hv, a1, pm_bd_s, if_pos hv, pm_at_c (by omega) (by omega), a2, pm_bd_s]
        · rw [e_X10_care, m_isThing (by omega) Pg.2.2.1 hT, pm_bd_s, b2_t g1, if_neg (by decide), n_isOut (by omega) Pg ht, pm_bd_s, b2_f (by rw [aw_eq e170]; exact ga), if_pos rfl, if_pos hv, b1, pm_bd_s, if_pos hv, m_things (by omega) _ (nI t) (nI 2) 0 t 2 rfl rfl (by omega) (by omega), pm_bd_s, if_pos hv, b2', pm_bd_s]
      · by_cases g3 : wq h t 3 = 0
        · refine MU.no (r := 0) ?_ ?_
          · rw [e_X9_care, c_isThing (by omega) P.2.2.2.1, pm_bd_s, b2_t g1, if_neg (by decide), c_isAway (by omega) P ht, pm_bd_s, b2_f ga, if_pos rfl, if_neg hv, pm_at_c (by omega) (by omega), show h 4 t = wq h t 3 from P.2.2.2.2.2.2.1 t 3 ht (by omega) (by omega), if_pos g3]
          · rw [e_X10_care, m_isThing (by omega) P.2.2.1 hT, pm_bd_s, b2_t g1, if_neg (by decide), m_isOut (by omega) P ht, pm_bd_s, b2_f ga, if_pos rfl, if_neg hv, m_of0 (by omega) h (nI t) (nI 3) t 3 rfl rfl (by omega) (by omega), pm_bd_s, if_pos g3]
        · have r3 : h 4 t = wq h t 3 := P.2.2.2.2.2.2.1 t 3 ht (by omega) (by omega)
          have r3' : h1 4 t = wq h t 3 := by rw [c1 4 (by omega)]; exact r3
          have h170 : h1 170 = h 170 := c2 170 (by omega) (by omega)
          obtain ⟨hp, a3, ep⟩ := c_mendPrice (d := d) (n := n0) (Ls := L0) (h := h1) (by omega) (P.to h170 (fun a ha => c1 a (by omega))) (F.2.2.1.to (by omega) h170 (fun a y1 y2 _ => c1 a (by omega))) ht (wq h t 3)
          rw [h170] at a3
          have ep' : ∀ a, a ≠ 24 → a ≠ 37 → hp a = h1 a := fun a y1 y2 => ep a (by simp; omega)
          generalize hpr : tlw (fct (h 170) t 0 0 0 0 (wq h t 3)) L0 1 (nI 5) (nI 9999) 0 n0 = pr at a3
          have p2 : hp 2 = h 2 := by rw [ep' 2 (by omega) (by omega), c1 2 (by omega)]
          have p4 : hp 4 t = wq h t 3 := by rw [ep' 4 (by omega) (by omega)]; exact r3'
          obtain ⟨h2, a2, WC⟩ := c_write (d := d) (k := k) (h := pm_up (pm_up hp 2 8 (h 170 1 - pr)) 4 t (wq h t 3 - 1)) (by omega) (by rw [pm_up_k (by omega), pm_up_j (by omega), p2]; exact ek2) hk (nI t) (nI 4)
          have e170 : h2 170 = h 170 := by rw [WC.1 170 (by omega) (by omega), pm_up_n (by omega), pm_up_n (by omega), ep' 170 (by omega) (by omega), h170]
          have elw : ∀ a, 18 ≤ a → a ≤ 30 → a ≠ 24 → h2 a = h a := fun a y1 y2 y3 => by rw [WC.1 a (by omega) (by omega), pm_up_n (by omega), pm_up_n (by omega), ep' a y3 (by omega), c1 a (by omega)]
          obtain ⟨h3, b1, MK⟩ := m_keeps (d := d) (c := c) (by omega) hc6 h2 (by rw [WC.1 169 (by omega) (by omega), pm_up_k (by omega), pm_up_k (by omega), ep' 169 (by omega) (by omega), c2 169 (by omega) (by omega)]; exact z3)
          have w170 : h3 170 = h 170 := by rw [MK.1 170 (by omega) (by omega), e170]
          obtain ⟨x1, b3, x2, x3⟩ := m_lays (d := d) (t := t) (h := h3) (by omega) (by omega) 0
          have x170 : x1 170 = h 170 := by rw [x2 170 (by decide), w170]
          obtain ⟨y1, b4, y2⟩ := m_says (d := d) (k := 0) (w := 1) (h := x1) (n := n0) (Ls := L0) (by omega) (by omega) (by omega) (F.2.2.1.to (by omega) x170 (fun a q1 q2 q3 => by rw [x2 a (by simp; omega), MK.1 a (by omega) (by omega), elw a q1 q2 q3])) x3 (nI 5) (nI 9999)
          rw [w170, wq_eq w170, hpr] at b4
          have b4 : pm_ev d 211 [.ref 169, .int 0, .int (nI 21), .int (nI 5), .int (nI 9999)] x1 = some (pr, y1) := b4
          have y170 : y1 170 = h 170 := by rw [y2 170 (by decide), x170]
          have y3 : ∀ a, a ≠ 178 → a ≠ 179 → y1 a = h3 a := fun a q1 q2 => by rw [y2 a (by simp; omega), x2 a (by simp; omega)]
          obtain ⟨h4, b2', WM⟩ := m_notes (d := d) (k := k) (h := pm_up (pm_up y1 170 1 (h 170 1 - pr)) 170 (4 + 20 * t + 3) (wq h t 3 - 1)) (by omega) (by rw [pm_up_j (by omega), pm_up_j (by omega), y170]; exact ek) hk (nI t) (nI 4)
          have Pg := P.m.eq e170
          obtain ⟨j3, hj3, ej3⟩ := W.2.2.2.1
          have j0 : j3 ≠ 0 := fun e => g3 (by rw [ej3, e]; rfl)
          have act := ACT (hc := pm_up (pm_up hp 2 8 (h 170 1 - pr)) 4 t (wq h t 3 - 1)) (hm := h2) (hw := pm_up (pm_up y1 170 1 (h 170 1 - pr)) 170 (4 + 20 * t + 3) (wq h t 3 - 1)) (u := ur 3 (wq h t 3 - 1) (wq h t)) (p := h 170 1 - pr) F Z' I ht C (fun a q1 q2 q3 => by rw [pm_up_n (by omega), pm_up_n (by omega), ep' a q2 q3]) (by rw [pm_up_k (by omega), pm_up_s]) (fun j hj => by rw [pm_up_k (by omega), pm_up_j hj, ep' 2 (by omega) (by omega)]) (((CW.rf P ht).o (fun a q1 q2 => by rw [pm_up_n (by omega), ep' a (by omega) (by omega), c1 a (by omega)])).up9 (g := 3) (by omega) rfl) hk WC eqi.rf MK (fun a q1 q2 q3 => by rw [pm_up_n q1, pm_up_n q1, y3 a q2 q3]) (by rw [pm_up_j (by omega), pm_up_s]) (fun j q1 q2 => by rw [pm_up_j (by omega), pm_up_j q2, y3 170 (by omega) (by omega)]) ((RW.rf.to (fun j q1 q2 => by rw [pm_up_j (by omega), y170])).up (by omega)) WM (ur_n (by omega)) (MV.same P ht (ur_n (by omega)) (ur_n (by omega))) ((QW.of W).up (by omega) (fun e => absurd e (by decide)) (fun e => absurd e (by decide)) (fun _ => ⟨j3 - 1, by omega, by rw [ej3, show (1 : Int32) = nI 1 from rfl, pk_sub (by omega)]⟩) (fun e => absurd e (by decide)) (fun e => absurd e (by decide))) (fun e => by
            rw [ur_n (by omega)] at e
            rw [ur_n (by omega), ur_n (by omega)]
            exact F.1.2.2.2.2 t ht e)
          refine ⟨1, h2, h4, ?_, ?_, act.1, Or.inr act.2⟩
          · rw [e_X9_care, c_isThing (by omega) P.2.2.2.1, pm_bd_s, b2_t g1, if_neg (by decide), c_isAway (by omega) P ht, pm_bd_s, b2_f ga, if_pos rfl, if_neg hv, pm_at_c (by omega) (by omega), r3, if_neg g3, a1, pm_bd_s, if_neg hv, pm_at_c (by omega) (by omega), r3', a3, pm_bd_s, pm_at_c (by omega) (by omega), pm_at_c (by omega) (by omega), p4, show h1 2 8 = h 170 1 by rw [c1 2 (by omega)]; exact F.1.2.2.1.2.1, a2, pm_bd_s]
          · rw [e_X10_care, m_isThing (by omega) Pg.2.2.1 hT, pm_bd_s, b2_t g1, if_neg (by decide), n_isOut (by omega) Pg ht, pm_bd_s, b2_f (by rw [aw_eq e170]; exact ga), if_pos rfl, if_neg hv, m_of0 (by omega) h2 (nI t) (nI 3) t 3 rfl rfl (by omega) (by omega), pm_bd_s, wq_eq e170, if_neg g3, b1, pm_bd_s, if_neg hv, b3, pm_bd_s, b4, pm_bd_s, x170, m_of0 (by omega) _ (nI t) (nI 3) t 3 rfl rfl (by omega) (by omega), pm_bd_s, show wq (pm_up y1 170 1 (h 170 1 - pr)) t 3 = wq h t 3 by rw [show wq (pm_up y1 170 1 (h 170 1 - pr)) t 3 = wq y1 t 3 from pm_up_j (by omega), wq_eq y170], m_things (by omega) _ (nI t) (nI 3) _ t 3 rfl rfl (by omega) (by omega), pm_bd_s, if_neg hv, b2', pm_bd_s]
  · refine MU.no (r := 0) ?_ ?_
    · rw [e_X9_care, c_isThing (by omega) P.2.2.2.1, pm_bd_s, b2_f g1, if_pos rfl]
    · rw [e_X10_care, m_isThing (by omega) P.2.2.1 hT, pm_bd_s, b2_f g1, if_pos rfl]
theorem q_hire {d T R A n0 n1 q N M c nx : Nat} {L0 L1 : Nat → Ln} {h : pm_Hp} (hd : 11 ≤ d) (F : FS T R A n0 n1 q N M L0 L1 h) (Z : KR T R A c nx h) (I : IM h) (v1 v2 v3 : Int32) : MU d 123 239 [.int v1, .int v2, .int v3] h := by
  obtain ⟨d, rfl, -⟩ := dpos hd
  have P := F.1.1
  have hT := P.1
  by_cases g1 : isT T v1
  · obtain ⟨t, ht, rfl⟩ := isT_ex (by omega) g1
    have W := F.1.2.1 t ht
    by_cases ga : aw h t
    · refine MU.no (r := -1) ?_ ?_
      · rw [e_X9_hire, c_isThing (by omega) P.2.2.2.1, pm_bd_s, b2_t g1, if_neg (by decide), c_isAway (by omega) P ht, pm_bd_s, b2_t ga, if_neg (by decide)]
      · rw [e_X10_hire, m_isThing (by omega) P.2.2.1 hT, pm_bd_s, b2_t g1, if_neg (by decide), m_isOut (by omega) P ht, pm_bd_s, b2_t ga, if_neg (by decide)]
    · by_cases g2 : ¬ v2 < 1 ∧ v2 ≤ nI 99
      · by_cases g3 : ¬ v3 < 0 ∧ v3 ≤ nI 9999
        · have Z' := Z
          obtain ⟨hc6, hn, z1, z2, z3, -⟩ := Z
          obtain ⟨k, hk, ek, ek2⟩ := F.bk
          obtain ⟨s1, s2, s3, s4, s5, s6⟩ := F.1.2.2.1
          obtain ⟨h1, a1, C⟩ := c_startAct (d := d) (h := h) (by omega) hc6 hn z1 z2
          obtain ⟨c1, c2⟩ := C12 C hn
          have h12 : h1 2 = h 2 := c1 2 (by omega)
          obtain ⟨h2, a2, WC⟩ := c_write (d := d) (k := k) (h := pm_up (pm_up (pm_up (pm_up (pm_up h1 6 t (nI 100)) 7 t (-1)) 8 t (h 170 0 + v2)) 9 t v3) 2 8 (h 170 1 + v3)) (by omega) (by rw [pm_up_j (by omega), pm_up_k (by omega), pm_up_k (by omega), pm_up_k (by omega), pm_up_k (by omega), h12]; exact ek2) hk (nI t) (nI 5)
          have e170 : h2 170 = h 170 := by rw [WC.1 170 (by omega) (by omega), pm_up_n (by omega), pm_up_n (by omega), pm_up_n (by omega), pm_up_n (by omega), pm_up_n (by omega), c2 170 (by omega) (by omega)]
          obtain ⟨h3, b1, MK⟩ := m_keeps (d := d) (c := c) (by omega) hc6 h2 (by rw [WC.1 169 (by omega) (by omega), pm_up_k (by omega), pm_up_k (by omega), pm_up_k (by omega), pm_up_k (by omega), pm_up_k (by omega), c2 169 (by omega) (by omega)]; exact z3)
          have w170 : h3 170 = h 170 := by rw [MK.1 170 (by omega) (by omega), e170]
          obtain ⟨h4, b2', WM⟩ := m_notes (d := d) (k := k) (h := pm_up (pm_up (pm_up (pm_up (pm_up h3 170 (4 + 20 * t + 5) (nI 100)) 170 (4 + 20 * t + 6) (-1)) 170 (4 + 20 * t + 7) (h 170 0 + v2)) 170 (4 + 20 * t + 8) v3) 170 1 (h 170 1 + v3)) (by omega) (by rw [pm_up_j (by omega), pm_up_j (by omega), pm_up_j (by omega), pm_up_j (by omega), pm_up_j (by omega), w170]; exact ek) hk (nI t) (nI 5)
          have Pg := P.m.eq e170
          have cw : CW t (ur 8 v3 (ur 7 (h 170 0 + v2) (ur 6 (-1) (ur 5 (nI 100) (wq h t))))) h (pm_up (pm_up (pm_up (pm_up (pm_up h1 6 t (nI 100)) 7 t (-1)) 8 t (h 170 0 + v2)) 9 t v3) 2 8 (h 170 1 + v3)) := (((((CW.rf P ht).o (fun a y1 y2 => c1 a (by omega))).up9 (g := 5) (by omega) rfl).up9 (g := 6) (by omega) rfl).up9 (g := 7) (by omega) rfl |>.up9 (g := 8) (by omega) rfl).o (fun a y1 y2 => pm_up_n (by omega))
          have act := ACT (hc := pm_up (pm_up (pm_up (pm_up (pm_up h1 6 t (nI 100)) 7 t (-1)) 8 t (h 170 0 + v2)) 9 t v3) 2 8 (h 170 1 + v3)) (hm := h2) (hw := pm_up (pm_up (pm_up (pm_up (pm_up h3 170 (4 + 20 * t + 5) (nI 100)) 170 (4 + 20 * t + 6) (-1)) 170 (4 + 20 * t + 7) (h 170 0 + v2)) 170 (4 + 20 * t + 8) v3) 170 1 (h 170 1 + v3)) (p := h 170 1 + v3) F Z' I ht C (fun a y1 y2 y3 => by rw [pm_up_n (by omega), pm_up_n (by omega), pm_up_n (by omega), pm_up_n (by omega), pm_up_n (by omega)]) pm_up_s (fun j hj => by rw [pm_up_j hj, pm_up_k (by omega), pm_up_k (by omega), pm_up_k (by omega), pm_up_k (by omega)]) cw hk WC eqi.rf MK (fun a y1 _ _ => by rw [pm_up_n y1, pm_up_n y1, pm_up_n y1, pm_up_n y1, pm_up_n y1]) pm_up_s (fun j y1 y2 => by rw [pm_up_j y2, pm_up_j (by omega), pm_up_j (by omega), pm_up_j (by omega), pm_up_j (by omega)]) ((((((RW.rf.to (fun j _ _ => by rw [w170])).up (by omega)).up (by omega)).up (by omega)).up (by omega)).to (fun j y1 y2 => pm_up_j (by omega))) WM (by rw [ur_n (by omega), ur_n (by omega), ur_n (by omega), ur_n (by omega)]) (MV.none P ht (by rw [ur_n (by omega), ur_n (by omega), ur_n (by omega), ur_n (by omega)]) (Or.inr (Or.inr (by rw [ur_n (by omega), ur_n (by omega), ur_n (by omega), ur_s])))) (((((QW.of W).up0 (by omega)).up0 (by omega)).up0 (by omega)).up (by omega) (fun e => absurd e (by decide)) (fun e => absurd e (by decide)) (fun e => absurd e (by decide)) (fun e => absurd e (by decide)) (fun _ => kd_ex (by omega) g3)) (fun e => absurd (by rw [ur_n (by omega), ur_n (by omega), ur_n (by omega), ur_s]) e)
          have d8 : h2 8 t = h 170 0 + v2 := by rw [WC.1 8 (by omega) (by omega), pm_up_k (by omega), pm_up_k (by omega), pm_up_s]
          refine ⟨h 170 0 + v2, h2, h4, ?_, ?_, act.1, Or.inr act.2⟩
          · rw [e_X9_hire, c_isThing (by omega) P.2.2.2.1, pm_bd_s, b2_t g1, if_neg (by decide), c_isAway (by omega) P ht, pm_bd_s, b2_f ga, if_pos rfl, if_neg g2.1, if_pos g2.2, if_neg g3.1, if_pos g3.2, a1, pm_bd_s, pm_at_c (by omega) (by omega), pm_at_c (by omega) (by omega), pm_at_c (by omega) (by omega), pm_at_c (by omega) (by omega), show h1 2 9 = h 170 0 by rw [h12, s1], show h1 2 8 = h 170 1 by rw [h12, s2], a2, pm_bd_s, pm_at_c (by omega) (by omega), d8]
          · rw [e_X10_hire, m_isThing (by omega) Pg.2.2.1 hT, pm_bd_s, b2_t g1, if_neg (by decide), n_isOut (by omega) Pg ht, pm_bd_s, b2_f (by rw [aw_eq e170]; exact ga), if_pos rfl, m_isIn (by omega), pm_bd_s, b2_t g2, if_neg (by decide), m_isIn (by omega), pm_bd_s, b2_t g3, if_neg (by decide), b1, pm_bd_s, m_things (by omega) _ (nI t) (nI 5) _ t 5 rfl rfl (by omega) (by omega), pm_bd_s, m_things (by omega) _ (nI t) (nI 6) _ t 6 rfl rfl (by omega) (by omega), pm_bd_s, pm_up_j (by omega), pm_up_j (by omega), w170, m_things (by omega) _ (nI t) (nI 7) _ t 7 rfl rfl (by omega) (by omega), pm_bd_s, m_things (by omega) _ (nI t) (nI 8) _ t 8 rfl rfl (by omega) (by omega), pm_bd_s, pm_up_j (by omega), pm_up_j (by omega), pm_up_j (by omega), pm_up_j (by omega), w170, b2', pm_bd_s, WM.2.1 0 (by omega) (by omega), pm_up_j (by omega), pm_up_j (by omega), pm_up_j (by omega), pm_up_j (by omega), pm_up_j (by omega), w170]
        · refine MU.no (r := -1) ?_ ?_
          · rw [e_X9_hire, c_isThing (by omega) P.2.2.2.1, pm_bd_s, b2_t g1, if_neg (by decide), c_isAway (by omega) P ht, pm_bd_s, b2_f ga, if_pos rfl, if_neg g2.1, if_pos g2.2]
            by_cases a : v3 < 0
            · rw [if_pos a]
            · rw [if_neg a, if_neg (fun b => g3 ⟨a, b⟩)]
          · rw [e_X10_hire, m_isThing (by omega) P.2.2.1 hT, pm_bd_s, b2_t g1, if_neg (by decide), m_isOut (by omega) P ht, pm_bd_s, b2_f ga, if_pos rfl, m_isIn (by omega), pm_bd_s, b2_t g2, if_neg (by decide), m_isIn (by omega), pm_bd_s, b2_f g3, if_pos rfl]
      · refine MU.no (r := -1) ?_ ?_
        · rw [e_X9_hire, c_isThing (by omega) P.2.2.2.1, pm_bd_s, b2_t g1, if_neg (by decide), c_isAway (by omega) P ht, pm_bd_s, b2_f ga, if_pos rfl]
          by_cases a : v2 < 1
          · rw [if_pos a]
          · rw [if_neg a, if_neg (fun b => g2 ⟨a, b⟩)]
        · rw [e_X10_hire, m_isThing (by omega) P.2.2.1 hT, pm_bd_s, b2_t g1, if_neg (by decide), m_isOut (by omega) P ht, pm_bd_s, b2_f ga, if_pos rfl, m_isIn (by omega), pm_bd_s, b2_f g2, if_pos rfl]
  · refine MU.no (r := -1) ?_ ?_
    · rw [e_X9_hire, c_isThing (by omega) P.2.2.2.1, pm_bd_s, b2_f g1, if_pos rfl]
    · rw [e_X10_hire, m_isThing (by omega) P.2.2.1 hT, pm_bd_s, b2_f g1, if_pos rfl]
