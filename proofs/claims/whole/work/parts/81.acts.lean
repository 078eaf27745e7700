theorem q_back {d T R A n0 n1 q N M c nx : Nat} {L0 L1 : Nat → Ln} {h : pm_Hp} (hd : 11 ≤ d) (F : FS T R A n0 n1 q N M L0 L1 h) (Z : KR T R A c nx h) (I : IM h) (v1 v2 : Int32) : MU d 124 240 [.int v1, .int v2] h := by
  obtain ⟨d, rfl, -⟩ := dpos hd
  have P := F.1.1
  have hT := P.1
  by_cases g1 : isT T v1
  · obtain ⟨t, ht, rfl⟩ := isT_ex (by omega) g1
    have W := F.1.2.1 t ht
    by_cases g5 : wq h t 5 = nI 100
    · by_cases g2 : ¬ v2 < 0 ∧ v2 ≤ nI 9
      · have Z' := Z
        obtain ⟨hc6, hn, z1, z2, z3, -⟩ := Z
        obtain ⟨k, hk, ek, ek2⟩ := F.bk
        obtain ⟨s1, s2, s3, s4, s5, s6⟩ := F.1.2.2.1
        obtain ⟨h1, a1, C⟩ := c_startAct (d := d) (h := h) (by omega) hc6 hn z1 z2
        obtain ⟨c1, c2⟩ := C12 C hn
        have h12 : h1 2 = h 2 := c1 2 (by omega)
        have r7 : h1 8 t = wq h t 7 := by rw [c1 8 (by omega)]; exact P.2.2.2.2.2.2.1 t 7 ht (by omega) (by omega)
        have r8 : h1 9 t = wq h t 8 := by rw [c1 9 (by omega)]; exact P.2.2.2.2.2.2.1 t 8 ht (by omega) (by omega)
        have r3 : h1 4 t = wq h t 3 := by rw [c1 4 (by omega)]; exact P.2.2.2.2.2.2.1 t 3 ht (by omega) (by omega)
        generalize hlate : (if (0 : Int32) ≤ h 170 0 - wq h t 7 then h 170 0 - wq h t 7 else 0) = late
        generalize hst : (if wq h t 8 < nI 10 * v2 + nI 5 * late then wq h t 8 else nI 10 * v2 + nI 5 * late) = stays
        generalize htr : (if nI 9 < wq h t 3 + v2 then nI 9 else wq h t 3 + v2) = tr
        have ntr : nb tr 9 := by
          obtain ⟨j, hj, ej⟩ := W.2.2.2.1
          obtain ⟨m, hm, em⟩ := kd_ex (n := 9) (by omega) g2
          rw [← htr, ej, em, nI_add, ltn_ite (by omega) (by omega)]
          by_cases e : 9 < j + m
          · rw [if_pos e]; exact ⟨9, by omega, rfl⟩
          · rw [if_neg e]; exact ⟨j + m, by omega, rfl⟩
        obtain ⟨h2, a2, WC⟩ := c_write (d := d) (k := k) (h := pm_up (pm_up (pm_up (pm_up (pm_up (pm_up h1 4 t tr) 2 8 (h 170 1 - (wq h t 8 - stays))) 6 t (-1)) 7 t (-1)) 8 t (-1)) 9 t 0) (by omega) (by rw [pm_up_k (by omega), pm_up_k (by omega), pm_up_k (by omega), pm_up_k (by omega), pm_up_j (by omega), pm_up_k (by omega), h12]; exact ek2) hk (nI t) (nI 6)
        have e170 : h2 170 = h 170 := by rw [WC.1 170 (by omega) (by omega), pm_up_n (by omega), pm_up_n (by omega), pm_up_n (by omega), pm_up_n (by omega), pm_up_n (by omega), pm_up_n (by omega), c2 170 (by omega) (by omega)]
        obtain ⟨h3, b1, MK⟩ := m_keeps (d := d) (c := c) (by omega) hc6 h2 (by rw [WC.1 169 (by omega) (by omega), pm_up_k (by omega), pm_up_k (by omega), pm_up_k (by omega), pm_up_k (by omega), pm_up_k (by omega), pm_up_k (by omega), c2 169 (by omega) (by omega)]; exact z3)
        have w170 : h3 170 = h 170 := by rw [MK.1 170 (by omega) (by omega), e170]
        obtain ⟨h4, b2', WM⟩ := m_notes (d := d) (k := k) (h := pm_up (pm_up (pm_up (pm_up (pm_up (pm_up h3 170 (4 + 20 * t + 5) (-1)) 170 (4 + 20 * t + 6) (-1)) 170 (4 + 20 * t + 7) (-1)) 170 (4 + 20 * t + 8) 0) 170 (4 + 20 * t + 3) tr) 170 1 (h 170 1 - (wq h t 8 - stays))) (by omega) (by rw [pm_up_j (by omega), pm_up_j (by omega), pm_up_j (by omega), pm_up_j (by omega), pm_up_j (by omega), pm_up_j (by omega), w170]; exact ek) hk (nI t) (nI 6)
        have Pg := P.m.eq e170
        have cw : CW t (ur 8 0 (ur 7 (-1) (ur 6 (-1) (ur 5 (-1) (ur 3 tr (wq h t)))))) h (pm_up (pm_up (pm_up (pm_up (pm_up (pm_up h1 4 t tr) 2 8 (h 170 1 - (wq h t 8 - stays))) 6 t (-1)) 7 t (-1)) 8 t (-1)) 9 t 0) := ((((((CW.rf P ht).o (fun a y1 y2 => c1 a (by omega))).up9 (g := 3) (by omega) rfl).o (fun a y1 y2 => pm_up_n (by omega))).up9 (g := 5) (by omega) rfl).up9 (g := 6) (by omega) rfl |>.up9 (g := 7) (by omega) rfl).up9 (g := 8) (by omega) rfl
        have rw0 : RW t (ur 8 0 (ur 7 (-1) (ur 6 (-1) (ur 5 (-1) (ur 3 tr (wq h t)))))) h (pm_up (pm_up (pm_up (pm_up (pm_up (pm_up h3 170 (4 + 20 * t + 5) (-1)) 170 (4 + 20 * t + 6) (-1)) 170 (4 + 20 * t + 7) (-1)) 170 (4 + 20 * t + 8) 0) 170 (4 + 20 * t + 3) tr) 170 1 (h 170 1 - (wq h t 8 - stays))) := by
          refine RW.cg (fun f hf => ?_) (((((((RW.rf.to (fun j _ _ => by rw [w170])).up (g := 5) (v := -1) (by omega)).up (g := 6) (v := -1) (by omega)).up (g := 7) (v := -1) (by omega)).up (g := 8) (v := 0) (by omega)).up (g := 3) (v := tr) (by omega)).to (fun j y1 y2 => pm_up_j (by omega)))
          unfold ur
          by_cases e3 : f = 3
          · subst e3; rfl
          · simp only [if_neg e3]
        have act := ACT (hc := pm_up (pm_up (pm_up (pm_up (pm_up (pm_up h1 4 t tr) 2 8 (h 170 1 - (wq h t 8 - stays))) 6 t (-1)) 7 t (-1)) 8 t (-1)) 9 t 0) (hm := h2) (p := h 170 1 - (wq h t 8 - stays)) F Z' I ht C (fun a y1 y2 y3 => by rw [pm_up_n (by omega), pm_up_n (by omega), pm_up_n (by omega), pm_up_n (by omega), pm_up_n (by omega), pm_up_n (by omega)]) (by rw [pm_up_k (by omega), pm_up_k (by omega), pm_up_k (by omega), pm_up_k (by omega), pm_up_s]) (fun j hj => by rw [pm_up_k (by omega), pm_up_k (by omega), pm_up_k (by omega), pm_up_k (by omega), pm_up_j hj, pm_up_k (by omega)]) cw hk WC eqi.rf MK (fun a y1 _ _ => by rw [pm_up_n y1, pm_up_n y1, pm_up_n y1, pm_up_n y1, pm_up_n y1, pm_up_n y1]) pm_up_s (fun j y1 y2 => by rw [pm_up_j y2, pm_up_j (by omega), pm_up_j (by omega), pm_up_j (by omega), pm_up_j (by omega), pm_up_j (by omega)]) rw0 WM (by rw [ur_n (by omega), ur_n (by omega), ur_n (by omega), ur_n (by omega), ur_n (by omega)]) (MV.none P ht (by rw [ur_n (by omega), ur_n (by omega), ur_n (by omega), ur_n (by omega), ur_n (by omega)]) (Or.inl (by rw [ur_n (by omega), ur_n (by omega), ur_n (by omega), ur_s]))) ((((((QW.of W).up (by omega) (fun e => absurd e (by decide)) (fun e => absurd e (by decide)) (fun _ => ntr) (fun e => absurd e (by decide)) (fun e => absurd e (by decide))).up0 (by omega)).up0 (by omega)).up0 (by omega)).up (by omega) (fun e => absurd e (by decide)) (fun e => absurd e (by decide)) (fun e => absurd e (by decide)) (fun e => absurd e (by decide)) (fun _ => nb0 _)) (fun _ => by rw [ur_n (by omega), ur_s, ur_s]; exact ⟨rfl, rfl⟩)
        refine ⟨wq h t 8 - stays, h2, h4, ?_, ?_, act.1, Or.inr act.2⟩
        · rw [e_X9_back, c_isThing (by omega) P.2.2.2.1, pm_bd_s, b2_t g1, if_neg (by decide), pm_at_c (by omega) (by omega), P.r5 ht, if_pos g5, if_neg g2.1, if_pos g2.2, a1, pm_bd_s, pm_at_c (by omega) (by omega), r7, show h1 2 9 = h 170 0 by rw [h12, s1], e_max (by omega), maxE, hlate, pm_bd_s, pm_at_c (by omega) (by omega), r8, e_min (by omega), minE, hst, pm_bd_s, pm_at_c (by omega) (by omega), pm_at_c (by omega) (by omega), r3, e_min (by omega), minE, htr, pm_bd_s, pm_at_c (by omega) (by omega), r8, show h1 2 8 = h 170 1 by rw [h12, s2], c_moveAside (by omega) (by omega), pm_bd_s, a2, pm_bd_s]
        · rw [e_X10_back, m_isThing (by omega) Pg.2.2.1 hT, pm_bd_s, b2_t g1, if_neg (by decide), m_isOutItself (by omega) (by omega), pm_bd_s, b2_t (by rw [wq_eq e170]; exact g5), if_neg (by decide), m_isIn (by omega), pm_bd_s, b2_t g2, if_neg (by decide), b1, pm_bd_s, m_of0 (by omega) h3 (nI t) (nI 8) t 8 rfl rfl (by omega) (by omega), pm_bd_s, m_of0 (by omega) h3 (nI t) (nI 7) t 7 rfl rfl (by omega) (by omega), pm_bd_s, wq_eq w170, wq_eq w170, w170, m_greater (by omega), hlate, pm_bd_s, m_lesser (by omega), hst, pm_bd_s, m_of0 (by omega) h3 (nI t) (nI 8) t 8 rfl rfl (by omega) (by omega), pm_bd_s, wq_eq w170, n_laysDown (by omega) (by omega), pm_bd_s, m_things (by omega) _ (nI t) (nI 7) _ t 7 rfl rfl (by omega) (by omega), pm_bd_s, m_things (by omega) _ (nI t) (nI 8) _ t 8 rfl rfl (by omega) (by omega), pm_bd_s, m_of0 (by omega) _ (nI t) (nI 3) t 3 rfl rfl (by omega) (by omega), pm_bd_s, show wq (pm_up (pm_up (pm_up (pm_up h3 170 (4 + 20 * t + 5) (-1)) 170 (4 + 20 * t + 6) (-1)) 170 (4 + 20 * t + 7) (-1)) 170 (4 + 20 * t + 8) 0) t 3 = wq h t 3 by
            show pm_up (pm_up (pm_up (pm_up h3 170 (4 + 20 * t + 5) (-1)) 170 (4 + 20 * t + 6) (-1)) 170 (4 + 20 * t + 7) (-1)) 170 (4 + 20 * t + 8) 0 170 (4 + 20 * t + 3) = _
            rw [pm_up_j (by omega), pm_up_j (by omega), pm_up_j (by omega), pm_up_j (by omega), w170], m_lesser (by omega), htr, pm_bd_s, m_things (by omega) _ (nI t) (nI 3) _ t 3 rfl rfl (by omega) (by omega), pm_bd_s, show (pm_up (pm_up (pm_up (pm_up (pm_up h3 170 (4 + 20 * t + 5) (-1)) 170 (4 + 20 * t + 6) (-1)) 170 (4 + 20 * t + 7) (-1)) 170 (4 + 20 * t + 8) 0) 170 (4 + 20 * t + 3) tr) 170 1 = h 170 1 by rw [pm_up_j (by omega), pm_up_j (by omega), pm_up_j (by omega), pm_up_j (by omega), pm_up_j (by omega), w170], b2', pm_bd_s]
      · refine MU.no (r := -1) ?_ ?_
        · rw [e_X9_back, c_isThing (by omega) P.2.2.2.1, pm_bd_s, b2_t g1, if_neg (by decide), pm_at_c (by omega) (by omega), P.r5 ht, if_pos g5]
          by_cases a : v2 < 0
          · rw [if_pos a]
          · rw [if_neg a, if_neg (fun b => g2 ⟨a, b⟩)]
        · rw [e_X10_back, m_isThing (by omega) P.2.2.1 hT, pm_bd_s, b2_t g1, if_neg (by decide), m_isOutItself (by omega) (by omega), pm_bd_s, b2_t g5, if_neg (by decide), m_isIn (by omega), pm_bd_s, b2_f g2, if_pos rfl]
    · refine MU.no (r := -1) ?_ ?_
      · rw [e_X9_back, c_isThing (by omega) P.2.2.2.1, pm_bd_s, b2_t g1, if_neg (by decide), pm_at_c (by omega) (by omega), P.r5 ht, if_neg g5]
      · rw [e_X10_back, m_isThing (by omega) P.2.2.1 hT, pm_bd_s, b2_t g1, if_neg (by decide), m_isOutItself (by omega) (by omega), pm_bd_s, b2_f g5, if_pos rfl]
  · refine MU.no (r := -1) ?_ ?_
    · rw [e_X9_back, c_isThing (by omega) P.2.2.2.1, pm_bd_s, b2_f g1, if_pos rfl]
    · rw [e_X10_back, m_isThing (by omega) P.2.2.1 hT, pm_bd_s, b2_f g1, if_pos rfl]
def swn (x y : Int32) : Int32 := if x = 0 then x else if y = 0 then x else y
theorem c_sew_m {d t bs : Nat} {g : pm_Hp} {to : Nat → Int32} (hd : 1 ≤ d) (ht : t < 16) (hto : ∀ m, m < 5 → g 13 (bs + m) = to m) (hbs : bs + 5 ≤ 80) : ∃ g', pm_ev d 32 [.ref 1, .int (nI t), .ref 13, .int (nI bs)] g = some (0, g') ∧ (∀ a, a ≠ 10 → g' a = g a) ∧ ∀ j, g' 10 j = if t * 5 ≤ j ∧ j < t * 5 + 5 then swn (g 10 j) (to (j - t * 5)) else g 10 j := by
  obtain ⟨d, rfl, -⟩ := dpos hd
  rw [e_X1_sew_m]
  have key : ∀ (n i : Nat) (y : pm_Hp) (u5 u6 : Value), i + n = 5 → (∀ a, a ≠ 10 → y a = g a) → (∀ j, y 10 j = if t * 5 ≤ j ∧ j < t * 5 + i then swn (g 10 j) (to (j - t * 5)) else g 10 j) → ∃ g', pm_rn d kX1_sew 3 [.ref 1, .int (nI t), .ref 13, .int (nI bs), .int (nI i), u5, u6] [] y = some (0, g') ∧ (∀ a, a ≠ 10 → g' a = g a) ∧ ∀ j, g' 10 j = if t * 5 ≤ j ∧ j < t * 5 + 5 then swn (g 10 j) (to (j - t * 5)) else g 10 j := by
    intro n
    induction n with
    | zero =>
      intro i y u5 u6 hi y1 y2
      have hi : i = 5 := by omega
      subst hi
      rw [b_X1_sew_m_3, if_neg (nI_nlt (by omega) (by omega))]
      exact ⟨y, rfl, y1, y2⟩
    | succ n ih =>
      intro i y u5 u6 hi y1 y2
      have ta0 : y 13 (bs + i) = to i := by rw [y1 13 (by omega)]; exact hto i (by omega)
      have t10 : y 10 (t * 5 + i) = g 10 (t * 5 + i) := by rw [y2, if_neg (by omega)]
      have nx : ∀ v : Int32, v = swn (g 10 (t * 5 + i)) (to i) → ∀ j, pm_up y 10 (t * 5 + i) v 10 j = if t * 5 ≤ j ∧ j < t * 5 + (i + 1) then swn (g 10 j) (to (j - t * 5)) else g 10 j := fun v hv j => by
        by_cases e : j = t * 5 + i
        · rw [e, pm_up_s, if_pos (by omega), show t * 5 + i - t * 5 = i by omega]; exact hv
        · rw [pm_up_j e, y2]
          by_cases a : t * 5 ≤ j ∧ j < t * 5 + i
          · rw [if_pos a, if_pos (by omega)]
          · rw [if_neg a, if_neg (by omega)]
      have nx0 : swn (g 10 (t * 5 + i)) (to i) = g 10 (t * 5 + i) → ∀ j, y 10 j = if t * 5 ≤ j ∧ j < t * 5 + (i + 1) then swn (g 10 j) (to (j - t * 5)) else g 10 j := fun hv j => by
        rw [y2]
        by_cases e : j = t * 5 + i
        · rw [e, if_neg (by omega), if_pos (by omega), show t * 5 + i - t * 5 = i by omega, hv]
        · by_cases a : t * 5 ≤ j ∧ j < t * 5 + i
          · rw [if_pos a, if_pos (by omega)]
          · rw [if_neg a, if_neg (by omega)]
      rw [b_X1_sew_m_3, if_pos (nI_lt (by omega) (by omega)), pm_at_n (j := bs + i) (by rw [nI_add]) (by omega) (by omega), pm_at_n (j := t * 5 + i) (by rw [pk_mul, nI_add]) (by omega) (by omega), ta0, t10, nI_1]
      by_cases e1 : g 10 (t * 5 + i) = 0
      · rw [if_pos e1]
        exact ih (i + 1) y _ _ (by omega) y1 (nx0 (by unfold swn; rw [if_pos e1]))
      · rw [if_neg e1]
        by_cases e2 : to i = 0
        · rw [if_pos e2]
          exact ih (i + 1) y _ _ (by omega) y1 (nx0 (by unfold swn; rw [if_neg e1, if_pos e2]))
        · rw [if_neg e2, pm_at_n (j := t * 5 + i) (by rw [pk_mul, nI_add]) (by omega) (by omega)]
          exact ih (i + 1) _ _ _ (by omega) (fun a ha => by rw [pm_up_n ha]; exact y1 a ha) (nx _ (by unfold swn; rw [if_neg e1, if_neg e2]))
  exact key 5 0 g _ _ (by omega) (fun _ _ => rfl) (fun j => by rw [if_neg (by omega)])
theorem c_sew_b {d t bs : Nat} {g : pm_Hp} {to : Nat → Int32} (hd : 1 ≤ d) (ht : t < 16) (hto : ∀ m, m < 5 → g 14 (bs + m) = to m) (hbs : bs + 5 ≤ 30) : ∃ g', pm_ev d 32 [.ref 1, .int (nI t), .ref 14, .int (nI bs)] g = some (0, g') ∧ (∀ a, a ≠ 10 → g' a = g a) ∧ ∀ j, g' 10 j = if t * 5 ≤ j ∧ j < t * 5 + 5 then swn (g 10 j) (to (j - t * 5)) else g 10 j := by
  obtain ⟨d, rfl, -⟩ := dpos hd
  rw [e_X1_sew_b]
  have key : ∀ (n i : Nat) (y : pm_Hp) (u5 u6 : Value), i + n = 5 → (∀ a, a ≠ 10 → y a = g a) → (∀ j, y 10 j = if t * 5 ≤ j ∧ j < t * 5 + i then swn (g 10 j) (to (j - t * 5)) else g 10 j) → ∃ g', pm_rn d kX1_sew 3 [.ref 1, .int (nI t), .ref 14, .int (nI bs), .int (nI i), u5, u6] [] y = some (0, g') ∧ (∀ a, a ≠ 10 → g' a = g a) ∧ ∀ j, g' 10 j = if t * 5 ≤ j ∧ j < t * 5 + 5 then swn (g 10 j) (to (j - t * 5)) else g 10 j := by
    intro n
    induction n with
    | zero =>
      intro i y u5 u6 hi y1 y2
      have hi : i = 5 := by omega
      subst hi
      rw [b_X1_sew_b_3, if_neg (nI_nlt (by omega) (by omega))]
      exact ⟨y, rfl, y1, y2⟩
    | succ n ih =>
      intro i y u5 u6 hi y1 y2
      have ta0 : y 14 (bs + i) = to i := by rw [y1 14 (by omega)]; exact hto i (by omega)
      have t10 : y 10 (t * 5 + i) = g 10 (t * 5 + i) := by rw [y2, if_neg (by omega)]
      have nx : ∀ v : Int32, v = swn (g 10 (t * 5 + i)) (to i) → ∀ j, pm_up y 10 (t * 5 + i) v 10 j = if t * 5 ≤ j ∧ j < t * 5 + (i + 1) then swn (g 10 j) (to (j - t * 5)) else g 10 j := fun v hv j => by
        by_cases e : j = t * 5 + i
        · rw [e, pm_up_s, if_pos (by omega), show t * 5 + i - t * 5 = i by omega]; exact hv
        · rw [pm_up_j e, y2]
          by_cases a : t * 5 ≤ j ∧ j < t * 5 + i
          · rw [if_pos a, if_pos (by omega)]
          · rw [if_neg a, if_neg (by omega)]
      have nx0 : swn (g 10 (t * 5 + i)) (to i) = g 10 (t * 5 + i) → ∀ j, y 10 j = if t * 5 ≤ j ∧ j < t * 5 + (i + 1) then swn (g 10 j) (to (j - t * 5)) else g 10 j := fun hv j => by
        rw [y2]
        by_cases e : j = t * 5 + i
        · rw [e, if_neg (by omega), if_pos (by omega), show t * 5 + i - t * 5 = i by omega, hv]
        · by_cases a : t * 5 ≤ j ∧ j < t * 5 + i
          · rw [if_pos a, if_pos (by omega)]
          · rw [if_neg a, if_neg (by omega)]
      rw [b_X1_sew_b_3, if_pos (nI_lt (by omega) (by omega)), pm_at_n (j := bs + i) (by rw [nI_add]) (by omega) (by omega), pm_at_n (j := t * 5 + i) (by rw [pk_mul, nI_add]) (by omega) (by omega), ta0, t10, nI_1]
      by_cases e1 : g 10 (t * 5 + i) = 0
      · rw [if_pos e1]
        exact ih (i + 1) y _ _ (by omega) y1 (nx0 (by unfold swn; rw [if_pos e1]))
      · rw [if_neg e1]
        by_cases e2 : to i = 0
        · rw [if_pos e2]
          exact ih (i + 1) y _ _ (by omega) y1 (nx0 (by unfold swn; rw [if_neg e1, if_pos e2]))
        · rw [if_neg e2, pm_at_n (j := t * 5 + i) (by rw [pk_mul, nI_add]) (by omega) (by omega)]
          exact ih (i + 1) _ _ _ (by omega) (fun a ha => by rw [pm_up_n ha]; exact y1 a ha) (nx _ (by unfold swn; rw [if_neg e1, if_neg e2]))
  exact key 5 0 g _ _ (by omega) (fun _ _ => rfl) (fun j => by rw [if_neg (by omega)])
theorem m_sewL {d t : Nat} {g : pm_Hp} {a : Option Nat} {r : Int32} (hd : 2 ≤ d) (ht : t < 16) (ha : ∀ k, a = some k → k < 6) (hw : ∀ m, m < 5 → (wq g t (10 + m) = 0 ↔ wq g t (15 + m) = 0)) : ∃ g', pm_rn d kX10_alter 62 [.ref 169, .int (nI t), .int (o2 a), .int r, .int 0] [] g = (pm_bd (pm_ev d 230 [.ref 169, .int (nI t), .int (nI 2)] (pm_up g' 170 1 ((g' 170 1) - r))) fun _ y4 => some (r, y4)) ∧ (∀ b, b ≠ 170 → g' b = g b) ∧ (∀ j, (j < 4 + 20 * t + 15 ∨ 4 + 20 * t + 20 ≤ j) → g' 170 j = g 170 j) ∧ ∀ m, m < 5 → wq g' t (15 + m) = swn (wq g t (15 + m)) (too (g 170) t a m) := by
  have key : ∀ (n i : Nat) (y : pm_Hp), i + n = 5 → (∀ b, b ≠ 170 → y b = g b) → (∀ j, (j < 4 + 20 * t + 15 ∨ 4 + 20 * t + (15 + i) ≤ j) → y 170 j = g 170 j) → (∀ m, m < i → wq y t (15 + m) = swn (wq g t (15 + m)) (too (g 170) t a m)) → ∃ g', pm_rn d kX10_alter 62 [.ref 169, .int (nI t), .int (o2 a), .int r, .int (nI i)] [] y = (pm_bd (pm_ev d 230 [.ref 169, .int (nI t), .int (nI 2)] (pm_up g' 170 1 ((g' 170 1) - r))) fun _ y4 => some (r, y4)) ∧ (∀ b, b ≠ 170 → g' b = g b) ∧ (∀ j, (j < 4 + 20 * t + 15 ∨ 4 + 20 * t + 20 ≤ j) → g' 170 j = g 170 j) ∧ ∀ m, m < 5 → wq g' t (15 + m) = swn (wq g t (15 + m)) (too (g 170) t a m) := by
    intro n
    induction n with
    | zero =>
      intro i y hi y1 y2 y3
      have hi : i = 5 := by omega
      subst hi
      rw [b_X10_alter_62, if_neg (nI_nlt (by omega) (by omega))]
      exact ⟨y, rfl, y1, fun j hj => y2 j (by omega), y3⟩
    | succ n ih =>
      intro i y hi y1 y2 y3
      have q1 : wq y t (10 + i) = wq g t (10 + i) := y2 _ (by omega)
      have q2 : wq y t (15 + i) = wq g t (15 + i) := y2 _ (by omega)
      have q3 : too (y 170) t a i = too (g 170) t a i := by
        cases a with
        | none => exact y2 _ (by omega)
        | some k => exact y2 _ (by have := ha k rfl; omega)
      have go := m_goalOf (d := d) (t := t) (m := i) (h := y) (a := a) hd ht ha (by omega)
      rw [q1, q3] at go
      have hwi := hw i (by omega)
      rw [b_X10_alter_62, if_pos (nI_lt (by omega) (by omega)), go, pm_bd_s, nI_1]
      by_cases e1 : wq g t (10 + i) = 0
      · rw [if_pos e1, if_pos rfl]
        refine ih (i + 1) y (by omega) y1 (fun j hj => y2 j (by omega)) (fun m hm => ?_)
        by_cases e : m = i
        · rw [e, q2]; unfold swn; rw [if_pos (hwi.mp e1)]
        · exact y3 m (by omega)
      · rw [if_neg e1]
        by_cases e2 : too (g 170) t a i = 0
        · rw [if_pos e2]
          refine ih (i + 1) y (by omega) y1 (fun j hj => y2 j (by omega)) (fun m hm => ?_)
          by_cases e : m = i
          · rw [e, q2]; unfold swn; rw [if_neg (fun z => e1 (hwi.mpr z)), if_pos e2]
          · exact y3 m (by omega)
        · rw [if_neg e2, go, pm_bd_s, if_neg e1, m_things (by omega) y (nI t) (nI 15 + nI i) _ t (15 + i) rfl (by rw [nI_add]) ht (by omega), pm_bd_s]
          refine ih (i + 1) _ (by omega) (fun b hb => by rw [pm_up_n hb]; exact y1 b hb) (fun j hj => by rw [pm_up_j (by omega)]; exact y2 j (by omega)) (fun m hm => ?_)
          show pm_up y 170 (4 + 20 * t + (15 + i)) _ 170 (4 + 20 * t + (15 + m)) = _
          by_cases e : m = i
          · rw [e, pm_up_s]; unfold swn; rw [if_neg (fun z => e1 (hwi.mpr z)), if_neg e2]
          · rw [pm_up_j (by omega)]; exact y3 m (by omega)
  exact key 5 0 g (by omega) (fun _ _ => rfl) (fun _ _ => rfl) (fun m hm => absurd hm (Nat.not_lt_zero m))
theorem q_alterN {d T R A n0 n1 q N M c nx t : Nat} {L0 L1 : Nat → Ln} {h : pm_Hp} (hd : 9 ≤ d) (F : FS T R A n0 n1 q N M L0 L1 h) (Z : KR T R A c nx h) (I : IM h) (ht : t < T) (a : Option Nat) (ha : ∀ k, a = some k → k < A) {arr bs : Nat} {to : Nat → Int32} (hto : ∀ m, m < 5 → too (h 170) t a m = to m ∧ nb (to m) 99) (hpr : ∃ h', pm_ev d 31 [.ref 1, .int (nI t), .ref arr, .int (nI bs)] h = some (prc (h 170) n0 L0 t to, h') ∧ eqi [24, 37] h h') (hsw : ∀ g : pm_Hp, (∀ k, 11 ≤ k → k ≤ 14 → g k = h k) → ∃ g', pm_ev d 32 [.ref 1, .int (nI t), .ref arr, .int (nI bs)] g = some (0, g') ∧ (∀ a, a ≠ 10 → g' a = g a) ∧ ∀ j, g' 10 j = if t * 5 ≤ j ∧ j < t * 5 + 5 then swn (g 10 j) (to (j - t * 5)) else g 10 j) : ∃ h2 h4, (pm_bd (pm_ev d 31 [.ref 1, .int (nI t), .ref arr, .int (nI bs)] h) fun r3 y3 => pm_bd (pm_ev d 128 [.ref 0] y3) fun _ y4 => pm_bd (pm_ev d 32 [.ref 1, .int (nI t), .ref arr, .int (nI bs)] y4) fun _ y5 => pm_bd (pm_ev d 26 [.ref 1, .int (nI t), .int (nI 2)] (pm_up y5 2 8 ((y5 2 8) - r3))) fun _ y6 => some (r3, y6)) = some (prc (h 170) n0 L0 t to, h2) ∧ h2 170 = h 170 ∧ (∀ k, (k = 1 ∨ k = 14) → h2 k = h k) ∧ (pm_bd (pm_ev d 235 [.ref 169, .int (nI t), .int (o2 a)] h2) fun r4 y4 => pm_bd (pm_ev d 228 [.ref 169] y4) fun _ y5 => pm_rn d kX10_alter 62 [.ref 169, .int (nI t), .int (o2 a), .int r4, .int 0] [] y5) = some (prc (h 170) n0 L0 t to, h4) ∧ rest h h4 ∧ (h4 150 0 = 0 ∧ IV0 h4) := by
  have hT := F.1.1.1
  have hA := F.2.1.1
  obtain ⟨hp, a0, ep⟩ := hpr
  have ep' : ∀ a, a ≠ 24 → a ≠ 37 → hp a = h a := fun a y1 y2 => ep a (by simp; omega)
  have es : eqi SCR h hp := ep.mono (by decide)
  have Fp := F.scr es
  have Zp := Z.scr es
  have Ip := I.scr es
  have p170 : hp 170 = h 170 := ep' 170 (by omega) (by omega)
  have P := Fp.1.1
  have W := Fp.1.2.1 t ht
  generalize hprc : prc (h 170) n0 L0 t to = pr at a0 ⊢
  have Z' := Zp
  obtain ⟨hc6, hn, z1, z2, z3, -⟩ := Zp
  obtain ⟨k, hk, ek, ek2⟩ := Fp.bk
  obtain ⟨s1, s2, s3, s4, s5, s6⟩ := Fp.1.2.2.1
  obtain ⟨h1, a1, C⟩ := c_startAct (d := d) (h := hp) (by omega) hc6 hn z1 z2
  obtain ⟨c1, c2⟩ := C12 C hn
  have h12 : h1 2 = hp 2 := c1 2 (by omega)
  obtain ⟨hs, a3, t1, t2⟩ := hsw h1 (fun k y1 y2 => by rw [c1 k (by omega), ep' k (by omega) (by omega)])
  have t2' : ∀ j, hs 10 j = if t * 5 ≤ j ∧ j < t * 5 + 5 then swn (hp 10 j) (to (j - t * 5)) else hp 10 j := fun j => by rw [t2, c1 10 (by omega)]
  have hs28 : hs 2 8 = hp 170 1 := by rw [t1 2 (by omega), h12, s2]
  obtain ⟨h2, a2, WC⟩ := c_write (d := d) (k := k) (h := pm_up hs 2 8 (hp 170 1 - pr)) (by omega) (by rw [pm_up_j (by omega), t1 2 (by omega), h12]; exact ek2) hk (nI t) (nI 2)
  have hh : ∀ a, a ≠ 2 → a ≠ 16 → a ≠ 10 → (a < 77 ∨ 133 ≤ a) → a ≠ 150 → h2 a = hp a := fun a y1 y2 y3 y4 y5 => by
    rw [WC.1 a y1 y2, pm_up_n y1, t1 a y3]
    rcases y4 with y4 | y4
    · exact c1 a y4
    · exact c2 a y4 y5
  have e170 : h2 170 = hp 170 := hh 170 (by omega) (by omega) (by omega) (by omega) (by omega)
  obtain ⟨hm, b0, em⟩ := m_costBy (d := d) (n := n0) (t := t) (Ls := L0) (h := h2) (a := a) (by omega) (Fp.2.2.1.to (by omega) e170 (fun a y1 y2 y3 => hh a (by omega) (by omega) (by omega) (by omega) (by omega))) (W.eq e170) (by omega) (fun k hk => by have := ha k hk; omega)
  have hpc : prc (h2 170) n0 L0 t (too (h2 170) t a) = pr := by
    rw [← hprc, e170, p170]
    unfold prc
    refine itr_cg 5 0 0 (fun j x h1 h2 => ?_)
    unfold prg pr1
    rw [(hto j (by omega)).1]
  rw [hpc] at b0
  have em' : ∀ a, a ≠ 178 → a ≠ 179 → hm a = h2 a := fun a y1 y2 => em a (by simp; omega)
  obtain ⟨h3, b1, MK⟩ := m_keeps (d := d) (c := c) (by omega) hc6 hm (by rw [em' 169 (by omega) (by omega), hh 169 (by omega) (by omega) (by omega) (by omega) (by omega)]; exact z3)
  have w170 : h3 170 = hp 170 := by rw [MK.1 170 (by omega) (by omega), em' 170 (by omega) (by omega), e170]
  obtain ⟨hq, b3, m1, m2, m3⟩ := m_sewL (d := d) (t := t) (g := h3) (a := a) (r := pr) (by omega) (by omega) (fun k hk => by have := ha k hk; omega) (fun m hm => by rw [wq_eq w170, wq_eq w170]; exact (W.2.2.2.2.2.2 m hm).2.2)
  obtain ⟨h4, b2', WM⟩ := m_notes (d := d) (k := k) (h := pm_up hq 170 1 (hp 170 1 - pr)) (by omega) (by rw [pm_up_j (by omega), m2 2 (by omega), w170]; exact ek) hk (nI t) (nI 2)
  have hq1 : hq 170 1 = hp 170 1 := by rw [m2 1 (by omega), w170]
  refine ⟨h2, h4, ?_, by rw [e170, p170], fun k hk => by rw [hh k (by omega) (by omega) (by omega) (by omega) (by omega), ep' k (by omega) (by omega)], ?_, ?_⟩
  · rw [a0, pm_bd_s, a1, pm_bd_s, a3, pm_bd_s, hs28, a2, pm_bd_s]
  · rw [b0, pm_bd_s, b1, pm_bd_s, b3, hq1, b2', pm_bd_s]
  · let u : Nat → Int32 := fun f => if 15 ≤ f then swn (wq hp t f) (to (f - 15)) else wq hp t f
    have ul : ∀ f, f < 15 → u f = wq hp t f := fun f hf => if_neg (by omega)
    have uh : ∀ m, u (15 + m) = swn (wq hp t (15 + m)) (to m) := fun m => by
      show (if 15 ≤ 15 + m then swn (wq hp t (15 + m)) (to (15 + m - 15)) else wq hp t (15 + m)) = _
      rw [if_pos (by omega), show 15 + m - 15 = m by omega]
    have swb : ∀ m, m < 5 → nb (u (15 + m)) 99 ∧ (wq hp t (10 + m) = 0 ↔ u (15 + m) = 0) := fun m hm => by
      obtain ⟨w1, w2, w3⟩ := W.2.2.2.2.2.2 m hm
      rw [uh]
      unfold swn
      by_cases e1 : wq hp t (15 + m) = 0
      · rw [if_pos e1]; exact ⟨w2, w3⟩
      · rw [if_neg e1]
        by_cases e2 : to m = 0
        · rw [if_pos e2]; exact ⟨w2, w3⟩
        · rw [if_neg e2]; exact ⟨(hto m hm).2, fun z => absurd (w3.mp z) e1, fun z => absurd z e2⟩
    have act := ACT (hc := pm_up hs 2 8 (hp 170 1 - pr)) (hm := hm) (hw := pm_up hq 170 1 (hp 170 1 - pr)) (u := u) (p := hp 170 1 - pr) Fp Z' Ip ht C (fun a y1 y2 y3 => by rw [pm_up_n (by omega), t1 a (by omega)]) pm_up_s (fun j hj => by rw [pm_up_j hj, t1 2 (by omega)]) ?_ hk WC em MK (fun a y1 _ _ => by rw [pm_up_n y1, m1 a y1]) pm_up_s (fun j y1 y2 => by rw [pm_up_j y2, m2 j (by omega)]) ?_ WM (ul 0 (by omega)) (MV.same P ht (ul 0 (by omega)) (ul 5 (by omega))) ⟨by rw [ul 1 (by omega)]; exact W.2.1, by rw [ul 2 (by omega)]; exact W.2.2.1, by rw [ul 3 (by omega)]; exact W.2.2.2.1, by rw [ul 4 (by omega)]; exact W.2.2.2.2.1, by rw [ul 8 (by omega)]; exact W.2.2.2.2.2.1, fun m hm => by rw [ul (10 + m) (by omega)]; exact ⟨(W.2.2.2.2.2.2 m hm).1, (swb m hm).1, (swb m hm).2⟩⟩ (fun e => by
      rw [ul 5 (by omega)] at e
      rw [ul 7 (by omega), ul 8 (by omega)]
      exact Fp.1.2.2.2.2 t ht e)
    · exact ⟨(rest.scr es).tr act.1, act.2⟩
    · intro s f hs' hf h9
      by_cases f15 : 15 ≤ f
      · rw [ta_10 f15, tj_10 f15, pm_up_k (by omega), t2']
        by_cases e : s = t
        · rw [if_pos e, e, if_pos (by omega), show t * 5 + (f - 15) - t * 5 = f - 15 by omega]
          have := P.2.2.2.2.2.2.1 t f ht hf h9
          rw [ta_10 f15, tj_10 f15] at this
          rw [this]
          exact (if_pos f15).symm
        · rw [if_neg e, if_neg (by omega)]
      · have ti := ta_in f hf h9
        simp only [List.mem_cons, List.not_mem_nil, or_false] at ti
        have t10 : ta f ≠ 10 := by
          by_cases f9 : f < 9
          · exact (ta_s f f9).1
          · rw [ta_13 (by omega) (by omega)]; omega
        rw [pm_up_k (by omega), t1 _ t10, c1 _ (by omega)]
        by_cases e : s = t
        · rw [if_pos e, e, ul f (by omega)]
          exact P.2.2.2.2.2.2.1 t f ht hf h9
        · rw [if_neg e]
    · intro s f hs' hf
      show pm_up hq 170 1 (hp 170 1 - pr) 170 (4 + 20 * s + f) = _
      rw [pm_up_j (by omega)]
      by_cases e : s = t
      · subst e
        rw [if_pos rfl]
        by_cases f15 : 15 ≤ f
        · have := m3 (f - 15) (by omega)
          rw [show 15 + (f - 15) = f by omega, wq_eq w170, w170, p170, (hto (f - 15) (by omega)).1] at this
          rw [show hq 170 (4 + 20 * s + f) = _ from this]
          exact (if_pos f15).symm
        · rw [ul f (by omega), m2 _ (by omega), w170]
      · rw [if_neg e, m2 _ (by omega), w170]
theorem q_alter {d T R A n0 n1 q N M c nx : Nat} {L0 L1 : Nat → Ln} {h : pm_Hp} (hd : 10 ≤ d) (F : FS T R A n0 n1 q N M L0 L1 h) (Z : KR T R A c nx h) (I : IM h) (v1 v2 : Int32) : MU d 121 237 [.int v1, .int v2] h := by
  obtain ⟨d, rfl, -⟩ := dpos hd
  have P := F.1.1
  have Q := F.2.1
  have hT := P.1
  have hA := Q.1
  by_cases g1 : isT T v1
  · obtain ⟨t, ht, rfl⟩ := isT_ex (by omega) g1
    have W := F.1.2.1 t ht
    by_cases gk : wq h t 0 = nI 5
    · refine MU.no (r := -1) ?_ ?_
      · rw [e_X9_alter]
        by_cases g2 : v2 = -1
        · rw [if_pos g2, c_isWearable_y (by omega) P ht, pm_bd_s, b2_f (fun e => e gk), if_pos rfl]
        · rw [if_neg g2, c_isWearable_y (by omega) P ht, pm_bd_s, b2_f (fun e => e gk), if_pos rfl]
      · rw [e_X10_alter, m_isThing (by omega) P.2.2.1 hT, pm_bd_s, b2_t g1, if_neg (by decide), m_isTrunk_y (by omega) P ht, pm_bd_s, b2_t gk, if_neg (by decide)]
    · by_cases ga : aw h t
      · refine MU.no (r := -1) ?_ ?_
        · rw [e_X9_alter]
          by_cases g2 : v2 = -1
          · rw [if_pos g2, c_isWearable_y (by omega) P ht, pm_bd_s, b2_t gk, if_neg (by decide), c_isAway (by omega) P ht, pm_bd_s, b2_t ga, if_neg (by decide)]
          · rw [if_neg g2, c_isWearable_y (by omega) P ht, pm_bd_s, b2_t gk, if_neg (by decide), c_isAway (by omega) P ht, pm_bd_s, b2_t ga, if_neg (by decide)]
        · rw [e_X10_alter, m_isThing (by omega) P.2.2.1 hT, pm_bd_s, b2_t g1, if_neg (by decide), m_isTrunk_y (by omega) P ht, pm_bd_s, b2_f gk, if_pos rfl, m_isOut (by omega) P ht, pm_bd_s, b2_t ga, if_neg (by decide)]
      · by_cases g2 : v2 = -1
        · have hto : ∀ m, m < 5 → too (h 170) t none m = too (h 170) t none m ∧ nb (too (h 170) t none m) 99 := fun m hm => ⟨rfl, (W.2.2.2.2.2.2 m hm).1⟩
          obtain ⟨h2, h4, f1, e170, e14, f2, f3, f4⟩ := q_alterN (d := d) (arr := 13) (bs := t * 5) (by omega) F Z I ht none (fun k hk => by cases hk) hto (c_price_m (by omega) P F.2.2.1 W ht (fun m hm => ⟨P.made ht hm, (hto m hm).2⟩) (by omega)) (fun g hg => c_sew_m (by omega) (by omega) (fun m hm => by rw [hg 13 (by omega) (by omega)]; exact P.made ht hm) (by omega))
          have Pg := P.m.eq e170
          refine ⟨prc (h 170) n0 L0 t (too (h 170) t none), h2, h4, ?_, ?_, f3, Or.inr f4⟩
          · rw [e_X9_alter, if_pos g2, c_isWearable_y (by omega) P ht, pm_bd_s, b2_t gk, if_neg (by decide), c_isAway (by omega) P ht, pm_bd_s, b2_f ga, if_pos rfl, pk_mul, f1]
          · rw [e_X10_alter, m_isThing (by omega) Pg.2.2.1 hT, pm_bd_s, b2_t g1, if_neg (by decide), n_isTrunk_y (by omega) Pg ht, pm_bd_s, b2_f (by rw [wq_eq e170]; exact gk), if_pos rfl, n_isOut (by omega) Pg ht, pm_bd_s, b2_f (by rw [aw_eq e170]; exact ga), if_pos rfl, if_pos g2, g2]
            exact f2
        · by_cases g3 : isT A v2
          · obtain ⟨a, ha, rfl⟩ := isT_ex (by omega) g3
            by_cases g4 : fit (h 170) t a = 0
            · refine MU.no (r := -1) ?_ ?_
              · rw [e_X9_alter, if_neg g2, c_isWearable_y (by omega) P ht, pm_bd_s, b2_t gk, if_neg (by decide), c_isAway (by omega) P ht, pm_bd_s, b2_f ga, if_pos rfl, c_isActor (by omega) Q, pm_bd_s, b2_t g3, if_neg (by decide), c_fit (by omega) P Q W ht ha, pm_bd_s, if_pos g4]
              · rw [e_X10_alter, m_isThing (by omega) P.2.2.1 hT, pm_bd_s, b2_t g1, if_neg (by decide), m_isTrunk_y (by omega) P ht, pm_bd_s, b2_f gk, if_pos rfl, m_isOut (by omega) P ht, pm_bd_s, b2_f ga, if_pos rfl, if_neg g2, m_isActor (by omega) Q, pm_bd_s, b2_t g3, if_neg (by decide), m_fitsTo (by omega) Q W (by omega) ha, pm_bd_s, if_pos g4]
            · have hto : ∀ m, m < 5 → too (h 170) t (some a) m = too (h 170) t (some a) m ∧ nb (too (h 170) t (some a) m) 99 := fun m hm => ⟨rfl, (Q.2.2.2 a m ha hm).2⟩
              obtain ⟨h2, h4, f1, e170, e14, f2, f3, f4⟩ := q_alterN (d := d) (arr := 14) (bs := a * 5) (by omega) F Z I ht (some a) (fun k hk => by cases hk; exact ha) hto (c_price_b (by omega) P F.2.2.1 W ht (fun m hm => Q.2.2.2 a m ha hm) (by omega)) (fun g hg => c_sew_b (by omega) (by omega) (fun m hm => by rw [hg 14 (by omega) (by omega)]; exact (Q.2.2.2 a m ha hm).1) (by omega))
              have Pg := P.m.eq e170
              have Qg : AC A h2 := Q.eq e170 (e14 1 (by omega)) (e14 14 (by omega))
              refine ⟨prc (h 170) n0 L0 t (too (h 170) t (some a)), h2, h4, ?_, ?_, f3, Or.inr f4⟩
              · rw [e_X9_alter, if_neg g2, c_isWearable_y (by omega) P ht, pm_bd_s, b2_t gk, if_neg (by decide), c_isAway (by omega) P ht, pm_bd_s, b2_f ga, if_pos rfl, c_isActor (by omega) Q, pm_bd_s, b2_t g3, if_neg (by decide), c_fit (by omega) P Q W ht ha, pm_bd_s, if_neg g4, pk_mul, f1]
              · rw [e_X10_alter, m_isThing (by omega) Pg.2.2.1 hT, pm_bd_s, b2_t g1, if_neg (by decide), n_isTrunk_y (by omega) Pg ht, pm_bd_s, b2_f (by rw [wq_eq e170]; exact gk), if_pos rfl, n_isOut (by omega) Pg ht, pm_bd_s, b2_f (by rw [aw_eq e170]; exact ga), if_pos rfl, if_neg g2, m_isActor (by omega) Qg, pm_bd_s, b2_t g3, if_neg (by decide), m_fitsTo (by omega) Qg (W.eq e170) (by omega) ha, pm_bd_s, e170, if_neg g4]
                exact f2
          · refine MU.no (r := -1) ?_ ?_
            · rw [e_X9_alter, if_neg g2, c_isWearable_y (by omega) P ht, pm_bd_s, b2_t gk, if_neg (by decide), c_isAway (by omega) P ht, pm_bd_s, b2_f ga, if_pos rfl, c_isActor (by omega) Q, pm_bd_s, b2_f g3, if_pos rfl]
            · rw [e_X10_alter, m_isThing (by omega) P.2.2.1 hT, pm_bd_s, b2_t g1, if_neg (by decide), m_isTrunk_y (by omega) P ht, pm_bd_s, b2_f gk, if_pos rfl, m_isOut (by omega) P ht, pm_bd_s, b2_f ga, if_pos rfl, if_neg g2, m_isActor (by omega) Q, pm_bd_s, b2_f g3, if_pos rfl]
  · refine MU.no (r := -1) ?_ ?_
    · rw [e_X9_alter]
      by_cases g2 : v2 = -1
      · rw [if_pos g2, c_isWearable_n (by omega) P g1, pm_bd_s, if_pos rfl]
      · rw [if_neg g2, c_isWearable_n (by omega) P g1, pm_bd_s, if_pos rfl]
    · rw [e_X10_alter, m_isThing (by omega) P.2.2.1 hT, pm_bd_s, b2_f g1, if_pos rfl]
