theorem o2_n : o2 none = -1 := rfl
theorem o2_m1 {x : Nat} (hx : x < 2 ^ 31) : ¬ o2 (some x) = -1 := fun e => by
  have : nI x = -1 := e
  rw [nI_m1 hx] at this
  exact this
theorem q_put {d T R A n0 n1 q N M c nx : Nat} {L0 L1 : Nat → Ln} {h : pm_Hp} (hd : 11 ≤ d) (F : FS T R A n0 n1 q N M L0 L1 h) (Z : KR T R A c nx h) (I : IM h) (v1 v2 v3 : Int32) : MU d 119 231 [.int v1, .int v2, .int v3] h := by
  obtain ⟨d, rfl, -⟩ := dpos hd
  have P := F.1.1
  have hT := P.1
  have hR := P.2.1
  by_cases g1 : isT T v1
  · obtain ⟨t, ht, rfl⟩ := isT_ex (by omega) g1
    by_cases g5 : wq h t 5 = -1
    · rcases hold_cases P v2 with ⟨r, hr, rfl⟩ | ⟨p, hp, rfl, hk⟩ | ⟨x1, x2⟩
      · by_cases gs : ¬ v3 < 0 ∧ v3 < h 170 (362 + r)
        · cases gf : fs h T (nI r) v3 with
          | none =>
            obtain ⟨h2, h4, f1, e170, f2, f3, f4⟩ := put_do (d := d) (by omega) F Z I ht (nI r) v3 g5 (MV.none P ht (by rw [ur_n (by omega), ur_n (by omega)]) (by rw [ur_n (by omega), ur_s]; exact Or.inr (Or.inl ⟨r, hr, rfl⟩)))
            have Pg := P.m.eq e170
            refine ⟨1, h2, h4, ?_, ?_, f3, Or.inr f4⟩
            · rw [e_X9_put, c_isThing (by omega) P.2.2.2.1, pm_bd_s, b2_t g1, if_neg (by decide), pm_at_c (by omega) (by omega), P.r5 ht, if_pos g5, c_canOpen_r (by omega) P hr, pm_bd_s, b2_t gs, if_neg (by decide), c_inSlot (by omega) P, pm_bd_s, gf, if_pos o2_n, c_hasDepth_n (by omega) P ht _ (Or.inr (nI_lt (by omega) (by omega))), pm_bd_s, if_neg (by decide), f1]
            · rw [e_X10_put, m_isThing (by omega) Pg.2.2.1 hT, pm_bd_s, b2_t g1, if_neg (by decide), m_of0 (by omega) h2 (nI t) (nI 5) t 5 rfl rfl (by omega) (by omega), pm_bd_s, wq_eq e170, if_pos g5, n_isSlot_r (by omega) Pg hr, pm_bd_s, e170, b2_t gs, if_neg (by decide), n_inSlot (by omega) Pg, pm_bd_s, fs_eq e170, gf, if_pos o2_n, n_isHolderOut_r (by omega) (by omega), pm_bd_s, if_pos rfl, if_pos (nI_lt (by omega) (by omega)), f2]
          | some x =>
            have hx := (fst1_some gf).2.2
            refine MU.no (r := 0) ?_ ?_
            · rw [e_X9_put, c_isThing (by omega) P.2.2.2.1, pm_bd_s, b2_t g1, if_neg (by decide), pm_at_c (by omega) (by omega), P.r5 ht, if_pos g5, c_canOpen_r (by omega) P hr, pm_bd_s, b2_t gs, if_neg (by decide), c_inSlot (by omega) P, pm_bd_s, gf, if_neg (o2_m1 (by omega))]
            · rw [e_X10_put, m_isThing (by omega) P.2.2.1 hT, pm_bd_s, b2_t g1, if_neg (by decide), m_of0 (by omega) h (nI t) (nI 5) t 5 rfl rfl (by omega) (by omega), pm_bd_s, if_pos g5, m_isSlot_r (by omega) P hr, pm_bd_s, b2_t gs, if_neg (by decide), m_inSlot (by omega) P, pm_bd_s, gf, if_neg (o2_m1 (by omega))]
        · refine MU.no (r := 0) ?_ ?_
          · rw [e_X9_put, c_isThing (by omega) P.2.2.2.1, pm_bd_s, b2_t g1, if_neg (by decide), pm_at_c (by omega) (by omega), P.r5 ht, if_pos g5, c_canOpen_r (by omega) P hr, pm_bd_s, b2_f gs, if_pos rfl]
          · rw [e_X10_put, m_isThing (by omega) P.2.2.1 hT, pm_bd_s, b2_t g1, if_neg (by decide), m_of0 (by omega) h (nI t) (nI 5) t 5 rfl rfl (by omega) (by omega), pm_bd_s, if_pos g5, m_isSlot_r (by omega) P hr, pm_bd_s, b2_f gs, if_pos rfl]
      · by_cases gs : isT 4 v3
        · by_cases ga : aw h p
          · refine MU.no (r := 0) ?_ ?_
            · rw [e_X9_put, c_isThing (by omega) P.2.2.2.1, pm_bd_s, b2_t g1, if_neg (by decide), pm_at_c (by omega) (by omega), P.r5 ht, if_pos g5, c_canOpen_t (by omega) P hp hk, pm_bd_s, b2_f (fun z => z.2 ga), if_pos rfl]
            · rw [e_X10_put, m_isThing (by omega) P.2.2.1 hT, pm_bd_s, b2_t g1, if_neg (by decide), m_of0 (by omega) h (nI t) (nI 5) t 5 rfl rfl (by omega) (by omega), pm_bd_s, if_pos g5, m_isSlot_t (by omega) P hp hk, pm_bd_s, b2_t gs, if_neg (by decide), m_inSlot (by omega) P, pm_bd_s]
              cases gf : fs h T (nI (10 + p)) v3 with
              | none => rw [if_pos o2_n, n_isHolderOut_t (by omega) P.m hp, pm_bd_s, b2_t ga, if_neg (by decide)]
              | some x =>
                have hx := (fst1_some gf).2.2
                rw [if_neg (o2_m1 (by omega))]
          · cases gf : fs h T (nI (10 + p)) v3 with
            | some x =>
              have hx := (fst1_some gf).2.2
              refine MU.no (r := 0) ?_ ?_
              · rw [e_X9_put, c_isThing (by omega) P.2.2.2.1, pm_bd_s, b2_t g1, if_neg (by decide), pm_at_c (by omega) (by omega), P.r5 ht, if_pos g5, c_canOpen_t (by omega) P hp hk, pm_bd_s, b2_t ⟨gs, ga⟩, if_neg (by decide), c_inSlot (by omega) P, pm_bd_s, gf, if_neg (o2_m1 (by omega))]
              · rw [e_X10_put, m_isThing (by omega) P.2.2.1 hT, pm_bd_s, b2_t g1, if_neg (by decide), m_of0 (by omega) h (nI t) (nI 5) t 5 rfl rfl (by omega) (by omega), pm_bd_s, if_pos g5, m_isSlot_t (by omega) P hp hk, pm_bd_s, b2_t gs, if_neg (by decide), m_inSlot (by omega) P, pm_bd_s, gf, if_neg (o2_m1 (by omega))]
            | none =>
              obtain ⟨rk, K⟩ := P.2.2.2.2.2.2.2.2.2
              have r0 : rk t = 0 := (K t ht).2.2.2 (fun z hz e => by rw [g5, nI_m1' (by omega)] at e; exact e)
              by_cases gk : wq h t 0 = nI 5
              · have cl := cdp_le P K ht gk
                have rp := (K p hp).1
                by_cases gd : ¬ p = t ∧ ¬ bH h (nI (10 + t)) 4 p = true ∧ cdp h rk T t + 1 + rk p ≤ 3
                · obtain ⟨h2, h4, f1, e170, f2, f3, f4⟩ := put_do (d := d) (by omega) F Z I ht (nI (10 + p)) v3 g5 (MV.trunk P K ht (by rw [ur_n (by omega), ur_n (by omega)]) hp hk (by rw [ur_n (by omega), ur_s]) r0 (fun _ => gd))
                  have Pg := P.m.eq e170
                  refine ⟨1, h2, h4, ?_, ?_, f3, Or.inr f4⟩
                  · rw [e_X9_put, c_isThing (by omega) P.2.2.2.1, pm_bd_s, b2_t g1, if_neg (by decide), pm_at_c (by omega) (by omega), P.r5 ht, if_pos g5, c_canOpen_t (by omega) P hp hk, pm_bd_s, b2_t ⟨gs, ga⟩, if_neg (by decide), c_inSlot (by omega) P, pm_bd_s, gf, if_pos o2_n, c_hasDepth (by omega) P K ht gk hp, pm_bd_s, b2_t gd, if_neg (by decide), f1]
                  · rw [e_X10_put, m_isThing (by omega) Pg.2.2.1 hT, pm_bd_s, b2_t g1, if_neg (by decide), m_of0 (by omega) h2 (nI t) (nI 5) t 5 rfl rfl (by omega) (by omega), pm_bd_s, wq_eq e170, if_pos g5, n_isSlot_t (by omega) Pg hp (by rw [wq_eq e170]; exact hk), pm_bd_s, b2_t gs, if_neg (by decide), n_inSlot (by omega) Pg, pm_bd_s, fs_eq e170, gf, if_pos o2_n, n_isHolderOut_t (by omega) Pg hp, pm_bd_s, b2_f (by rw [aw_eq e170]; exact ga), if_pos rfl, if_neg (nI_nlt (by omega) (by omega)), m_of0 (by omega) h2 (nI t) 0 t 0 rfl rfl (by omega) (by omega), pm_bd_s, wq_eq e170, if_pos gk, pk_sub (by omega), show 10 + p - 10 = p by omega, if_neg (fun e => gd.1 ((nI_eq (by omega) (by omega)).mp e)), n_isInsideB (by omega) Pg hp ht, pm_bd_s, bH_eq e170, b2_f gd.2.1, if_pos rfl, n_deepWith (by omega) Pg (RK_eq e170 K) ht (by rw [wq_eq e170]; exact gk) hp, pm_bd_s, cdp_eq e170, if_pos (nI_le gd.2.2 (by omega)), f2]
                · refine MU.no (r := 0) ?_ ?_
                  · rw [e_X9_put, c_isThing (by omega) P.2.2.2.1, pm_bd_s, b2_t g1, if_neg (by decide), pm_at_c (by omega) (by omega), P.r5 ht, if_pos g5, c_canOpen_t (by omega) P hp hk, pm_bd_s, b2_t ⟨gs, ga⟩, if_neg (by decide), c_inSlot (by omega) P, pm_bd_s, gf, if_pos o2_n, c_hasDepth (by omega) P K ht gk hp, pm_bd_s, b2_f gd, if_pos rfl]
                  · rw [e_X10_put, m_isThing (by omega) P.2.2.1 hT, pm_bd_s, b2_t g1, if_neg (by decide), m_of0 (by omega) h (nI t) (nI 5) t 5 rfl rfl (by omega) (by omega), pm_bd_s, if_pos g5, m_isSlot_t (by omega) P hp hk, pm_bd_s, b2_t gs, if_neg (by decide), m_inSlot (by omega) P, pm_bd_s, gf, if_pos o2_n, n_isHolderOut_t (by omega) P.m hp, pm_bd_s, b2_f ga, if_pos rfl, if_neg (nI_nlt (by omega) (by omega)), m_of0 (by omega) h (nI t) 0 t 0 rfl rfl (by omega) (by omega), pm_bd_s, if_pos gk, pk_sub (by omega), show 10 + p - 10 = p by omega]
                    by_cases d1 : p = t
                    · rw [if_pos (by rw [d1])]
                    · rw [if_neg (fun e => d1 ((nI_eq (by omega) (by omega)).mp e)), n_isInsideB (by omega) P.m hp ht, pm_bd_s]
                      by_cases d2 : bH h (nI (10 + t)) 4 p = true
                      · rw [b2_t d2, if_neg (by decide)]
                      · rw [b2_f d2, if_pos rfl, n_deepWith (by omega) P.m K ht gk hp, pm_bd_s, if_neg (fun e => gd ⟨d1, d2, (nI_leI (by omega) (by omega)).mp e⟩)]
              · obtain ⟨h2, h4, f1, e170, f2, f3, f4⟩ := put_do (d := d) (by omega) F Z I ht (nI (10 + p)) v3 g5 (MV.trunk P K ht (by rw [ur_n (by omega), ur_n (by omega)]) hp hk (by rw [ur_n (by omega), ur_s]) r0 (fun e => absurd e gk))
                have Pg := P.m.eq e170
                refine ⟨1, h2, h4, ?_, ?_, f3, Or.inr f4⟩
                · rw [e_X9_put, c_isThing (by omega) P.2.2.2.1, pm_bd_s, b2_t g1, if_neg (by decide), pm_at_c (by omega) (by omega), P.r5 ht, if_pos g5, c_canOpen_t (by omega) P hp hk, pm_bd_s, b2_t ⟨gs, ga⟩, if_neg (by decide), c_inSlot (by omega) P, pm_bd_s, gf, if_pos o2_n, c_hasDepth_n (by omega) P ht _ (Or.inl gk), pm_bd_s, if_neg (by decide), f1]
                · rw [e_X10_put, m_isThing (by omega) Pg.2.2.1 hT, pm_bd_s, b2_t g1, if_neg (by decide), m_of0 (by omega) h2 (nI t) (nI 5) t 5 rfl rfl (by omega) (by omega), pm_bd_s, wq_eq e170, if_pos g5, n_isSlot_t (by omega) Pg hp (by rw [wq_eq e170]; exact hk), pm_bd_s, b2_t gs, if_neg (by decide), n_inSlot (by omega) Pg, pm_bd_s, fs_eq e170, gf, if_pos o2_n, n_isHolderOut_t (by omega) Pg hp, pm_bd_s, b2_f (by rw [aw_eq e170]; exact ga), if_pos rfl, if_neg (nI_nlt (by omega) (by omega)), m_of0 (by omega) h2 (nI t) 0 t 0 rfl rfl (by omega) (by omega), pm_bd_s, wq_eq e170, if_neg gk, f2]
        · refine MU.no (r := 0) ?_ ?_
          · rw [e_X9_put, c_isThing (by omega) P.2.2.2.1, pm_bd_s, b2_t g1, if_neg (by decide), pm_at_c (by omega) (by omega), P.r5 ht, if_pos g5, c_canOpen_t (by omega) P hp hk, pm_bd_s, b2_f (fun z => gs z.1), if_pos rfl]
          · rw [e_X10_put, m_isThing (by omega) P.2.2.1 hT, pm_bd_s, b2_t g1, if_neg (by decide), m_of0 (by omega) h (nI t) (nI 5) t 5 rfl rfl (by omega) (by omega), pm_bd_s, if_pos g5, m_isSlot_t (by omega) P hp hk, pm_bd_s, b2_f gs, if_pos rfl]
      · refine MU.no (r := 0) ?_ ?_
        · rw [e_X9_put, c_isThing (by omega) P.2.2.2.1, pm_bd_s, b2_t g1, if_neg (by decide), pm_at_c (by omega) (by omega), P.r5 ht, if_pos g5, c_canOpen_n (by omega) P x1 x2, pm_bd_s, if_pos rfl]
        · rw [e_X10_put, m_isThing (by omega) P.2.2.1 hT, pm_bd_s, b2_t g1, if_neg (by decide), m_of0 (by omega) h (nI t) (nI 5) t 5 rfl rfl (by omega) (by omega), pm_bd_s, if_pos g5, m_isSlot_n (by omega) P x1 x2 (fun z => sub10 hT z), pm_bd_s, if_pos rfl]
    · refine MU.no (r := 0) ?_ ?_
      · rw [e_X9_put, c_isThing (by omega) P.2.2.2.1, pm_bd_s, b2_t g1, if_neg (by decide), pm_at_c (by omega) (by omega), P.r5 ht, if_neg g5]
      · rw [e_X10_put, m_isThing (by omega) P.2.2.1 hT, pm_bd_s, b2_t g1, if_neg (by decide), m_of0 (by omega) h (nI t) (nI 5) t 5 rfl rfl (by omega) (by omega), pm_bd_s, if_neg g5]
  · refine MU.no (r := 0) ?_ ?_
    · rw [e_X9_put, c_isThing (by omega) P.2.2.2.1, pm_bd_s, b2_f g1, if_pos rfl]
    · rw [e_X10_put, m_isThing (by omega) P.2.2.1 hT, pm_bd_s, b2_f g1, if_pos rfl]
theorem take_do {d T R A n0 n1 q N M c nx t : Nat} {L0 L1 : Nat → Ln} {h : pm_Hp} (hd : 9 ≤ d) (F : FS T R A n0 n1 q N M L0 L1 h) (Z : KR T R A c nx h) (I : IM h) (ht : t < T) (g5 : ¬ wq h t 5 = nI 100) : ∃ h2 h4, (pm_bd (pm_ev d 128 [.ref 0] h) fun _ y3 => pm_bd (pm_ev d 24 [.ref 1, .int (nI t)] y3) fun _ y4 => pm_bd (pm_ev d 26 [.ref 1, .int (nI t), .int 1] y4) fun _ y5 => some (nI t, y5)) = some (nI t, h2) ∧ h2 170 = h 170 ∧ (pm_bd (pm_ev d 228 [.ref 169] h2) fun _ y5 => pm_bd (pm_ev d 232 [.ref 169, .int (nI t)] y5) fun _ y6 => pm_bd (pm_ev d 230 [.ref 169, .int (nI t), .int 1] y6) fun _ y7 => some (nI t, y7)) = some (nI t, h4) ∧ rest h h4 ∧ (h4 150 0 = 0 ∧ IV0 h4) := by
  have P := F.1.1
  have hT := P.1
  have Z' := Z
  obtain ⟨hc6, hn, z1, z2, z3, -⟩ := Z
  obtain ⟨k, hk, ek, ek2⟩ := F.bk
  obtain ⟨h1, a1, C⟩ := c_startAct (d := d) (by omega) hc6 hn z1 z2
  obtain ⟨c1, c2⟩ := C12 C hn
  obtain ⟨h2, a2, WC⟩ := c_write (d := d) (k := k) (h := pm_up (pm_up (pm_up (pm_up h1 6 t (-1)) 7 t (-1)) 8 t (-1)) 9 t 0) (by omega) (by rw [pm_up_k (by omega), pm_up_k (by omega), pm_up_k (by omega), pm_up_k (by omega), c1 2 (by omega)]; exact ek2) hk (nI t) 1
  have e170 : h2 170 = h 170 := by rw [WC.1 170 (by omega) (by omega), pm_up_n (by omega), pm_up_n (by omega), pm_up_n (by omega), pm_up_n (by omega), c2 170 (by omega) (by omega)]
  obtain ⟨h3, b1, MK⟩ := m_keeps (d := d) (c := c) (by omega) hc6 h2 (by rw [WC.1 169 (by omega) (by omega), pm_up_k (by omega), pm_up_k (by omega), pm_up_k (by omega), pm_up_k (by omega), c2 169 (by omega) (by omega)]; exact z3)
  have w170 : h3 170 = h 170 := by rw [MK.1 170 (by omega) (by omega), e170]
  obtain ⟨h4, b2', WM⟩ := m_notes (d := d) (k := k) (h := pm_up (pm_up h3 170 (4 + 20 * t + 5) (-1)) 170 (4 + 20 * t + 6) (-1)) (by omega) (by rw [pm_up_j (by omega), pm_up_j (by omega), w170]; exact ek) hk (nI t) 1
  have du := F.1.2.2.2.2 t ht g5
  refine ⟨h2, h4, ?_, e170, ?_, ?_⟩
  · rw [a1, pm_bd_s, c_moveAside (by omega) (by omega), pm_bd_s, a2, pm_bd_s]
  · rw [b1, pm_bd_s, n_laysDown (by omega) (by omega), pm_bd_s, b2', pm_bd_s]
  · refine ACT (hc := pm_up (pm_up (pm_up (pm_up h1 6 t (-1)) 7 t (-1)) 8 t (-1)) 9 t 0) (hm := h2) (hw := pm_up (pm_up h3 170 (4 + 20 * t + 5) (-1)) 170 (4 + 20 * t + 6) (-1)) (u := ur 8 0 (ur 7 (-1) (ur 6 (-1) (ur 5 (-1) (wq h t))))) (p := h 170 1) F Z' I ht C (fun a y1 y2 y3 => by rw [pm_up_n (by omega), pm_up_n (by omega), pm_up_n (by omega), pm_up_n (by omega)]) ?_ (fun j _ => by rw [pm_up_k (by omega), pm_up_k (by omega), pm_up_k (by omega), pm_up_k (by omega)]) ?_ hk WC eqi.rf MK (fun a y1 _ _ => by rw [pm_up_n y1, pm_up_n y1]) ?_ (fun j y1 y2 => by rw [pm_up_j (by omega), pm_up_j (by omega)]) ?_ WM ?_ (MV.none P ht ?_ ?_) ?_ ?_
    · rw [pm_up_k (by omega), pm_up_k (by omega), pm_up_k (by omega), pm_up_k (by omega), c1 2 (by omega)]; exact F.1.2.2.1.2.1
    · exact (((((CW.rf P ht).o (fun a y1 y2 => c1 a (by omega))).up9 (g := 5) (by omega) rfl).up9 (g := 6) (by omega) rfl).up9 (g := 7) (by omega) rfl).up9 (g := 8) (by omega) rfl
    · rw [pm_up_j (by omega), pm_up_j (by omega), w170]
    · refine RW.cg (fun f hf => ?_) (((RW.rf.to (fun j _ _ => by rw [w170])).up (g := 5) (v := -1) (by omega)).up (g := 6) (v := -1) (by omega))
      by_cases e8 : f = 8
      · rw [e8, ur_s, ur_n (by omega), ur_n (by omega)]; exact du.2
      · rw [ur_n (f0 := 8) e8]
        by_cases e7 : f = 7
        · rw [e7, ur_s, ur_n (by omega), ur_n (by omega)]; exact du.1
        · rw [ur_n (f0 := 7) e7]
    · rw [ur_n (by omega), ur_n (by omega), ur_n (by omega), ur_n (by omega)]
    · rw [ur_n (by omega), ur_n (by omega), ur_n (by omega), ur_n (by omega)]
    · rw [ur_n (by omega), ur_n (by omega), ur_n (by omega), ur_s]; exact Or.inl rfl
    · exact ((((QW.of (F.1.2.1 t ht)).up (by omega) (fun e => absurd e (by decide)) (fun e => absurd e (by decide)) (fun e => absurd e (by decide)) (fun e => absurd e (by decide)) (fun e => absurd e (by decide))).up (by omega) (fun e => absurd e (by decide)) (fun e => absurd e (by decide)) (fun e => absurd e (by decide)) (fun e => absurd e (by decide)) (fun e => absurd e (by decide))).up (by omega) (fun e => absurd e (by decide)) (fun e => absurd e (by decide)) (fun e => absurd e (by decide)) (fun e => absurd e (by decide)) (fun e => absurd e (by decide))).up (by omega) (fun e => absurd e (by decide)) (fun e => absurd e (by decide)) (fun e => absurd e (by decide)) (fun e => absurd e (by decide)) (fun _ => nb0 _)
    · intro _
      rw [ur_n (by omega), ur_s, ur_s]
      exact ⟨rfl, rfl⟩
theorem q_take {d T R A n0 n1 q N M c nx : Nat} {L0 L1 : Nat → Ln} {h : pm_Hp} (hd : 11 ≤ d) (F : FS T R A n0 n1 q N M L0 L1 h) (Z : KR T R A c nx h) (I : IM h) (v2 v3 : Int32) : MU d 120 233 [.int v2, .int v3] h := by
  obtain ⟨d, rfl, -⟩ := dpos hd
  have P := F.1.1
  have hT := P.1
  have hR := P.2.1
  rcases hold_cases P v2 with ⟨r, hr, rfl⟩ | ⟨p, hp, rfl, hk⟩ | ⟨x1, x2⟩
  · by_cases gs : ¬ v3 < 0 ∧ v3 < h 170 (362 + r)
    · cases gf : fs h T (nI r) v3 with
      | none =>
        refine MU.no (r := -1) ?_ ?_
        · rw [e_X9_take, c_canOpen_r (by omega) P hr, pm_bd_s, b2_t gs, if_neg (by decide), c_inSlot (by omega) P, pm_bd_s, gf, if_pos o2_n]
        · rw [e_X10_take, m_isSlot_r (by omega) P hr, pm_bd_s, b2_t gs, if_neg (by decide), m_inSlot (by omega) P, pm_bd_s, gf, if_pos o2_n]
      | some t =>
        obtain ⟨⟨t5, t6⟩, -, ht⟩ := fst1_some gf
        have ht : t < T := by omega
        obtain ⟨h2, h4, f1, e170, f2, f3, f4⟩ := take_do (d := d) (by omega) F Z I ht (by rw [t5]; exact fun e => by have := (nI_eq (by omega) (by omega)).mp e; omega)
        have Pg := P.m.eq e170
        refine ⟨nI t, h2, h4, ?_, ?_, f3, Or.inr f4⟩
        · rw [e_X9_take, c_canOpen_r (by omega) P hr, pm_bd_s, b2_t gs, if_neg (by decide), c_inSlot (by omega) P, pm_bd_s, gf, if_neg (o2_m1 (by omega))]
          exact f1
        · rw [e_X10_take, n_isSlot_r (by omega) Pg hr, pm_bd_s, e170, b2_t gs, if_neg (by decide), n_inSlot (by omega) Pg, pm_bd_s, fs_eq e170, gf, if_neg (o2_m1 (by omega)), n_isHolderOut_r (by omega) (by omega), pm_bd_s, if_pos rfl, n_inSlot (by omega) Pg, pm_bd_s, fs_eq e170, gf]
          exact f2
    · refine MU.no (r := -1) ?_ ?_
      · rw [e_X9_take, c_canOpen_r (by omega) P hr, pm_bd_s, b2_f gs, if_pos rfl]
      · rw [e_X10_take, m_isSlot_r (by omega) P hr, pm_bd_s, b2_f gs, if_pos rfl]
  · by_cases gs : isT 4 v3
    · by_cases ga : aw h p
      · refine MU.no (r := -1) ?_ ?_
        · rw [e_X9_take, c_canOpen_t (by omega) P hp hk, pm_bd_s, b2_f (fun z => z.2 ga), if_pos rfl]
        · rw [e_X10_take, m_isSlot_t (by omega) P hp hk, pm_bd_s, b2_t gs, if_neg (by decide), m_inSlot (by omega) P, pm_bd_s]
          cases gf : fs h T (nI (10 + p)) v3 with
          | none => rw [if_pos o2_n]
          | some x =>
            have hx := (fst1_some gf).2.2
            rw [if_neg (o2_m1 (by omega)), n_isHolderOut_t (by omega) P.m hp, pm_bd_s, b2_t ga, if_neg (by decide)]
      · cases gf : fs h T (nI (10 + p)) v3 with
        | none =>
          refine MU.no (r := -1) ?_ ?_
          · rw [e_X9_take, c_canOpen_t (by omega) P hp hk, pm_bd_s, b2_t ⟨gs, ga⟩, if_neg (by decide), c_inSlot (by omega) P, pm_bd_s, gf, if_pos o2_n]
          · rw [e_X10_take, m_isSlot_t (by omega) P hp hk, pm_bd_s, b2_t gs, if_neg (by decide), m_inSlot (by omega) P, pm_bd_s, gf, if_pos o2_n]
        | some t =>
          obtain ⟨⟨t5, t6⟩, -, ht⟩ := fst1_some gf
          have ht : t < T := by omega
          obtain ⟨h2, h4, f1, e170, f2, f3, f4⟩ := take_do (d := d) (by omega) F Z I ht (by rw [t5]; exact fun e => by have := (nI_eq (by omega) (by omega)).mp e; omega)
          have Pg := P.m.eq e170
          refine ⟨nI t, h2, h4, ?_, ?_, f3, Or.inr f4⟩
          · rw [e_X9_take, c_canOpen_t (by omega) P hp hk, pm_bd_s, b2_t ⟨gs, ga⟩, if_neg (by decide), c_inSlot (by omega) P, pm_bd_s, gf, if_neg (o2_m1 (by omega))]
            exact f1
          · rw [e_X10_take, n_isSlot_t (by omega) Pg hp (by rw [wq_eq e170]; exact hk), pm_bd_s, b2_t gs, if_neg (by decide), n_inSlot (by omega) Pg, pm_bd_s, fs_eq e170, gf, if_neg (o2_m1 (by omega)), n_isHolderOut_t (by omega) Pg hp, pm_bd_s, b2_f (by rw [aw_eq e170]; exact ga), if_pos rfl, n_inSlot (by omega) Pg, pm_bd_s, fs_eq e170, gf]
            exact f2
    · refine MU.no (r := -1) ?_ ?_
      · rw [e_X9_take, c_canOpen_t (by omega) P hp hk, pm_bd_s, b2_f (fun z => gs z.1), if_pos rfl]
      · rw [e_X10_take, m_isSlot_t (by omega) P hp hk, pm_bd_s, b2_f gs, if_pos rfl]
  · refine MU.no (r := -1) ?_ ?_
    · rw [e_X9_take, c_canOpen_n (by omega) P x1 x2, pm_bd_s, if_pos rfl]
    · rw [e_X10_take, m_isSlot_n (by omega) P x1 x2 (fun z => sub10 hT z), pm_bd_s, if_pos rfl]
