theorem QW.of {h : pm_Hp} {t : Nat} (W : WT h t) : QW (wq h t) := ⟨W.2.1, W.2.2.1, W.2.2.2.1, W.2.2.2.2.1, W.2.2.2.2.2.1, W.2.2.2.2.2.2⟩
def ur (f0 : Nat) (v : Int32) (u : Nat → Int32) : Nat → Int32 := fun f => if f = f0 then v else u f
theorem ur_s {f0 : Nat} {v : Int32} {u : Nat → Int32} : ur f0 v u f0 = v := if_pos rfl
theorem ur_n {f0 f : Nat} {v : Int32} {u : Nat → Int32} (e : f ≠ f0) : ur f0 v u f = u f := if_neg e
theorem QW.up {u : Nat → Int32} {f0 : Nat} {v : Int32} (hf : f0 < 10) (a1 : f0 = 1 → nb v 20) (a2 : f0 = 2 → nb v 9) (a3 : f0 = 3 → nb v 9) (a4 : f0 = 4 → nb v 999) (a8 : f0 = 8 → nb v 9999) (Q : QW u) : QW (ur f0 v u) := by
  obtain ⟨q1, q2, q3, q4, q5, q6⟩ := Q
  have g : ∀ (f k : Nat), nb (u f) k → (f0 = f → nb v k) → nb (ur f0 v u f) k := fun f k b1 b2 => by
    by_cases e : f = f0
    · rw [e, ur_s]; exact b2 e.symm
    · rw [ur_n e]; exact b1
  refine ⟨g 1 20 q1 a1, g 2 9 q2 a2, g 3 9 q3 a3, g 4 999 q4 a4, g 8 9999 q5 a8, fun m hm => ?_⟩
  rw [ur_n (by omega), ur_n (by omega)]
  exact q6 m hm
theorem CW.up {h hc : pm_Hp} {t g : Nat} {u : Nat → Int32} {v : Int32} (hg : g < 20) (g9 : g ≠ 9) (c : CW t u h hc) : CW t (ur g v u) h (pm_up hc (ta g) (tj g t) v) := fun s f hs hf h9 => by
  rw [up_c hf h9 hg g9, c s f hs hf h9]
  unfold ur
  by_cases a : s = t
  · simp only [a, true_and, if_true]
  · simp only [a, false_and, if_false]
theorem CW.up9 {h hc : pm_Hp} {t g k : Nat} {u : Nat → Int32} {v : Int32} (hg : g < 9) (hk : ta g = k) (c : CW t u h hc) : CW t (ur g v u) h (pm_up hc k t v) := by
  subst hk
  have := c.up (g := g) (v := v) (by omega) (by omega)
  rw [tj_9 hg] at this
  exact this
theorem CW.rf {T R : Nat} {h : pm_Hp} {t : Nat} (P : Pl T R h) (ht : t < T) : CW t (wq h t) h h := fun s f hs hf h9 => by
  by_cases a : s = t
  · rw [if_pos a, a]; exact P.2.2.2.2.2.2.1 t f ht hf h9
  · rw [if_neg a]
theorem CW.o {h hc hc' : pm_Hp} {t : Nat} {u : Nat → Int32} (c : CW t u h hc) (e : ∀ k, 3 ≤ k → k ≤ 13 → hc' k = hc k) : CW t u h hc' := fun s f hs hf h9 => by
  have := ta_in f hf h9
  simp only [List.mem_cons, List.not_mem_nil, or_false] at this
  rw [e (ta f) (by omega) (by omega)]
  exact c s f hs hf h9
theorem RW.up {h hc : pm_Hp} {t g : Nat} {u : Nat → Int32} {v : Int32} (hg : g < 20) (c : RW t u h hc) : RW t (ur g v u) h (pm_up hc 170 (4 + 20 * t + g) v) := fun s f hs hf => by
  show pm_up hc 170 (4 + 20 * t + g) v 170 (4 + 20 * s + f) = _
  rw [up_w hf hg, show hc 170 (4 + 20 * s + f) = _ from c s f hs hf]
  unfold ur
  by_cases a : s = t
  · simp only [a, true_and, if_true]
  · simp only [a, false_and, if_false]
theorem RW.rf {h : pm_Hp} {t : Nat} : RW t (wq h t) h h := fun s f hs hf => by
  by_cases a : s = t
  · rw [if_pos a, a]
  · rw [if_neg a]
theorem RW.to {h hc hc' : pm_Hp} {t : Nat} {u : Nat → Int32} (c : RW t u h hc) (e : ∀ j, 4 ≤ j → j < 324 → hc' 170 j = hc 170 j) : RW t u h hc' := fun s f hs hf => (e _ (by omega) (by omega)).trans (c s f hs hf)
/-- a thing's row told anew -/
theorem TROW {T R A n0 n1 q N M c nx t : Nat} {L0 L1 : Nat → Ln} {h hx hy : pm_Hp} {u : Nat → Int32} (F : FS T R A n0 n1 q N M L0 L1 h) (Z : KR T R A c nx h) (I : IM h) (ht : t < T) (x1 : ∀ k, k < 3 ∨ 14 ≤ k → hx k = h k) (x2 : CW t u h hx) (y1 : ∀ k, k ≠ 170 → hy k = tl hx k) (y2 : RW t u h hy) (y3 : ∀ j, j < 4 ∨ 324 ≤ j → hy 170 j = h 170 j) (u0 : u 0 = wq h t 0) (u5 : u 5 = wq h t 5) (u7 : u 7 = wq h t 7) (u8 : u 8 = wq h t 8) (qw : QW u) : rest h (pm_up hy 169 3 0) ∧ ((pm_up hy 169 3 0) 150 0 = 0 ∧ IV0 (pm_up hy 169 3 0)) := by
  have w : ∀ j, (j < 4 ∨ 324 ≤ j) → (pm_up hy 169 3 0) 170 j = h 170 j := fun j hj => by rw [pm_up_k (by omega)]; exact y3 j hj
  have cc : ∀ k, k ≠ 77 → k ≠ 150 → k ≠ 169 → k ≠ 170 → (pm_up hy 169 3 0) k = hx k := fun k b2 b3 b4 b5 => by rw [pm_up_n b4, y1 k b5, tl_k b2 b3]
  have c2 : ∀ k, k < 3 ∨ (14 ≤ k ∧ k < 77) → (pm_up hy 169 3 0) k = h k := fun k hk => by rw [cc k (by omega) (by omega) (by omega) (by omega), x1 k (by omega)]
  have P := F.1.1
  refine TELL (T' := T) (R' := R) (A' := A) F Z I (hx := hx) (hy := hy) (fun k hk => x1 k (by omega)) (by rw [x1 1 (by omega)]) y1 (fun j hj => y3 j (by omega)) (Nat.le_refl _) ?_ ?_
  · exact F.1.tu ht (y2.to (fun j _ _ => pm_up_k (by omega))) (x2.o (fun k h1 h2 => cc k (by omega) (by omega) (by omega) (by omega))) (c2 1 (by omega)) (c2 14 (by omega)) (c2 15 (by omega)) (fun j h1 h2 => w j (by omega)) u0 (MV.same P ht u0 u5) qw (fun e => by rw [u7, u8]; rw [u5] at e; exact F.1.2.2.2.2 t ht e) (F.1.2.2.1.rg (fun j hj => w j (by omega)) (fun j h1 h2 => by rw [c2 2 (by omega)]))
  · exact F.2.1.rg (fun j h1 h2 => w j (by omega)) (w _ (by omega)) (by rw [c2 1 (by omega)]) (fun j _ => by rw [c2 14 (by omega)])
theorem TROW1 {T R A n0 n1 q N M c nx t f0 k0 : Nat} {L0 L1 : Nat → Ln} {h : pm_Hp} {v : Int32} (F : FS T R A n0 n1 q N M L0 L1 h) (Z : KR T R A c nx h) (I : IM h) (ht : t < T) (hk : ta f0 = k0) (f1 : 1 ≤ f0) (f4 : f0 ≤ 4) (qw : QW (ur f0 v (wq h t))) : rest h (pm_up (pm_up (tl (pm_up h k0 t v)) 170 (4 + 20 * t + f0) v) 169 3 0) ∧ ((pm_up (pm_up (tl (pm_up h k0 t v)) 170 (4 + 20 * t + f0) v) 169 3 0) 150 0 = 0 ∧ IV0 (pm_up (pm_up (tl (pm_up h k0 t v)) 170 (4 + 20 * t + f0) v) 169 3 0)) := by
  have hT := F.1.1.1
  have k1 : 3 ≤ k0 ∧ k0 ≤ 13 := by
    have := ta_in f0 (by omega) (by omega)
    rw [hk] at this
    simp only [List.mem_cons, List.not_mem_nil, or_false] at this
    omega
  refine TROW F Z I ht (hx := pm_up h k0 t v) (u := ur f0 v (wq h t)) (fun k h1 => pm_up_n (by omega)) ((CW.rf F.1.1 ht).up9 (by omega) hk) (fun k h1 => pm_up_n h1) ((RW.rf.to (fun j _ _ => ?_)).up (by omega)) (fun j hj => ?_) (ur_n (by omega)) (ur_n (by omega)) (ur_n (by omega)) (ur_n (by omega)) qw
  · rw [tl_k (by omega) (by omega), pm_up_n (by omega)]
  · rw [pm_up_j (by omega), tl_k (by omega) (by omega), pm_up_n (by omega)]
theorem m_trunkA {d T t : Nat} {h : pm_Hp} (hd : 3 ≤ d) (e : h 170 324 = nI T) (hT : T ≤ 16) (ht : t < T) : pm_ev d 166 [.ref 169, .int (nI t)] h = some (b2 (wq h t 0 = nI 5), h) := by
  obtain ⟨d, rfl, -⟩ := dpos hd
  rw [e_X10_isTrunk, m_isThing (by omega) e hT, pm_bd_s, b2_t (isT_of (by omega) ht), if_neg (by decide), m_of0 (by omega) h (nI t) 0 t 0 rfl rfl (by omega) (by omega), pm_bd_s]
  unfold b2
  split <;> rfl
theorem m_actorA {d A : Nat} {h : pm_Hp} (hd : 2 ≤ d) (e : h 170 325 = nI A) (hA : A ≤ 6) (v : Int32) : pm_ev d 162 [.ref 169, .int v] h = some (b2 (isT A v), h) := by
  obtain ⟨d, rfl, -⟩ := dpos hd
  rw [e_X10_isActor, m_isIn (by omega), pm_bd_s, pm_bw_b2, e]
  simp only [le_prd v (show A < 2 ^ 30 by omega)]
theorem q_measure {d T R A n0 n1 q N M c nx : Nat} {L0 L1 : Nat → Ln} {h : pm_Hp} (hd : 5 ≤ d) (F : FS T R A n0 n1 q N M L0 L1 h) (Z : KR T R A c nx h) (I : IM h) (v1 v2 v3 v4 : Int32) : MU d 110 173 [.int v1, .int v2, .int v3, .int v4] h := by
  obtain ⟨d, rfl, -⟩ := dpos hd
  have P := F.1.1
  have Q := F.2.1
  have hT := P.1
  have hA := Q.1
  by_cases g3 : isT 5 v3
  · by_cases g4 : ¬ v4 < 0 ∧ v4 ≤ nI 99
    · obtain ⟨m, hm, rfl⟩ := isT_ex (by omega) g3
      have n4 : nb v4 99 := kd_ex (by omega) g4
      by_cases g1 : v1 = 0
      · by_cases g2 : isT T v2
        · obtain ⟨t, ht, rfl⟩ := isT_ex (by omega) g2
          by_cases gk : wq h t 0 = nI 5
          · refine MU.no (r := 0) ?_ ?_
            · rw [e_X9_measure, if_pos g1, c_isWearable_y (by omega) P ht, pm_bd_s, b2_f (fun e => e gk), if_pos rfl]
            · rw [e_X10_measure, m_isIn (by omega), pm_bd_s, b2_t (by rw [isT5]; exact g3), if_neg (by decide), m_isIn (by omega), pm_bd_s, b2_t g4, if_neg (by decide), if_pos g1, m_isThing (by omega) P.2.2.1 hT, pm_bd_s, b2_t g2, if_neg (by decide), m_isTrunk_y (by omega) P ht, pm_bd_s, b2_t gk, if_neg (by decide)]
          · have e1 : pm_ev (d + 1) 110 [.ref 0, .int v1, .int (nI t), .int (nI m), .int v4] h = some (1, tl (pm_up (pm_up h 13 (t * 5 + m) v4) 10 (t * 5 + m) v4)) := by
              rw [e_X9_measure, if_pos g1, c_isWearable_y (by omega) P ht, pm_bd_s, b2_t gk, if_neg (by decide), c_isMeasure (by omega), pm_bd_s, b2_t g3, if_neg (by decide), if_neg g4.1, if_pos g4.2, if_pos g1, pm_at_n (j := t * 5 + m) (by rw [pk_mul, nI_add]) (by omega) (by omega), pm_at_n (j := t * 5 + m) (by rw [pk_mul, nI_add]) (by omega) (by omega), c_forget (by omega), pm_bd_s]
            have z : ∀ k, k ≠ 13 → k ≠ 10 → k ≠ 77 → k ≠ 150 → tl (pm_up (pm_up h 13 (t * 5 + m) v4) 10 (t * 5 + m) v4) k = h k := fun k b1 b0 b2 b3 => by rw [tl_k b2 b3, pm_up_n b0, pm_up_n b1]
            have e2 : pm_ev (d + 1) 173 [.ref 169, .int v1, .int (nI t), .int (nI m), .int v4] (tl (pm_up (pm_up h 13 (t * 5 + m) v4) 10 (t * 5 + m) v4)) = some (1, pm_up (pm_up (pm_up (tl (pm_up (pm_up h 13 (t * 5 + m) v4) 10 (t * 5 + m) v4)) 170 (4 + 20 * t + (10 + m)) v4) 170 (4 + 20 * t + (15 + m)) v4) 169 3 0) := by
              rw [e_X10_measure, m_isIn (by omega), pm_bd_s, b2_t (by rw [isT5]; exact g3), if_neg (by decide), m_isIn (by omega), pm_bd_s, b2_t g4, if_neg (by decide), if_pos g1, m_isThing (by omega) (by rw [z 170 (by omega) (by omega) (by omega) (by omega)]; exact P.2.2.1) hT, pm_bd_s, b2_t g2, if_neg (by decide), m_trunkA (by omega) (by rw [z 170 (by omega) (by omega) (by omega) (by omega)]; exact P.2.2.1) hT ht, pm_bd_s, b2_f (by rw [wq_eq (z 170 (by omega) (by omega) (by omega) (by omega))]; exact gk), if_pos rfl, if_pos g1, m_things (by omega) _ (nI t) (nI 10 + nI m) v4 t (10 + m) rfl (by rw [nI_add]) (by omega) (by omega), pm_bd_s, m_things (by omega) _ (nI t) (nI 15 + nI m) v4 t (15 + m) rfl (by rw [nI_add]) (by omega) (by omega), pm_bd_s, m_forgets (by omega), pm_bd_s]
            have ex : pm_up (pm_up h 13 (t * 5 + m) v4) 10 (t * 5 + m) v4 = pm_up (pm_up h (ta (10 + m)) (tj (10 + m) t) v4) (ta (15 + m)) (tj (15 + m) t) v4 := by rw [ta_13 (by omega) (by omega), tj_13 (by omega) (by omega), ta_10 (by omega), tj_10 (by omega), Nat.add_sub_cancel_left, Nat.add_sub_cancel_left]
            have tt := TROW F Z I ht (hx := pm_up (pm_up h 13 (t * 5 + m) v4) 10 (t * 5 + m) v4) (u := ur (15 + m) v4 (ur (10 + m) v4 (wq h t))) (fun k h1 => by rw [pm_up_n (by omega), pm_up_n (by omega)]) (by rw [ex]; exact ((CW.rf P ht).up (by omega) (by omega)).up (by omega) (by omega)) (hy := pm_up (pm_up (tl (pm_up (pm_up h 13 (t * 5 + m) v4) 10 (t * 5 + m) v4)) 170 (4 + 20 * t + (10 + m)) v4) 170 (4 + 20 * t + (15 + m)) v4) (fun k h1 => by rw [pm_up_n h1, pm_up_n h1]) (((RW.rf.to (fun j _ _ => by rw [z 170 (by omega) (by omega) (by omega) (by omega)])).up (by omega)).up (by omega)) (fun j hj => by rw [pm_up_j (by omega), pm_up_j (by omega), z 170 (by omega) (by omega) (by omega) (by omega)]) (by rw [ur_n (by omega), ur_n (by omega)]) (by rw [ur_n (by omega), ur_n (by omega)]) (by rw [ur_n (by omega), ur_n (by omega)]) (by rw [ur_n (by omega), ur_n (by omega)]) ?_
            · exact ⟨1, _, _, e1, e2, tt.1, Or.inr tt.2⟩
            · obtain ⟨-, w2, w3, w4, w5, w6, w7⟩ := F.1.2.1 t ht
              refine ⟨?_, ?_, ?_, ?_, ?_, fun m' hm' => ?_⟩
              · rw [ur_n (by omega), ur_n (by omega)]; exact w2
              · rw [ur_n (by omega), ur_n (by omega)]; exact w3
              · rw [ur_n (by omega), ur_n (by omega)]; exact w4
              · rw [ur_n (by omega), ur_n (by omega)]; exact w5
              · rw [ur_n (by omega), ur_n (by omega)]; exact w6
              · by_cases e : m' = m
                · subst e
                  rw [ur_s, ur_n (by omega), ur_s]
                  exact ⟨n4, n4, Iff.rfl⟩
                · rw [ur_n (by omega), ur_n (by omega), ur_n (by omega), ur_n (by omega)]
                  exact w7 m' hm'
        · refine MU.no (r := 0) ?_ ?_
          · rw [e_X9_measure, if_pos g1, c_isWearable_n (by omega) P g2, pm_bd_s, if_pos rfl]
          · rw [e_X10_measure, m_isIn (by omega), pm_bd_s, b2_t (by rw [isT5]; exact g3), if_neg (by decide), m_isIn (by omega), pm_bd_s, b2_t g4, if_neg (by decide), if_pos g1, m_isThing (by omega) P.2.2.1 hT, pm_bd_s, b2_f g2, if_pos rfl]
      · by_cases g2 : isT A v2
        · obtain ⟨a, ha, rfl⟩ := isT_ex (by omega) g2
          have e1 : pm_ev (d + 1) 110 [.ref 0, .int v1, .int (nI a), .int (nI m), .int v4] h = some (1, tl (pm_up h 14 (a * 5 + m) v4)) := by
            rw [e_X9_measure, if_neg g1, c_isActor (by omega) Q, pm_bd_s, b2_t g2, if_neg (by decide), c_isMeasure (by omega), pm_bd_s, b2_t g3, if_neg (by decide), if_neg g4.1, if_pos g4.2, if_neg g1, pm_at_n (j := a * 5 + m) (by rw [pk_mul, nI_add]) (by omega) (by omega), c_forget (by omega), pm_bd_s]
          have z : ∀ k, k ≠ 14 → k ≠ 77 → k ≠ 150 → tl (pm_up h 14 (a * 5 + m) v4) k = h k := fun k b1 b2 b3 => by rw [tl_k b2 b3, pm_up_n b1]
          generalize hz : tl (pm_up h 14 (a * 5 + m) v4) = g1' at e1 z
          have e2 : pm_ev (d + 1) 173 [.ref 169, .int v1, .int (nI a), .int (nI m), .int v4] g1' = some (1, pm_up (pm_up g1' 170 (332 + 5 * a + m) v4) 169 3 0) := by
            rw [e_X10_measure, m_isIn (by omega), pm_bd_s, b2_t (by rw [isT5]; exact g3), if_neg (by decide), m_isIn (by omega), pm_bd_s, b2_t g4, if_neg (by decide), if_neg g1, m_actorA (A := A) (by omega) (by rw [z 170 (by omega) (by omega) (by omega)]; exact Q.2.1) hA, pm_bd_s, b2_t g2, if_neg (by decide), if_neg g1, pm_at_n (j := 332 + 5 * a + m) (by rw [pk_mul, nI_add, nI_add]) (by omega) (by omega), m_forgets (by omega), pm_bd_s]
          have w : ∀ j, j ≠ 332 + 5 * a + m → (pm_up (pm_up g1' 170 (332 + 5 * a + m) v4) 169 3 0) 170 j = h 170 j := fun j hj => by rw [pm_up_k (by omega), pm_up_j hj, z 170 (by omega) (by omega) (by omega)]
          have cc : ∀ k, k ≠ 14 → k ≠ 77 → k ≠ 150 → k ≠ 169 → k ≠ 170 → (pm_up (pm_up g1' 170 (332 + 5 * a + m) v4) 169 3 0) k = h k := fun k b0 b2 b3 b4 b5 => by rw [pm_up_n b4, pm_up_n b5, z k b0 b2 b3]
          have c14 : ∀ j, (pm_up (pm_up g1' 170 (332 + 5 * a + m) v4) 169 3 0) 14 j = pm_up h 14 (a * 5 + m) v4 14 j := fun j => by rw [pm_up_k (by omega), pm_up_k (by omega), ← hz, tl_k (by omega) (by omega)]
          have t := TELL (T' := T) (R' := R) (A' := A) F Z I (hx := pm_up h 14 (a * 5 + m) v4) (hy := pm_up g1' 170 (332 + 5 * a + m) v4) (fun k hk => pm_up_n (by omega)) (by rw [pm_up_k (by omega)]) (fun k hk => by rw [pm_up_n hk, hz]) (fun j hj => by rw [pm_up_j (by omega), z 170 (by omega) (by omega) (by omega)]) (Nat.le_refl _) (F.1.g (Nat.le_refl _) P.2.1 (Nat.le_refl _) (fun j h1 h2 => w j (by omega)) (by rw [cc 1 (by omega) (by omega) (by omega) (by omega) (by omega)]) (by rw [w _ (by omega)]; exact P.2.2.2.2.1) (by rw [cc 1 (by omega) (by omega) (by omega) (by omega) (by omega)]; exact P.hR) (fun r hr => by
              have hR := P.2.1
              rw [cc 15 (by omega) (by omega) (by omega) (by omega) (by omega), w _ (by omega)]; exact P.rack hr) (fun k h1 h2 => cc k (by omega) (by omega) (by omega) (by omega) (by omega)) (fun j hj => by rw [c14, pm_up_j (by omega)]) (F.1.2.2.1.rg (fun j hj => w j (by omega)) (fun j h1 h2 => by rw [cc 2 (by omega) (by omega) (by omega) (by omega) (by omega)]))) ⟨hA, by rw [w _ (by omega)]; exact Q.2.1, by rw [cc 1 (by omega) (by omega) (by omega) (by omega) (by omega)]; exact Q.2.2.1, fun a' m' ha' hm' => ?_⟩
          · exact ⟨1, _, _, e1, e2, t.1, Or.inr t.2⟩
          · rw [c14]
            by_cases e : a' = a ∧ m' = m
            · rw [e.1, e.2, pm_up_s, pm_up_k (by omega), pm_up_s]
              exact ⟨rfl, n4⟩
            · rw [pm_up_j (by omega), w _ (by omega)]
              exact Q.2.2.2 a' m' ha' hm'
        · refine MU.no (r := 0) ?_ ?_
          · rw [e_X9_measure, if_neg g1, c_isActor (by omega) Q, pm_bd_s, b2_f g2, if_pos rfl]
          · rw [e_X10_measure, m_isIn (by omega), pm_bd_s, b2_t (by rw [isT5]; exact g3), if_neg (by decide), m_isIn (by omega), pm_bd_s, b2_t g4, if_neg (by decide), if_neg g1, m_isActor (by omega) Q, pm_bd_s, b2_f g2, if_pos rfl]
    · refine MU.no (r := 0) ?_ ?_
      · rw [e_X9_measure]
        by_cases g1 : v1 = 0
        · rw [if_pos g1]
          by_cases g2 : isT T v2
          · obtain ⟨t, ht, rfl⟩ := isT_ex (by omega) g2
            rw [c_isWearable_y (by omega) P ht, pm_bd_s]
            by_cases gk : wq h t 0 = nI 5
            · rw [b2_f (fun e => e gk), if_pos rfl]
            · rw [b2_t gk, if_neg (by decide), c_isMeasure (by omega), pm_bd_s, b2_t g3, if_neg (by decide)]
              by_cases a : v4 < 0
              · rw [if_pos a]
              · rw [if_neg a, if_neg (fun b => g4 ⟨a, b⟩)]
          · rw [c_isWearable_n (by omega) P g2, pm_bd_s, if_pos rfl]
        · rw [if_neg g1, c_isActor (by omega) Q, pm_bd_s]
          by_cases g2 : isT A v2
          · rw [b2_t g2, if_neg (by decide), c_isMeasure (by omega), pm_bd_s, b2_t g3, if_neg (by decide)]
            by_cases a : v4 < 0
            · rw [if_pos a]
            · rw [if_neg a, if_neg (fun b => g4 ⟨a, b⟩)]
          · rw [b2_f g2, if_pos rfl]
      · rw [e_X10_measure, m_isIn (by omega), pm_bd_s, b2_t (by rw [isT5]; exact g3), if_neg (by decide), m_isIn (by omega), pm_bd_s, b2_f g4, if_pos rfl]
  · refine MU.no (r := 0) ?_ ?_
    · rw [e_X9_measure]
      by_cases g1 : v1 = 0
      · rw [if_pos g1]
        by_cases g2 : isT T v2
        · obtain ⟨t, ht, rfl⟩ := isT_ex (by omega) g2
          rw [c_isWearable_y (by omega) P ht, pm_bd_s]
          by_cases gk : wq h t 0 = nI 5
          · rw [b2_f (fun e => e gk), if_pos rfl]
          · rw [b2_t gk, if_neg (by decide), c_isMeasure (by omega), pm_bd_s, b2_f g3, if_pos rfl]
        · rw [c_isWearable_n (by omega) P g2, pm_bd_s, if_pos rfl]
      · rw [if_neg g1, c_isActor (by omega) Q, pm_bd_s]
        by_cases g2 : isT A v2
        · rw [b2_t g2, if_neg (by decide), c_isMeasure (by omega), pm_bd_s, b2_f g3, if_pos rfl]
        · rw [b2_f g2, if_pos rfl]
    · rw [e_X10_measure, m_isIn (by omega), pm_bd_s, b2_f (by rw [isT5]; exact g3), if_pos rfl]
