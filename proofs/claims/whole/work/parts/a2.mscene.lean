section
variable {tp : Nat → Nat} {n K : Nat}
noncomputable def wone (c v : Nat → Nat) (A s : Nat) (w : Wr) (k : Nat) : Rw := if w.1 = 6 then .inl (3, k) else if c (k + 1) = 2 then (if v (k + 1) < A then ck (insc w s (v (k + 1))) (.inl (3, k + 1)) (if 219 ≤ c (k + 2) ∧ c (k + 2) ≤ 223 then .inr (wadd w (s, v (k + 1), c (k + 2) - 219), k + 3) else .inl (1, k + 2)) else .inl (2, k + 1)) else .inl (1, k + 1)
theorem wrf_one {c v : Nat → Nat} {A s f k : Nat} {w : Wr} (h : c k = 218) : wrf c v A s (f + 1) w k = rl (wone c v A s w k) (fun q => wrf c v A s f q.1 q.2) := by
  unfold wone
  rw [wrf, if_pos h]
  by_cases g1 : w.1 = 6
  · rw [if_pos g1, if_pos g1]; rfl
  rw [if_neg g1, if_neg g1]
  by_cases g2 : c (k + 1) = 2
  · rw [if_pos g2, if_pos g2]
    by_cases g3 : v (k + 1) < A
    · rw [if_pos g3, if_pos g3]
      by_cases g4 : insc w s (v (k + 1))
      · rw [ck_t g4, ck_t g4]; rfl
      · rw [ck_f g4, ck_f g4]
        by_cases g5 : 219 ≤ c (k + 2) ∧ c (k + 2) ≤ 223
        · rw [if_pos g5, if_pos g5]; rfl
        · rw [if_neg g5, if_neg g5]; rfl
    · rw [if_neg g3, if_neg g3]; rfl
  · rw [if_neg g2, if_neg g2]; rfl
def ON (tp : Nat → Nat) (n s A : Nat) (h h' : pm_Hp) (q : Int32) (R : Rw) : Prop := match R with
  | .inl e => NB tp n h' q e
  | .inr p => q = 1 ∧ MT2 tp n p.2 h' ∧ MWr p.1 h' ∧ WI p.1 (s + 1) A ∧ h' 169 16 = nI s ∧ h' 175 = h 175
theorem m_aWear {d A s k : Nat} {w : Wr} {h : pm_Hp} (hd : 9 ≤ d) (B : HB2 tp n K) (S : MT2 tp n k h) (I : WI w (s + 1) A) (hA : A ≤ 6) (hs : s < 6) (W : MWr w h) (e16 : h 169 16 = nI s) (eA : h 170 325 = nI A) : ∃ q h', pm_ev d 201 [.ref 169] h = some (q, h') ∧ FT h h' ∧ ON tp n s A h h' q (wone (tc tp n) (tv tp n) A s w k) := by
  obtain ⟨d, rfl, -⟩ := dpos hd
  have hK := B.2.2.1
  have w6 := I.1
  unfold wone
  rw [e_X10_aWear, W.1, nI_ite (by omega) (by omega)]
  by_cases g1 : w.1 = 6
  · obtain ⟨h1, a1, a2, a3⟩ := n_bad (e := 3) (d := d) (by omega) S
    rw [if_pos g1, if_pos g1, a1, pm_bd_s, pm_bw_0]
    exact ⟨0, h1, rfl, a2, a3⟩
  · obtain ⟨y, a1, a2, a3⟩ := n_nx (d := d) (by omega) B S
    have yA : y 170 325 = nI A := by rw [a2.1 170 (by omega)]; exact eA
    have y16 : y 169 16 = nI s := by rw [a2.2 16 (by omega)]; exact e16
    have Wy : MWr w y := ⟨by rw [a2.2 17 (by omega)]; exact W.1, fun i hi => by rw [a2.1 176 (by omega)]; exact W.2 i hi⟩
    have c31 := hK.2.2.2.1 (k + 1)
    have v31 := (hK.2.2.2.2.2 (k + 1)).1
    obtain ⟨t1, t2, t3, -⟩ := mt2 c31
    have P : nI (tv tp n (k + 1)) ≤ nI A - 1 ↔ tv tp n (k + 1) < A := le_m1 (by omega) (by omega)
    obtain ⟨n1, n2, n3⟩ := n_num (d := d) (b := nI A - 1) (by omega) B a3 P
    have tail : (tc tp n (k + 1) = 2 → tv tp n (k + 1) < A → ¬ insc w s (tv tp n (k + 1))) → ∃ q h', (pm_bd (pm_ev d 199 [.ref 169, .int 0, .int ((y 170 325) - 1)] y) fun r4 y4 => if r4 = 0 then (some ((0 : Int32), y4)) else (pm_at (((nI 3) * (nI w.1)) + 0) 24 fun j1 => pm_at (((nI 3) * (nI w.1)) + 1) 24 fun j2 => pm_bd (pm_ev d 157 [.int (y4 169 20), .int (nI 10), .int (nI 14)] (pm_up (pm_up y4 176 j1 (y4 169 16)) 176 j2 (y4 169 28))) fun r5 y5 => if r5 = 0 then (pm_bd (pm_ev d 187 [.ref 169, .int 1] y5) fun r6 y6 => pm_bw r6 (some (r6, y6))) else (pm_at (((nI 3) * (nI w.1)) + (nI 2)) 24 fun j3 => pm_bd (pm_ev d 186 [.ref 169] (pm_up y5 176 j3 ((y5 169 20) - (nI 10)))) fun _ y7 => some (1, (pm_up y7 169 17 ((y7 169 17) + 1)))))) = some (q, h') ∧ FT h h' ∧ ON tp n s A h h' q (if tc tp n (k + 1) = 2 then (if tv tp n (k + 1) < A then ck (insc w s (tv tp n (k + 1))) (.inl (3, k + 1)) (if 219 ≤ tc tp n (k + 2) ∧ tc tp n (k + 2) ≤ 223 then .inr (wadd w (s, tv tp n (k + 1), tc tp n (k + 2) - 219), k + 3) else .inl (1, k + 2)) else .inl (2, k + 1)) else .inl (1, k + 1)) := fun ni => by
      rw [yA]
      by_cases g2 : tc tp n (k + 1) = 2
      · rw [if_pos g2]
        by_cases g3 : tv tp n (k + 1) < A
        · obtain ⟨h1, b1, b2_, b3, b4, b5, b6, b7⟩ := n1 g2 g3
          rw [if_pos g3, ck_f (ni g2 g3), b1, pm_bd_s, if_neg (by decide), pk_mul, show (0 : Int32) = nI 0 from rfl, nI_add, nI_1, nI_add, pm_at_c (by omega) (by omega), pm_at_c (by omega) (by omega), Nat.add_zero, b4, b5 16 (by omega), y16]
          have c32 := hK.2.2.2.1 (k + 1 + 1)
          obtain ⟨u1, u2, u3, u4, u5, u6, u7, u8⟩ := mt2 c32
          have t20 : h1 169 20 = nI (mt 2 (tc tp n (k + 1 + 1))) := b3.tok
          rw [t20, m_isIn3 (by omega) (by omega) (by omega) (by omega), pm_bd_s]
          generalize hg : pm_up (pm_up h1 176 (3 * w.1) (nI s)) 176 (3 * w.1 + 1) (nI (tv tp n (k + 1))) = g
          have gj : ∀ j, g 169 j = h1 169 j := fun j => by rw [← hg, pm_up_k (by omega), pm_up_k (by omega)]
          have go : ∀ a, a ≠ 176 → g a = h1 a := fun a x => by rw [← hg, pm_up_n x, pm_up_n x]
          have Sg : MT2 tp n (k + 1 + 1) g := b3.to (fun j _ => gj j) (go 177 (by omega))
          have Fg : FT h g := by rw [← hg]; exact ((a2.ft.tr b2_).ro (by omega)).ro (by omega)
          by_cases g4 : 219 ≤ tc tp n (k + 2) ∧ tc tp n (k + 2) ≤ 223
          · have g4' : 219 ≤ tc tp n (k + 1 + 1) ∧ tc tp n (k + 1 + 1) ≤ 223 := g4
            rw [b2_t (u7.mpr g4'), if_neg (by decide), if_pos g4, pm_at_c (by omega) (by omega), gj 20, t20, u8 g4', pk_sub (by omega), Nat.add_sub_cancel_left]
            have Sg2 : MT2 tp n (k + 1 + 1) (pm_up g 176 (3 * w.1 + 2) (nI (tc tp n (k + 1 + 1) - 219))) := Sg.to (fun j _ => pm_up_k (by omega)) (pm_up_n (by omega))
            obtain ⟨h2, c1, c2, c3⟩ := n_nx (d := d) (by omega) B Sg2
            have h17 : h2 169 17 = nI w.1 := by rw [c2.2 17 (by omega), pm_up_k (by omega), gj 17, b5 17 (by omega)]; exact Wy.1
            rw [c1, pm_bd_s, h17, nI_1]
            refine ⟨1, _, rfl, ((Fg.ro (by omega)).tr c2.ft).up (by omega), rfl, c3.to (fun j _ => pm_up_j (by omega)) (pm_up_n (by omega)), ⟨by rw [pm_up_s]; rfl, fun i hi => ?_⟩, I.add (by omega) (by omega) g3 (by omega), by rw [pm_up_j (by omega), c2.2 16 (by omega), pm_up_k (by omega), gj 16, b5 16 (by omega)]; exact y16, by rw [pm_up_n (by omega), c2.1 175 (by omega), pm_up_n (by omega), go 175 (by omega), b6, a2.1 175 (by omega)]⟩
            have hi : i < w.1 + 1 := hi
            have e6 : ∀ j, pm_up h2 169 17 (nI (w.1 + 1)) 176 j = pm_up g 176 (3 * w.1 + 2) (nI (tc tp n (k + 1 + 1) - 219)) 176 j := fun j => by rw [pm_up_n (by omega), c2.1 176 (by omega)]
            rw [e6, e6, e6]
            by_cases ei : i = w.1
            · rw [ei]
              show _ = nI ((wadd w (s, tv tp n (k + 1), tc tp n (k + 2) - 219)).2 w.1).1 ∧ _ = nI ((wadd w (s, tv tp n (k + 1), tc tp n (k + 2) - 219)).2 w.1).2.1 ∧ _ = nI ((wadd w (s, tv tp n (k + 1), tc tp n (k + 2) - 219)).2 w.1).2.2
              rw [wadd_s, pm_up_s, pm_up_j (by omega), pm_up_j (by omega), ← hg, pm_up_s, pm_up_j (by omega), pm_up_s]
              exact ⟨rfl, rfl, rfl⟩
            · show _ = nI ((wadd w (s, tv tp n (k + 1), tc tp n (k + 2) - 219)).2 i).1 ∧ _ = nI ((wadd w (s, tv tp n (k + 1), tc tp n (k + 2) - 219)).2 i).2.1 ∧ _ = nI ((wadd w (s, tv tp n (k + 1), tc tp n (k + 2) - 219)).2 i).2.2
              have e7 : ∀ j, j < 3 * w.1 → pm_up g 176 (3 * w.1 + 2) (nI (tc tp n (k + 1 + 1) - 219)) 176 j = y 176 j := fun j hj => by rw [pm_up_j (by omega), ← hg, pm_up_j (by omega), pm_up_j (by omega), b7]
              rw [wadd_o ei, e7 _ (by omega), e7 _ (by omega), e7 _ (by omega)]
              exact Wy.2 i (by omega)
          · have g4' : ¬ (219 ≤ tc tp n (k + 1 + 1) ∧ tc tp n (k + 1 + 1) ≤ 223) := g4
            obtain ⟨h2, c1, c2, c3⟩ := n_bad (e := 1) (d := d) (by omega) Sg
            rw [b2_f (fun z => g4' (u7.mp z)), if_pos nI_0.symm, if_neg g4, show (1 : Int32) = nI 1 from rfl, c1, pm_bd_s, pm_bw_0]
            exact ⟨0, h2, rfl, Fg.tr c2, c3⟩
        · obtain ⟨h1, b1, b2_, b3⟩ := n2 g2 g3
          rw [if_neg g3, b1, pm_bd_s, if_pos rfl]
          exact ⟨0, h1, rfl, a2.ft.tr b2_, b3⟩
      · obtain ⟨h1, b1, b2_, b3⟩ := n3 g2
        rw [if_neg g2, b1, pm_bd_s, if_pos rfl]
        exact ⟨0, h1, rfl, a2.ft.tr b2_, b3⟩
    rw [if_neg g1, if_neg g1, a1, pm_bd_s, a3.tok, nI_ite (by omega) (by omega)]
    by_cases g2 : tc tp n (k + 1) = 2
    · have v22 : y 169 22 = nI (tv tp n (k + 1)) := a3.2.2.2.2.2 g2
      rw [if_pos (t3.mpr g2), m_isIn (by omega), pm_bd_s, yA, v22]
      by_cases g3 : tv tp n (k + 1) < A
      · rw [b2_t ⟨nI_pos (by omega), P.mpr g3⟩, if_neg (by decide)]
        obtain ⟨i1, i2⟩ := n_insc (d := d) (s := s) (a := tv tp n (k + 1)) (by omega) I (by omega) hA Wy y16 (by omega) v31
        by_cases g4 : insc w s (tv tp n (k + 1))
        · obtain ⟨h2, c1, c2, c3⟩ := n_bad (e := 3) (d := d) (by omega) a3
          rw [i1 g4, pm_bd_s, if_neg (by decide), if_pos g2, if_pos g3, ck_t g4, c1, pm_bd_s, pm_bw_0]
          exact ⟨0, h2, rfl, a2.ft.tr c2, c3⟩
        · have := tail (fun _ _ => g4)
          rw [yA] at this
          rw [i2 g4, pm_bd_s, if_pos rfl, yA]
          exact this
      · have := tail (fun _ z => absurd z g3)
        rw [yA] at this
        rw [b2_f (fun z => g3 (P.mp z.2)), if_pos rfl]
        exact this
    · rw [if_neg (by rw [t3]; exact g2)]
      exact tail (fun z => absurd z g2)
/-- the wears of a scene and its end -/
def OE (tp : Nat → Nat) (n s A : Nat) (h h' : pm_Hp) (q : Int32) (R : Rw) : Prop := match R with
  | .inl e => NB tp n h' q e
  | .inr p => q = 1 ∧ MT2 tp n p.2 h' ∧ MWr p.1 h' ∧ WI p.1 (s + 1) A ∧ h' 169 16 = nI (s + 1) ∧ h' 175 = h 175
theorem n_need {d k : Nat} {h : pm_Hp} (hd : 8 ≤ d) (B : HB2 tp n K) (S : MT2 tp n k h) : (tc tp n k = 59 → ∃ h', pm_ev d 188 [.ref 169, .int (nI 159)] h = some (1, h') ∧ FN h h' ∧ MT2 tp n (k + 1) h') ∧ (tc tp n k ≠ 59 → ∃ h', pm_ev d 188 [.ref 169, .int (nI 159)] h = some (0, h') ∧ FT h h' ∧ NB tp n h' 0 (1, k)) := by
  obtain ⟨d, rfl, -⟩ := dpos hd
  obtain ⟨u1, u2, u3, u4, u5, u6, u7, u8⟩ := mt2 (B.2.2.1.2.2.2.1 k)
  refine ⟨fun g => ?_, fun g => ?_⟩
  · obtain ⟨h1, a1, a2, a3⟩ := n_nx (d := d) (by omega) B S
    exact ⟨h1, by rw [e_X10_need, if_pos (by rw [S.tok, u6.mpr g]), a1, pm_bd_s], a2, a3⟩
  · obtain ⟨h1, a1, a2, a3⟩ := n_bad (e := 1) (d := d) (by omega) S
    exact ⟨h1, by rw [e_X10_need, if_neg (by rw [S.tok, nI_eq (by omega) (by omega), u6]; exact g), show (1 : Int32) = nI 1 from rfl, a1, pm_bd_s, pm_bw_0], a2, a3⟩
theorem m_wearsL {d A s : Nat} (hd : 9 ≤ d) (B : HB2 tp n K) (hA : A ≤ 6) (hs : s < 6) : ∀ (f : Nat) (w : Wr) (k : Nat) (h : pm_Hp), f + w.1 = 7 → WI w (s + 1) A → MT2 tp n k h → MWr w h → h 169 16 = nI s → h 170 325 = nI A → ∃ q h', pm_rn d kX10_aScene 59 [.ref 169] [] h = some (q, h') ∧ FT h h' ∧ OE tp n s A h h' q (rl (wrf (tc tp n) (tv tp n) A s f w k) (fun q => if tc tp n q.2 = 59 then .inr (q.1, q.2 + 1) else .inl (1, q.2))) := by
  have hK := B.2.2.1
  intro f
  induction f with
  | zero => intro w k h hf I; have := I.1; omega
  | succ f ih =>
    intro w k h hf I S W e16 eA
    obtain ⟨u1, u2, u3, u4, u5, u6, u7, u8⟩ := mt2 (hK.2.2.2.1 k)
    rw [b_X10_aScene_59, S.tok, nI_ite (by omega) (by omega)]
    by_cases g1 : tc tp n k = 218
    · obtain ⟨q, h1, a1, a2, a3⟩ := m_aWear (d := d) hd B S I hA hs W e16 eA
      rw [if_pos (u5.mpr g1), a1, pm_bd_s, wrf_one g1]
      cases hR : wone (tc tp n) (tv tp n) A s w k with
      | inl e =>
        rw [hR] at a3
        rw [if_pos a3.1]
        exact ⟨0, h1, rfl, a2, rfl, a3.2⟩
      | inr p =>
        rw [hR] at a3
        obtain ⟨x1, x2, x3, x4, x5, x6⟩ := a3
        have pf : p.1.1 = w.1 + 1 := by
          unfold wone at hR
          by_cases c1 : w.1 = 6
          · rw [if_pos c1] at hR; cases hR
          rw [if_neg c1] at hR
          by_cases c2 : tc tp n (k + 1) = 2
          · rw [if_pos c2] at hR
            by_cases c3 : tv tp n (k + 1) < A
            · rw [if_pos c3] at hR
              by_cases c4 : insc w s (tv tp n (k + 1))
              · rw [ck_t c4] at hR; cases hR
              · rw [ck_f c4] at hR
                by_cases c5 : 219 ≤ tc tp n (k + 2) ∧ tc tp n (k + 2) ≤ 223
                · rw [if_pos c5] at hR
                  rw [← Sum.inr.inj hR]; rfl
                · rw [if_neg c5] at hR; cases hR
            · rw [if_neg c3] at hR; cases hR
          · rw [if_neg c2] at hR; cases hR
        rw [if_neg (by rw [x1]; decide)]
        obtain ⟨q2, h2, b1, b2_, b3⟩ := ih p.1 p.2 h1 (by omega) x4 x2 x3 x5 (by rw [a2.1 170 (by omega) (by omega) (by omega)]; exact eA)
        refine ⟨q2, h2, b1, a2.tr b2_, ?_⟩
        show OE tp n s A h h2 q2 (rl (wrf (tc tp n) (tv tp n) A s f p.1 p.2) _)
        cases hR2 : rl (wrf (tc tp n) (tv tp n) A s f p.1 p.2) (fun q => if tc tp n q.2 = 59 then (.inr (q.1, q.2 + 1) : Rw) else .inl (1, q.2)) with
        | inl e => rw [hR2] at b3; exact b3
        | inr q =>
          rw [hR2] at b3
          obtain ⟨y1, y2, y3, y4, y5, y6⟩ := b3
          exact ⟨y1, y2, y3, y4, y5, y6.trans x6⟩
    · rw [if_neg (by rw [u5]; exact g1), show wrf (tc tp n) (tv tp n) A s (f + 1) w k = .inr (w, k) by rw [wrf, if_neg g1], e16, nI_1]
      have S1 : MT2 tp n k (pm_up h 169 16 (nI (s + 1))) := S.to (fun j _ => pm_up_j (by omega)) (pm_up_n (by omega))
      obtain ⟨n1, n2⟩ := n_need (d := d) (by omega) B S1
      show ∃ q h', _ ∧ FT h h' ∧ OE tp n s A h h' q (if tc tp n k = 59 then .inr (w, k + 1) else .inl (1, k))
      by_cases g2 : tc tp n k = 59
      · obtain ⟨h1, a1, a2, a3⟩ := n1 g2
        rw [a1, pm_bd_s, pm_bw_1, if_pos g2]
        exact ⟨1, h1, rfl, (FT.rf.up (by omega)).tr a2.ft, rfl, a3, ⟨by rw [a2.2 17 (by omega), pm_up_j (by omega)]; exact W.1, fun i hi => by rw [a2.1 176 (by omega), pm_up_n (by omega)]; exact W.2 i hi⟩, I, by rw [a2.2 16 (by omega), pm_up_s], by rw [a2.1 175 (by omega), pm_up_n (by omega)]⟩
      · obtain ⟨h1, a1, a2, a3⟩ := n2 g2
        rw [a1, pm_bd_s, pm_bw_0, if_neg g2]
        exact ⟨0, h1, rfl, (FT.rf.up (by omega)).tr a2, a3⟩
def OSm (tp : Nat → Nat) (n A : Nat) (h' : pm_Hp) (q : Int32) (R : Rc) : Prop := match R with
  | .inl e => NB tp n h' q e
  | .inr p => q = 1 ∧ MMn p.1 h' ∧ MWr p.2 h' ∧ WI p.2 p.1.1 A ∧ p.1.1 ≤ 6
theorem m_sceneL {d A : Nat} (hd : 10 ≤ d) (B : HB2 tp n K) (hA : A ≤ 6) : ∀ (f : Nat) (m : Mn) (w : Wr) (k : Nat) (h : pm_Hp), f + m.1 = 7 → m.1 ≤ 6 → WI w m.1 A → MT2 tp n k h → MWr w h → MMn m h → h 170 325 = nI A → ∃ q h', pm_rn d kX10_readsScenes 12 [.ref 169, .int 1] [] h = some (q, h') ∧ FT h h' ∧ OSm tp n A h' q (scf (tc tp n) (tv tp n) A f m w k) := by
  have hK := B.2.2.1
  intro f
  induction f with
  | zero => intro m w k h hf hm; omega
  | succ f ih =>
    intro m w k h hf hm I S W M eA
    obtain ⟨u1, u2, u3, u4, u5, u6, u7, u8⟩ := mt2 (hK.2.2.2.1 k)
    unfold scf
    rw [b_X10_readsScenes_12, if_neg (by decide), S.tok]
    by_cases c0 : tc tp n k = 0
    · rw [if_pos (by rw [u2.mpr c0]; exact nI_0), pm_bw_1, if_pos c0]
      exact ⟨1, h, rfl, FT.rf, rfl, M, W, I, hm⟩
    · rw [if_neg (show ¬ nI (mt 2 (tc tp n k)) = 0 from fun z => c0 (u2.mp ((nI_eq (b := 0) (by omega) (by omega)).mp z))), if_neg c0]
      have kK := hK.2.2.1 k c0
      have fb : ∀ (h1 : pm_Hp) (e : Nat × Nat), NB tp n h1 0 e → FT h h1 → ∃ q h', (pm_bd (some ((0 : Int32), h1)) fun r1 y1 => pm_rn d kX10_readsScenes 12 [.ref 169, .int r1] [] y1) = some (q, h') ∧ FT h h' ∧ OSm tp n A h' q (.inl e) := fun h1 e x1 x2 => by
        rw [pm_bd_s, b_X10_readsScenes_12, if_pos rfl, pm_bw_0]
        exact ⟨0, h1, rfl, x2, x1⟩
      obtain ⟨d, rfl, -⟩ := dpos (show 9 + 1 ≤ d by omega)
      rw [e_X10_aScene, S.tok, nI_ite (by omega) (by omega)]
      by_cases g1 : tc tp n k = 217
      · rw [if_pos (u4.mpr g1), if_pos g1, M.1, nI_ite (by omega) (by omega)]
        by_cases g2 : m.1 = 6
        · obtain ⟨h1, a1, a2, a3⟩ := n_bad (e := 3) (d := d) (by omega) S
          rw [if_pos g2, if_pos g2, a1, pm_bd_s, pm_bw_0]
          exact fb h1 _ a3 a2
        · obtain ⟨y, a1, a2, a3⟩ := n_nx (d := d) (by omega) B S
          have v31 := (hK.2.2.2.2.2 (k + 1)).1
          have P : nI (tv tp n (k + 1)) ≤ nI 99 ↔ tv tp n (k + 1) ≤ 99 := nI_leI (by omega) (by omega)
          obtain ⟨n1, n2, n3⟩ := n_num (d := d) (b := nI 99) (by omega) B a3 P
          rw [if_neg g2, if_neg g2, a1, pm_bd_s]
          by_cases g3 : tc tp n (k + 1) = 2
          · rw [if_pos g3]
            by_cases g4 : tv tp n (k + 1) ≤ 99
            · obtain ⟨h1, b1, b2_, b3, b4, b5, b6, b7⟩ := n1 g3 g4
              have z16 : h1 169 16 = nI m.1 := by rw [b5 16 (by omega), a2.2 16 (by omega)]; exact M.1
              rw [if_pos g4, b1, pm_bd_s, if_neg (by decide), z16, pm_at_c (by omega) (by omega), b4]
              obtain ⟨q, h2, x1, x2, x3⟩ := m_wearsL (d := d) (s := m.1) (by omega) B hA (by omega) (7 - w.1) w (k + 1 + 1) (pm_up h1 175 m.1 (nI (tv tp n (k + 1)))) (by have := I.1; omega) (I.le (by omega)) (b3.to (fun j _ => pm_up_k (by omega)) (pm_up_n (by omega))) ⟨by rw [pm_up_k (by omega), b5 17 (by omega), a2.2 17 (by omega)]; exact W.1, fun i hi => by rw [pm_up_n (by omega), b7, a2.1 176 (by omega)]; exact W.2 i hi⟩ (by rw [pm_up_k (by omega)]; exact z16) (by rw [pm_up_k (by omega), b2_.1 170 (by omega) (by omega) (by omega), a2.1 170 (by omega)]; exact eA)
              rw [x1]
              have F2 : FT h h2 := (((a2.ft.tr b2_).ro (by omega))).tr x2
              show ∃ q h', _ ∧ FT h h' ∧ OSm tp n A h' q (rl (wrf (tc tp n) (tv tp n) A m.1 (7 - w.1) w (k + 1 + 1)) _)
              cases hR : wrf (tc tp n) (tv tp n) A m.1 (7 - w.1) w (k + 1 + 1) with
              | inl e =>
                rw [hR] at x3
                have x3 : NB tp n h2 q e := x3
                rw [x3.1]
                exact fb h2 e ⟨rfl, x3.2⟩ F2
              | inr p =>
                rw [hR] at x3
                obtain ⟨w', k'⟩ := p
                have x3 : OE tp n m.1 A _ h2 q (if tc tp n k' = 59 then .inr (w', k' + 1) else .inl (1, k')) := x3
                show ∃ q h', _ ∧ FT h h' ∧ OSm tp n A h' q (if tc tp n k' = 59 then scf (tc tp n) (tv tp n) A f (madd m (tv tp n (k + 1))) w' (k' + 1) else .inl (1, k'))
                by_cases g5 : tc tp n k' = 59
                · rw [if_pos g5] at x3 ⊢
                  obtain ⟨y1, y2, y3, y4, y5, y6⟩ := x3
                  have y3 : MWr w' h2 := y3
                  have y2 : MT2 tp n (k' + 1) h2 := y2
                  have y4 : WI w' (m.1 + 1) A := y4
                  rw [y1, pm_bd_s]
                  obtain ⟨q2, h3, z1, z2, z3⟩ := ih (madd m (tv tp n (k + 1))) w' (k' + 1) h2 (by show f + (m.1 + 1) = 7; omega) (by show m.1 + 1 ≤ 6; omega) y4 y2 y3 (by
                    refine ⟨y5, fun i hi => ?_⟩
                    have hi : i < m.1 + 1 := hi
                    rw [y6]
                    by_cases ei : i = m.1
                    · rw [ei, madd_s, pm_up_s]
                    · rw [madd_o ei, pm_up_j ei, b6, a2.1 175 (by omega)]; exact M.2 i (by omega)) (by rw [F2.1 170 (by omega) (by omega) (by omega)]; exact eA)
                  exact ⟨q2, h3, z1, F2.tr z2, z3⟩
                · rw [if_neg g5] at x3 ⊢
                  have x3 : NB tp n h2 q (1, k') := x3
                  rw [x3.1]
                  exact fb h2 _ ⟨rfl, x3.2⟩ F2
            · obtain ⟨h1, b1, b2_, b3⟩ := n2 g3 g4
              rw [if_neg g4, b1, pm_bd_s, if_pos rfl]
              exact fb h1 _ b3 (a2.ft.tr b2_)
          · obtain ⟨h1, b1, b2_, b3⟩ := n3 g3
            rw [if_neg g3, b1, pm_bd_s, if_pos rfl]
            exact fb h1 _ b3 (a2.ft.tr b2_)
      · obtain ⟨h1, a1, a2, a3⟩ := n_bad (e := 1) (d := d) (by omega) S
        rw [if_neg (by rw [u4]; exact g1), if_neg g1, show (1 : Int32) = nI 1 from rfl, a1, pm_bd_s, pm_bw_0]
        exact fb h1 _ a3 a2
theorem m_scenes {d A : Nat} {h : pm_Hp} (hd : 11 ≤ d) (B : HB2 tp n K) (hA : A ≤ 6) (S : MT2 tp n 0 h) (eA : h 170 325 = nI A) : ∃ q h', pm_ev d 203 [.ref 169] h = some (q, h') ∧ FT h h' ∧ OSm tp n A h' q (scf (tc tp n) (tv tp n) A 7 m00 w00 0) := by
  obtain ⟨d, rfl, -⟩ := dpos hd
  rw [e_X10_readsScenes]
  obtain ⟨q, h', a1, a2, a3⟩ := m_sceneL (d := d) (A := A) (by omega) B hA 7 m00 w00 0 (pm_up (pm_up h 169 16 0) 169 17 0) rfl (Nat.zero_le _) ⟨Nat.zero_le _, fun i hi => absurd hi (Nat.not_lt_zero i)⟩ (S.to (fun j hj => by rw [pm_up_j (by omega), pm_up_j (by omega)]) (by rw [pm_up_n (by omega), pm_up_n (by omega)])) ⟨pm_up_s, fun i hi => absurd hi (Nat.not_lt_zero i)⟩ ⟨by rw [pm_up_j (by omega), pm_up_s]; rfl, fun i hi => absurd hi (Nat.not_lt_zero i)⟩ (by rw [pm_up_k (by omega), pm_up_k (by omega)]; exact eA)
  exact ⟨q, h', a1, ((FT.rf.up (by omega)).up (by omega)).tr a2, a3⟩
end
