section
variable {tp : Nat → Nat} {n K : Nat}
def CMn (m : Mn) (h : pm_Hp) : Prop := h 142 4 = nI m.1 ∧ ∀ i, i < m.1 → h 143 i = nI (m.2 i) ∧ m.2 i ≤ 99
def OS (tp : Nat → Nat) (n A : Nat) (h h' : pm_Hp) (r1 : Int32) (R : Rc) : Prop := match R with
  | .inl e => r1 = 0 ∧ h' 133 2 = nI e.1 ∧ h' 133 3 = nI (tl_ tp n e.2)
  | .inr q => r1 = 1 ∧ CMn q.1 h' ∧ CWr q.2 h' ∧ WI q.2 q.1.1 A ∧ q.1.1 ≤ 6 ∧ h' 133 2 = h 133 2 ∧ h' 133 3 = h 133 3
theorem c_wears {d A s k : Nat} {w : Wr} {h : pm_Hp} (hd : 3 ≤ d) (hK : KE tp n K) (hA : A ≤ 6) (hs : s < 6) (I : WI w s A) (S : CT tp n K k h) (W : CWr w h) (e4 : h 142 4 = nI s) : ∃ r1 h', pm_ev d 95 [.ref 133, .int (nI A)] h = some (r1, h') ∧ FW h h' ∧ OW tp n K s A h h' r1 (wrf (tc tp n) (tv tp n) A s (7 - w.1) w k) := by
  obtain ⟨d, rfl, -⟩ := dpos hd
  have w6 := I.1
  rw [e_X5_readWears]
  refine c_wearL (d := d) (by omega) hK hA hs (7 - w.1) w k 0 0 h .null .null (by omega) (I.le (by omega)) (by omega) S W e4 (by omega) (fun a ha => ?_)
  refine ⟨fun z => ?_, fun z => ?_⟩
  · rw [Nat.zero_testBit] at z; cases z
  · obtain ⟨i, z1, z2, z3⟩ := z
    have := (I.2 i z1).1
    omega
theorem c_sceneL {d A : Nat} (hd : 3 ≤ d) (hK : KE tp n K) (hA : A ≤ 6) : ∀ (f : Nat) (m : Mn) (w : Wr) (k : Nat) (h : pm_Hp) (u3 : Value), f + m.1 = 7 → m.1 ≤ 6 → WI w m.1 A → CT tp n K k h → CWr w h → CMn m h → ∃ r1 h', pm_rn d kX5_readScenes 9 [.ref 133, .int (nI A), .int (nI m.1), u3] [] h = some (r1, h') ∧ FW h h' ∧ OS tp n A h h' r1 (scf (tc tp n) (tv tp n) A f m w k) := by
  have K4 := hK.1
  intro f
  induction f with
  | zero => intro m w k h u3 hf hm; omega
  | succ f ih =>
    intro m w k h u3 hf hm I S W M
    have c3 := hK.2.2.2.1 k
    have tk := t_token (d := d) (by omega) hK S
    unfold scf
    rw [b_X5_readScenes_9, if_pos (nI_le (by omega) (by omega)), tk, pm_bd_s]
    by_cases c0 : tc tp n k = 0
    · rw [if_pos (by rw [c0]; exact nI_0), if_pos c0]
      exact ⟨1, h, rfl, FW.rf, rfl, M, W, I, hm, rfl, rfl⟩
    · rw [if_neg (show ¬ nI (tc tp n k) = 0 from fun z => c0 ((nI_eq (b := 0) (by omega) (by omega)).mp z)), tk, pm_bd_s, if_neg c0, nI_ite (by omega) (by omega)]
      have kK := hK.2.2.1 k c0
      obtain ⟨p1, p2⟩ := t_pass (d := d) (t := 217) (by omega) hK S (by omega)
      by_cases g1 : tc tp n k = 217
      · rw [if_pos g1, if_pos g1, M.1, ltn_ite (by omega) (by omega)]
        by_cases g2 : m.1 = 6
        · rw [if_neg (by omega), if_pos g2, t_refuse (by omega) hK S, pm_bd_s, pm_bw_0]
          exact ⟨0, _, rfl, (FW.rf.at_ (by omega)).at_ (by omega), rfl, by rw [pm_up_j (by omega), pm_up_s], pm_up_s⟩
        · have A1 := S.adv (k' := k + 1) (by omega)
          have F1 : FW h (pm_up h 133 10 (nI (k + 1))) := FW.rf.at_ (by omega)
          have c31 := hK.2.2.2.1 (k + 1)
          have v31 := (hK.2.2.2.2.2 (k + 1)).1
          rw [if_pos (by omega), if_neg g2, p1 g1, pm_bd_s, if_neg (by decide), t_value (by omega) hK A1, pm_bd_s, t_token (by omega) hK A1, pm_bd_s, nI_ite (by omega) (by omega)]
          obtain ⟨q1, q2⟩ := t_pass (d := d) (t := 2) (by omega) hK A1 (by omega)
          by_cases g3 : tc tp n (k + 1) = 2
          · have kK1 := hK.2.2.1 (k + 1) (by omega)
            rw [if_pos g3, if_pos g3, len_ite (by omega) (by omega)]
            by_cases g4 : tv tp n (k + 1) ≤ 99
            · have A2 := A1.adv (k' := k + 1 + 1) (by omega)
              rw [if_pos g4, if_pos g4, q1 g3, pm_bd_s, if_neg (by decide)]
              generalize hg : pm_up (pm_up h 133 10 (nI (k + 1))) 133 10 (nI (k + 1 + 1)) = g at A2
              have Fg : FW h g := by rw [← hg]; exact F1.at_ (by omega)
              have go : ∀ a, a ≠ 133 → g a = h a := fun a x => by rw [← hg, pm_up_n x, pm_up_n x]
              have g2_ : g 133 2 = h 133 2 := by rw [← hg, pm_up_j (by omega), pm_up_j (by omega)]
              have g3_ : g 133 3 = h 133 3 := by rw [← hg, pm_up_j (by omega), pm_up_j (by omega)]
              have Wg : CWr w g := by
                unfold CWr
                rw [go 142 (by omega), go 144 (by omega), go 145 (by omega), go 146 (by omega)]
                exact W
              obtain ⟨r1, h1, a1, a2, a3⟩ := c_wears (d := d) (s := m.1) (w := w) hd hK hA (by omega) I A2 Wg (by rw [go 142 (by omega)]; exact M.1)
              rw [a1, pm_bd_s]
              show ∃ r1 h', _ ∧ FW h h' ∧ OS tp n A h h' r1 (rl (wrf (tc tp n) (tv tp n) A m.1 (7 - w.1) w (k + 1 + 1)) _)
              cases hR : wrf (tc tp n) (tv tp n) A m.1 (7 - w.1) w (k + 1 + 1) with
              | inl e =>
                rw [hR] at a3
                rw [if_pos a3.1]
                exact ⟨0, h1, rfl, Fg.tr a2, rfl, a3.2⟩
              | inr q =>
                rw [hR] at a3
                obtain ⟨w', k'⟩ := q
                obtain ⟨x1, x2, x3, x4, x5, x6, x7, x8⟩ := a3
                have x2 : CT tp n K k' h1 := x2
                have x3 : CWr w' h1 := x3
                have x4 : WI w' (m.1 + 1) A := x4
                rw [if_neg (by rw [x1]; decide)]
                show ∃ r1 h', _ ∧ FW h h' ∧ OS tp n A h h' r1 (if tc tp n k' = 59 then scf (tc tp n) (tv tp n) A f (madd m (tv tp n (k + 1))) w' (k' + 1) else .inl (1, k'))
                obtain ⟨y1, y2⟩ := t_pass (d := d) (t := 59) (by omega) hK x2 (by omega)
                by_cases g5 : tc tp n k' = 59
                · have kK2 := hK.2.2.1 k' (by omega)
                  have A3 := x2.adv (k' := k' + 1) (by omega)
                  have e4 : (pm_up h1 133 10 (nI (k' + 1))) 142 4 = nI m.1 := by rw [pm_up_k (by omega), x7, go 142 (by omega)]; exact M.1
                  rw [y1 g5, pm_bd_s, if_neg (by decide), e4, pm_at_c (by omega) (by omega), if_pos g5, nI_1]
                  generalize hh : pm_up (pm_up (pm_up h1 133 10 (nI (k' + 1))) 143 m.1 (nI (tv tp n (k + 1)))) 142 4 (nI (m.1 + 1)) = y
                  have Fy : FW h y := by rw [← hh]; exact (((Fg.tr a2).at_ (by omega)).ro (by omega)).ro (by omega)
                  have yo : ∀ a, a ≠ 133 → a ≠ 142 → a ≠ 143 → y a = h1 a := fun a z1 z2 z3 => by rw [← hh, pm_up_n z2, pm_up_n z3, pm_up_n z1]
                  have y133 : y 133 = (pm_up h1 133 10 (nI (k' + 1))) 133 := by rw [← hh, pm_up_n (by omega), pm_up_n (by omega)]
                  have ye2 : y 133 2 = h 133 2 := by rw [y133, pm_up_j (by omega), x5]; exact g2_
                  have ye3 : y 133 3 = h 133 3 := by rw [y133, pm_up_j (by omega), x6]; exact g3_
                  obtain ⟨r2, h2, b1, b2_, b3⟩ := ih (madd m (tv tp n (k + 1))) w' (k' + 1) y (.int (nI (tv tp n (k + 1)))) (by show f + (m.1 + 1) = 7; omega) (by show m.1 + 1 ≤ 6; omega) x4 (A3.to y133 (by rw [yo 147 (by omega) (by omega) (by omega), pm_up_n (by omega)]) (by rw [yo 148 (by omega) (by omega) (by omega), pm_up_n (by omega)]) (by rw [yo 149 (by omega) (by omega) (by omega), pm_up_n (by omega)])) (by
                    refine ⟨by rw [← hh, pm_up_j (by omega), pm_up_k (by omega), pm_up_k (by omega)]; exact x3.1, fun i hi => ?_⟩
                    rw [yo 144 (by omega) (by omega) (by omega), yo 145 (by omega) (by omega) (by omega), yo 146 (by omega) (by omega) (by omega)]
                    exact x3.2 i hi) (by
                    refine ⟨by rw [← hh, pm_up_s]; rfl, fun i hi => ?_⟩
                    have hi : i < m.1 + 1 := hi
                    rw [← hh, pm_up_k (by omega)]
                    by_cases ei : i = m.1
                    · rw [ei, madd_s, pm_up_s]; exact ⟨rfl, g4⟩
                    · rw [madd_o ei, pm_up_j ei, pm_up_k (by omega), x8, go 143 (by omega)]; exact M.2 i (by omega))
                  refine ⟨r2, h2, b1, Fy.tr b2_, ?_⟩
                  cases hR2 : scf (tc tp n) (tv tp n) A f (madd m (tv tp n (k + 1))) w' (k' + 1) with
                  | inl e => rw [hR2] at b3; exact b3
                  | inr q =>
                    rw [hR2] at b3
                    obtain ⟨z1, z2, z3, z4, z5, z6, z7⟩ := b3
                    exact ⟨z1, z2, z3, z4, z5, z6.trans ye2, z7.trans ye3⟩
                · rw [y2 g5, pm_bd_s, if_pos rfl, if_neg g5]
                  exact ⟨0, _, rfl, ((Fg.tr a2).at_ (by omega)).at_ (by omega), rfl, by rw [pm_up_j (by omega), pm_up_s]; rfl, pm_up_s⟩
            · rw [if_neg g4, if_neg g4, t_refuse (by omega) hK A1, pm_bd_s, pm_bw_0]
              exact ⟨0, _, rfl, (F1.at_ (by omega)).at_ (by omega), rfl, by rw [pm_up_j (by omega), pm_up_s], pm_up_s⟩
          · rw [if_neg g3, if_neg g3, q2 g3, pm_bd_s, if_pos rfl]
            exact ⟨0, _, rfl, (F1.at_ (by omega)).at_ (by omega), rfl, by rw [pm_up_j (by omega), pm_up_s]; rfl, pm_up_s⟩
      · rw [if_neg g1, if_neg g1, p2 g1, pm_bd_s, if_pos rfl]
        exact ⟨0, _, rfl, (FW.rf.at_ (by omega)).at_ (by omega), rfl, by rw [pm_up_j (by omega), pm_up_s]; rfl, pm_up_s⟩
def m00 : Mn := (0, fun _ => 0)
def w00 : Wr := (0, fun _ => (0, 0, 0))
theorem c_scenes {d A : Nat} {h : pm_Hp} (hd : 4 ≤ d) (hK : KE tp n K) (hA : A ≤ 6) (S : CT tp n K 0 h) : ∃ r1 h', pm_ev d 94 [.ref 133, .int (nI A)] h = some (r1, h') ∧ FW h h' ∧ OS tp n A h h' r1 (scf (tc tp n) (tv tp n) A 7 m00 w00 0) := by
  obtain ⟨d, rfl, -⟩ := dpos hd
  have e98 : pm_ev d 98 [.ref 142] h = some (0, pm_up (pm_up h 142 4 0) 142 5 0) := by
    obtain ⟨d, rfl, -⟩ := dpos (show 2 + 1 ≤ d by omega)
    exact e_X6_clear d h
  rw [e_X5_readScenes, e98, pm_bd_s]
  obtain ⟨r1, h', a1, a2, a3⟩ := c_sceneL (d := d) (A := A) (by omega) hK hA 7 m00 w00 0 (pm_up (pm_up h 142 4 0) 142 5 0) .null rfl (Nat.zero_le _) ⟨Nat.zero_le _, fun i hi => absurd hi (Nat.not_lt_zero i)⟩ (S.to (by rw [pm_up_n (by omega), pm_up_n (by omega)]) (by rw [pm_up_n (by omega), pm_up_n (by omega)]) (by rw [pm_up_n (by omega), pm_up_n (by omega)]) (by rw [pm_up_n (by omega), pm_up_n (by omega)])) ⟨pm_up_s, fun i hi => absurd hi (Nat.not_lt_zero i)⟩ ⟨by rw [pm_up_j (by omega), pm_up_s]; rfl, fun i hi => absurd hi (Nat.not_lt_zero i)⟩
  refine ⟨r1, h', a1, ((FW.rf.ro (by omega)).ro (by omega)).tr a2, ?_⟩
  cases hR : scf (tc tp n) (tv tp n) A 7 m00 w00 0 with
  | inl e => rw [hR] at a3; exact a3
  | inr q =>
    rw [hR] at a3
    obtain ⟨z1, z2, z3, z4, z5, z6, z7⟩ := a3
    exact ⟨z1, z2, z3, z4, z5, by rw [z6, pm_up_k (by omega), pm_up_k (by omega)], by rw [z7, pm_up_k (by omega), pm_up_k (by omega)]⟩
end
