theorem nI_cs {v : Int32} {n : Nat} (hn : n < 2 ^ 29) : (∃ k, k ≤ n ∧ v = nI k) ∨ (¬ (¬ v < 0 ∧ v ≤ nI n) ∧ ∀ k, k ≤ n → ¬ v = nI k) := by
  by_cases g : ¬ v < 0 ∧ v ≤ nI n
  · exact Or.inl (kd_ex hn g)
  · refine Or.inr ⟨g, fun k hk e => g ?_⟩
    subst e
    exact ⟨nI_pos (by omega), nI_le hk (by omega)⟩
theorem m_inH_m1 {T R p : Nat} {h : pm_Hp} (P : Pl T R h) : cnt (fun t => (decide ((-1 : Int32) = -1) || decide (wq h t 0 = -1)) && bH h (nI (10 + p)) 4 t) T = cnt (fun t => bH h (nI (10 + p)) 4 t) T := by
  simp only [decide_true, Bool.true_or, Bool.true_and]
theorem q_of {d T R A n0 n1 : Nat} {L0 L1 : Nat → Ln} {h : pm_Hp} (hd : 10 ≤ d) (S : St T R A n0 n1 L0 L1 h) (v x : Int32) : QE d 130 243 [.int v, .int x] h := by
  obtain ⟨d, rfl, -⟩ := dpos hd
  have P := S.1
  have hT := P.1
  obtain ⟨rk, K⟩ := P.2.2.2.2.2.2.2.2.2
  by_cases hv : isT T v
  · obtain ⟨t, ht, rfl⟩ := isT_ex (by omega) hv
    have rr : ∀ f, f < 8 → h (ta f) t = wq h t f := fun f hf => by
      have := P.2.2.2.2.2.2.1 t f ht (by omega) (by omega)
      unfold tj at this
      rw [if_pos (by omega)] at this
      exact this
    have mk : ∀ f, f < 8 → ¬ f = 8 → pm_ev (d + 1) 243 [.ref 169, .int (nI t), .int (nI f)] h = some (wq h t f, h) := fun f hf _ => by
      rw [e_X10_of, m_isThing (by omega) P.2.2.1 hT, pm_bd_s, b2_t hv, if_neg (by decide), nI_ite (by omega) (by omega), if_neg (by omega), nI_ite (by omega) (by omega), if_neg (by omega), nI_ite (by omega) (by omega), if_neg (by omega), m_isIn (by omega), pm_bd_s, b2_t ⟨nI_pos (by omega), nI_le (by omega) (by omega)⟩, if_neg (by decide), m_of0 (by omega) h (nI t) (nI f) t f rfl rfl (by omega) (by omega), pm_bd_s]
    rcases nI_cs (v := x) (n := 10) (by omega) with ⟨k, hk, rfl⟩ | ⟨-, g⟩
    · have : k = 0 ∨ k = 1 ∨ k = 2 ∨ k = 3 ∨ k = 4 ∨ k = 5 ∨ k = 6 ∨ k = 7 ∨ k = 8 ∨ k = 9 ∨ k = 10 := by omega
      rcases this with rfl | rfl | rfl | rfl | rfl | rfl | rfl | rfl | rfl | rfl | rfl
      iterate 8
        refine QE.mk ?_ (mk _ (by decide) (by decide))
        rw [e_X9_of, c_isThing (by omega) P.2.2.2.1, pm_bd_s, b2_t hv, if_neg (by decide)]
        simp only [show ((nI 0 : Int32) = 0) = True from eq_true rfl, show ((nI 1 : Int32) = 1) = True from eq_true rfl, show ((nI 1 : Int32) = 0) = False from eq_false (by decide), show ((nI 2 : Int32) = 0) = False from eq_false (by decide), show ((nI 2 : Int32) = 1) = False from eq_false (by decide), show ((nI 3 : Int32) = 0) = False from eq_false (by decide), show ((nI 3 : Int32) = 1) = False from eq_false (by decide), show ((nI 3 : Int32) = nI 2) = False from eq_false (by decide), show ((nI 4 : Int32) = 0) = False from eq_false (by decide), show ((nI 4 : Int32) = 1) = False from eq_false (by decide), show ((nI 4 : Int32) = nI 2) = False from eq_false (by decide), show ((nI 4 : Int32) = nI 3) = False from eq_false (by decide), show ((nI 5 : Int32) = 0) = False from eq_false (by decide), show ((nI 5 : Int32) = 1) = False from eq_false (by decide), show ((nI 5 : Int32) = nI 2) = False from eq_false (by decide), show ((nI 5 : Int32) = nI 3) = False from eq_false (by decide), show ((nI 5 : Int32) = nI 4) = False from eq_false (by decide), show ((nI 6 : Int32) = 0) = False from eq_false (by decide), show ((nI 6 : Int32) = 1) = False from eq_false (by decide), show ((nI 6 : Int32) = nI 2) = False from eq_false (by decide), show ((nI 6 : Int32) = nI 3) = False from eq_false (by decide), show ((nI 6 : Int32) = nI 4) = False from eq_false (by decide), show ((nI 6 : Int32) = nI 5) = False from eq_false (by decide), show ((nI 7 : Int32) = 0) = False from eq_false (by decide), show ((nI 7 : Int32) = 1) = False from eq_false (by decide), show ((nI 7 : Int32) = nI 2) = False from eq_false (by decide), show ((nI 7 : Int32) = nI 3) = False from eq_false (by decide), show ((nI 7 : Int32) = nI 4) = False from eq_false (by decide), show ((nI 7 : Int32) = nI 5) = False from eq_false (by decide), show ((nI 7 : Int32) = nI 6) = False from eq_false (by decide), if_true, if_false]
        rw [pm_at_c (by omega) (by omega)]
        first | exact congrArg (fun z => some (z, h)) (rr 0 (by decide)) | exact congrArg (fun z => some (z, h)) (rr 1 (by decide)) | exact congrArg (fun z => some (z, h)) (rr 2 (by decide)) | exact congrArg (fun z => some (z, h)) (rr 3 (by decide)) | exact congrArg (fun z => some (z, h)) (rr 4 (by decide)) | exact congrArg (fun z => some (z, h)) (rr 5 (by decide)) | exact congrArg (fun z => some (z, h)) (rr 6 (by decide)) | exact congrArg (fun z => some (z, h)) (rr 7 (by decide))
      · refine QE.mk (r := b2 (aw h t)) ?_ ?_
        · rw [e_X9_of, c_isThing (by omega) P.2.2.2.1, pm_bd_s, b2_t hv, if_neg (by decide), if_neg (by decide), if_neg (by decide), if_neg (by decide), if_neg (by decide), if_neg (by decide), if_neg (by decide), if_neg (by decide), if_neg (by decide), if_pos rfl, c_isAway (by omega) P ht, pm_bd_s]
          by_cases g : aw h t
          · rw [b2_t g, if_neg (by decide)]
          · rw [b2_f g, if_pos rfl]
        · rw [e_X10_of, m_isThing (by omega) P.2.2.1 hT, pm_bd_s, b2_t hv, if_neg (by decide), if_pos rfl, m_isOut (by omega) P ht, pm_bd_s]
          by_cases g : aw h t
          · rw [b2_t g, if_neg (by decide)]
          · rw [b2_f g, if_pos rfl]
      · refine QE.mk (r := cnt (fun o => bH h (nI (10 + t)) 4 o) T) ?_ ?_
        · rw [e_X9_of, c_isThing (by omega) P.2.2.2.1, pm_bd_s, b2_t hv, if_neg (by decide), if_neg (by decide), if_neg (by decide), if_neg (by decide), if_neg (by decide), if_neg (by decide), if_neg (by decide), if_neg (by decide), if_neg (by decide), if_neg (by decide), if_pos rfl, nI_add, c_countIn (by omega) P, pm_bd_s, m_inH_m1 P]
        · rw [e_X10_of, m_isThing (by omega) P.2.2.1 hT, pm_bd_s, b2_t hv, if_neg (by decide), if_neg (by decide), if_pos rfl, m_inside (by omega) P ht, pm_bd_s]
      · have pre : ∀ z, pm_ev d 22 [.ref 1, .int (nI t)] h = some (z, h) → pm_ev d 221 [.ref 169, .int (nI t)] h = some (z, h) → QE (d + 1) 130 243 [.int (nI t), .int (nI 10)] h := fun z e1 e2 => by
          refine QE.mk (r := z) ?_ ?_
          · rw [e_X9_of, c_isThing (by omega) P.2.2.2.1, pm_bd_s, b2_t hv, if_neg (by decide), if_neg (by decide), if_neg (by decide), if_neg (by decide), if_neg (by decide), if_neg (by decide), if_neg (by decide), if_neg (by decide), if_neg (by decide), if_neg (by decide), if_neg (by decide), if_pos rfl, e1, pm_bd_s]
          · rw [e_X10_of, m_isThing (by omega) P.2.2.1 hT, pm_bd_s, b2_t hv, if_neg (by decide), if_neg (by decide), if_neg (by decide), if_pos rfl, e2, pm_bd_s]
        by_cases hk : wq h t 0 = nI 5
        · exact pre _ (c_depth_y (by omega) P K ht hk) (m_deep_y (by omega) P K ht hk)
        · exact pre _ (c_depth_n (by omega) P ht hk) (m_deep_n (by omega) P ht hk)
    · refine QE.mk (r := -2) ?_ ?_
      · rw [e_X9_of, c_isThing (by omega) P.2.2.2.1, pm_bd_s, b2_t hv, if_neg (by decide), if_neg (show ¬ x = 0 from g 0 (by decide)), if_neg (show ¬ x = 1 from g 1 (by decide)), if_neg (g 2 (by decide)), if_neg (g 3 (by decide)), if_neg (g 4 (by decide)), if_neg (g 5 (by decide)), if_neg (g 6 (by decide)), if_neg (g 7 (by decide)), if_neg (g 8 (by decide)), if_neg (g 9 (by decide)), if_neg (g 10 (by decide))]
      · rw [e_X10_of, m_isThing (by omega) P.2.2.1 hT, pm_bd_s, b2_t hv, if_neg (by decide), if_neg (g 8 (by decide)), if_neg (g 9 (by decide)), if_neg (g 10 (by decide)), m_isIn (by omega), pm_bd_s, b2_f (fun q => ?_), if_pos rfl]
        obtain ⟨k, hk, e⟩ := kd_ex (n := 7) (by omega) q
        exact g k (by omega) e
  · refine QE.mk (r := -2) ?_ ?_
    · rw [e_X9_of, c_isThing (by omega) P.2.2.2.1, pm_bd_s, b2_f hv, if_pos rfl]
    · rw [e_X10_of, m_isThing (by omega) P.2.2.1 hT, pm_bd_s, b2_f hv, if_pos rfl]
