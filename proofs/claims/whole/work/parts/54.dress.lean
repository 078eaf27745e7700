theorem q_dresses {d T R A n0 n1 : Nat} {L0 L1 : Nat → Ln} {h : pm_Hp} (hd : 9 ≤ d) (S : St T R A n0 n1 L0 L1 h) (v : Int32) : QE d 142 269 [.int v] h := by
  have hT := S.1.1
  rcases set_cases v hT with ⟨s, hs, rfl⟩ | ⟨g1, g2⟩
  · exact QE.mk (c_dresses (by omega) S.1 S.2.1 S.2.2.1 hs) (m_dresses (by omega) S.1 S.2.1 S.2.2.1 hs)
  · obtain ⟨d, rfl, -⟩ := dpos hd
    refine QE.mk (r := -1) ?_ ?_
    · rw [e_X9_dresses, S.1.2.2.2.1, if_neg g1]
    · rw [e_X10_dresses, m_isIn (by omega), pm_bd_s, S.1.2.2.1, shl1 T (by omega), b2_f g2, if_pos rfl]
