theorem q_holds {d T R A n0 n1 : Nat} {L0 L1 : Nat → Ln} {h : pm_Hp} (hd : 9 ≤ d) (S : St T R A n0 n1 L0 L1 h) (v x : Int32) : QE d 145 271 [.int v, .int x] h := by
  obtain ⟨d, rfl, -⟩ := dpos hd
  have P := S.1
  have hT := P.1
  have go : ∀ v : Int32, ((∃ r, r < R ∧ v = nI r) ∨ (∃ p, p < T ∧ v = nI (10 + p))) → pm_ev d 11 [.ref 1, .int v] h = some (1, h) → pm_ev d 222 [.ref 169, .int v] h = some (1, h) → QE (d + 1) 145 271 [.int v, .int x] h := by
    intro v hv e1 e2
    by_cases hx : ¬ x < 0 ∧ x ≤ nI 5
    · refine QE.mk (r := cnt (fun t => decide (wq h t 0 = x) && bH h v 4 t) T) ?_ ?_
      · rw [e_X9_holds, e1, pm_bd_s, if_neg (by decide), c_isKind (by omega), pm_bd_s, b2_t hx, if_neg (by decide), c_countIn (by omega) P, pm_bd_s]
        obtain ⟨k, hk, rfl⟩ := kd_ex (by omega) hx
        have : decide (nI k = -1) = false := decide_eq_false (by rw [nI_m1 (by omega)]; exact id)
        simp only [this, Bool.false_or]
      · rw [e_X10_holds, e2, pm_bd_s, if_neg (by decide), m_isIn (by omega), pm_bd_s, b2_t hx, if_neg (by decide), m_holdsL (by omega) P v x hv]
    · refine QE.mk (r := -1) ?_ ?_
      · rw [e_X9_holds, e1, pm_bd_s, if_neg (by decide), c_isKind (by omega), pm_bd_s, b2_f hx, if_pos rfl]
      · rw [e_X10_holds, e2, pm_bd_s, if_neg (by decide), m_isIn (by omega), pm_bd_s, b2_f hx, if_pos rfl]
  rcases hold_cases P v with ⟨r, hr, rfl⟩ | ⟨p, hp, rfl, hk⟩ | ⟨g1, g2⟩
  · exact go _ (Or.inl ⟨r, hr, rfl⟩) (c_isHolder_r (by omega) P hr) (m_isHolder_r (by omega) P hr)
  · exact go _ (Or.inr ⟨p, hp, rfl⟩) (c_isHolder_t (by omega) P hp hk) (m_isHolder_t (by omega) P hp hk)
  · refine QE.mk (r := -1) ?_ ?_
    · rw [e_X9_holds, c_isHolder_n (by omega) P g1 g2, pm_bd_s, if_pos rfl]
    · rw [e_X10_holds, m_isHolder_n (by omega) P g1 g2 (sub10 hT), pm_bd_s, if_pos rfl]
theorem q_path {d T R A n0 n1 : Nat} {L0 L1 : Nat → Ln} {h : pm_Hp} (hd : 9 ≤ d) (S : St T R A n0 n1 L0 L1 h) (v x : Int32) : QE d 146 272 [.int v, .int x] h := by
  obtain ⟨d, rfl, -⟩ := dpos hd
  have P := S.1
  have hT := P.1
  obtain ⟨rk, K⟩ := P.2.2.2.2.2.2.2.2.2
  by_cases hv : isT T v
  · obtain ⟨t, ht, rfl⟩ := isT_ex (by omega) hv
    by_cases x0 : x = 0
    · subst x0
      refine QE.mk (r := rka h t) ?_ ?_
      · rw [e_X9_path, c_isThing (by omega) P.2.2.2.1, pm_bd_s, b2_t hv, if_neg (by decide), if_pos rfl, c_rackAround (by omega) P ht, pm_bd_s]
      · rw [e_X10_path, m_isThing (by omega) P.2.2.1 hT, pm_bd_s, b2_t hv, if_neg (by decide), m_isIn (by omega), pm_bd_s, b2_t (by decide), if_neg (by decide), if_pos rfl, m_rackOf (by omega) P ht, pm_bd_s]
    · by_cases x1 : x = 1
      · subst x1
        refine QE.mk (r := nI (rk t)) ?_ ?_
        · rw [e_X9_path, c_isThing (by omega) P.2.2.2.1, pm_bd_s, b2_t hv, if_neg (by decide), if_neg x0, if_pos rfl, c_trunksAround (by omega) P K ht, pm_bd_s]
        · rw [e_X10_path, m_isThing (by omega) P.2.2.1 hT, pm_bd_s, b2_t hv, if_neg (by decide), m_isIn (by omega), pm_bd_s, b2_t (by decide), if_neg (by decide), if_neg x0]
          have := m_pathL (d := d) (by omega) P K 4 t 0 (.int (nI t)) (.int 1) ht (by have := (K t ht).1; omega)
          rw [Nat.zero_add] at this
          exact this
      · refine QE.mk (r := -2) ?_ ?_
        · rw [e_X9_path, c_isThing (by omega) P.2.2.2.1, pm_bd_s, b2_t hv, if_neg (by decide), if_neg x0, if_neg x1]
        · rw [e_X10_path, m_isThing (by omega) P.2.2.1 hT, pm_bd_s, b2_t hv, if_neg (by decide), m_isIn (by omega), pm_bd_s, b2_f (fun q => ?_), if_pos rfl]
          obtain ⟨k, hk, rfl⟩ := kd_ex (n := 1) (by omega) q
          have : k = 0 ∨ k = 1 := by omega
          rcases this with rfl | rfl
          · exact x0 rfl
          · exact x1 rfl
  · refine QE.mk (r := -2) ?_ ?_
    · rw [e_X9_path, c_isThing (by omega) P.2.2.2.1, pm_bd_s, b2_f hv, if_pos rfl]
    · rw [e_X10_path, m_isThing (by omega) P.2.2.1 hT, pm_bd_s, b2_f hv, if_pos rfl]
theorem q_slot {d T R A n0 n1 : Nat} {L0 L1 : Nat → Ln} {h : pm_Hp} (hd : 9 ≤ d) (S : St T R A n0 n1 L0 L1 h) (v s : Int32) : QE d 133 246 [.int v, .int s] h := by
  obtain ⟨d, rfl, -⟩ := dpos hd
  have P := S.1
  have hT := P.1
  have go : ∀ (v b : Int32), pm_ev d 12 [.ref 1, .int v, .int s] h = some (b, h) → pm_ev d 224 [.ref 169, .int v, .int s] h = some (b, h) → QE (d + 1) 133 246 [.int v, .int s] h := by
    intro v b e1 e2
    refine QE.mk (r := if b = 0 then -2 else o2 (fs h T v s)) ?_ ?_
    · rw [e_X9_slot, e1, pm_bd_s]
      by_cases g : b = 0
      · rw [if_pos g, if_pos g]
      · rw [if_neg g, if_neg g, c_inSlot (by omega) P, pm_bd_s]
    · rw [e_X10_slot, e2, pm_bd_s]
      by_cases g : b = 0
      · rw [if_pos g, if_pos g]
      · rw [if_neg g, if_neg g, m_inSlot (by omega) P, pm_bd_s]
  rcases hold_cases P v with ⟨r, hr, rfl⟩ | ⟨p, hp, rfl, hk⟩ | ⟨g1, g2⟩
  · exact go _ _ (c_isSlot_r (by omega) P hr s) (m_isSlot_r (by omega) P hr s)
  · exact go _ _ (c_isSlot_t (by omega) P hp hk s) (m_isSlot_t (by omega) P hp hk s)
  · exact go _ _ (c_isSlot_n (by omega) P g1 g2 s) (m_isSlot_n (by omega) P g1 g2 (sub10 hT) s)
theorem c_isMeasure {d : Nat} {h : pm_Hp} (hd : 1 ≤ d) (v : Int32) : pm_ev d 153 [.int v] h = some (b2 (isT 5 v), h) := by
  obtain ⟨d, rfl, -⟩ := dpos hd
  rw [e_X9_isMeasure]
  unfold b2
  by_cases h1 : v < 0 <;> by_cases h2 : v < nI 5 <;> simp [isT, h1, h2]
theorem isT5 (v : Int32) : (¬ v < 0 ∧ v ≤ nI 4) = isT 5 v := by
  have : nI 4 = nI 5 - 1 := by decide
  rw [this, le_prd v (by omega)]
theorem q_body {d T R A n0 n1 : Nat} {L0 L1 : Nat → Ln} {h : pm_Hp} (hd : 9 ≤ d) (S : St T R A n0 n1 L0 L1 h) (v x : Int32) : QE d 132 245 [.int v, .int x] h := by
  obtain ⟨d, rfl, -⟩ := dpos hd
  have Q := S.2.1
  have hA := Q.1
  by_cases hv : isT A v
  · by_cases hx : isT 5 x
    · have hx' : ¬ x < 0 ∧ x ≤ nI 4 := by rw [isT5]; exact hx
      obtain ⟨a, ha, rfl⟩ := isT_ex (by omega) hv
      obtain ⟨m, hm, rfl⟩ := isT_ex (by omega) hx
      refine QE.mk (r := h 170 (332 + 5 * a + m)) ?_ ?_
      · rw [e_X9_body, c_isActor (by omega) Q, pm_bd_s, b2_t hv, if_neg (by decide), c_isMeasure (by omega), pm_bd_s, b2_t hx, if_neg (by decide), pm_at_n (j := a * 5 + m) (by rw [pk_mul, nI_add]) (by omega) (by omega), (Q.2.2.2 a m ha hm).1]
      · rw [e_X10_body, m_isActor (by omega) Q, pm_bd_s, b2_t hv, if_neg (by decide), m_isIn (by omega), pm_bd_s, b2_t hx', if_neg (by decide), m_bodyOf (by omega) (by omega) hm, pm_bd_s]
    · have hx' : ¬ (¬ x < 0 ∧ x ≤ nI 4) := by rw [isT5]; exact hx
      refine QE.mk (r := -1) ?_ ?_
      · rw [e_X9_body, c_isActor (by omega) Q, pm_bd_s, b2_t hv, if_neg (by decide), c_isMeasure (by omega), pm_bd_s, b2_f hx, if_pos rfl]
      · rw [e_X10_body, m_isActor (by omega) Q, pm_bd_s, b2_t hv, if_neg (by decide), m_isIn (by omega), pm_bd_s, b2_f hx', if_pos rfl]
  · refine QE.mk (r := -1) ?_ ?_
    · rw [e_X9_body, c_isActor (by omega) Q, pm_bd_s, b2_f hv, if_pos rfl]
    · rw [e_X10_body, m_isActor (by omega) Q, pm_bd_s, b2_f hv, if_pos rfl]
theorem Pl.made {T R t m : Nat} {h : pm_Hp} (P : Pl T R h) (ht : t < T) (hm : m < 5) : h 13 (t * 5 + m) = wq h t (10 + m) := by
  have := P.2.2.2.2.2.2.1 t (10 + m) ht (by omega) (by omega)
  unfold ta tj at this
  rw [if_neg (by omega), if_neg (by omega), if_neg (by omega), if_pos (by omega), if_neg (by omega), if_pos (by omega), show 10 + m - 10 = m by omega] at this
  exact this
theorem Pl.now {T R t m : Nat} {h : pm_Hp} (P : Pl T R h) (ht : t < T) (hm : m < 5) : h 10 (t * 5 + m) = wq h t (15 + m) := by
  have := P.2.2.2.2.2.2.1 t (15 + m) ht (by omega) (by omega)
  unfold ta tj at this
  rw [if_neg (by omega), if_neg (by omega), if_neg (by omega), if_neg (by omega), if_neg (by omega), if_neg (by omega), show 15 + m - 15 = m by omega] at this
  exact this
theorem q_at {d T R A n0 n1 : Nat} {L0 L1 : Nat → Ln} {h : pm_Hp} (hd : 9 ≤ d) (S : St T R A n0 n1 L0 L1 h) (v x y : Int32) : QE d 131 244 [.int v, .int x, .int y] h := by
  obtain ⟨d, rfl, -⟩ := dpos hd
  have P := S.1
  have hT := P.1
  by_cases hv : isT T v
  · obtain ⟨t, ht, rfl⟩ := isT_ex (by omega) hv
    by_cases hk : wq h t 0 = nI 5
    · refine QE.mk (r := -1) ?_ ?_
      · rw [e_X9_at, c_isWearable_y (by omega) P ht, pm_bd_s, b2_f (fun q => q hk), if_pos rfl]
      · rw [e_X10_at, m_isThing (by omega) P.2.2.1 hT, pm_bd_s, b2_t hv, if_neg (by decide), m_isTrunk_y (by omega) P ht, pm_bd_s, b2_t hk, if_neg (by decide)]
    · have c0 : ∀ z, pm_ev (d + 1) 131 [.ref 0, .int (nI t), .int x, .int y] h = z ↔ (if b2 (isT 5 x) = 0 then some (-1, h) else (if y = 0 then (pm_at ((nI t * (nI 5)) + x) 80 fun j1 => some (h 13 j1, h)) else if y = 1 then (pm_at ((nI t * (nI 5)) + x) 80 fun j2 => some (h 10 j2, h)) else (some ((-1), h)))) = z := fun z => by
        rw [e_X9_at, c_isWearable_y (by omega) P ht, pm_bd_s, b2_t hk, if_neg (by decide), c_isMeasure (by omega), pm_bd_s]
      have m0 : ∀ z, pm_ev (d + 1) 244 [.ref 169, .int (nI t), .int x, .int y] h = z ↔ (if b2 (isT 5 x) = 0 then some (-1, h) else if b2 (¬ y < 0 ∧ y ≤ 1) = 0 then some (-1, h) else (if y = 0 then (pm_bd (pm_ev d 163 [.ref 169, .int (nI t), .int ((nI 10) + x)] h) fun r5 y5 => some (r5, y5)) else (pm_bd (pm_ev d 163 [.ref 169, .int (nI t), .int ((nI 15) + x)] h) fun r6 y6 => some (r6, y6)))) = z := fun z => by
        rw [e_X10_at, m_isThing (by omega) P.2.2.1 hT, pm_bd_s, b2_t hv, if_neg (by decide), m_isTrunk_y (by omega) P ht, pm_bd_s, b2_f hk, if_pos rfl, m_isIn (by omega), pm_bd_s, m_isIn (by omega), pm_bd_s, b2_cg (iff_of_eq (isT5 x))]
      by_cases hx : isT 5 x
      · obtain ⟨m, hm, rfl⟩ := isT_ex (by omega) hx
        by_cases y0 : y = 0
        · subst y0
          refine QE.mk (r := wq h t (10 + m)) ((c0 _).mpr ?_) ((m0 _).mpr ?_)
          · rw [b2_t hx, if_neg (by decide), if_pos rfl, pm_at_n (j := t * 5 + m) (by rw [pk_mul, nI_add]) (by omega) (by omega), P.made ht hm]
          · rw [b2_t hx, if_neg (by decide), b2_t (by decide), if_neg (by decide), if_pos rfl, m_of0 (by omega) h (nI t) _ t (10 + m) rfl (by rw [nI_add]) (by omega) (by omega), pm_bd_s]
        · by_cases y1 : y = 1
          · subst y1
            refine QE.mk (r := wq h t (15 + m)) ((c0 _).mpr ?_) ((m0 _).mpr ?_)
            · rw [b2_t hx, if_neg (by decide), if_neg y0, if_pos rfl, pm_at_n (j := t * 5 + m) (by rw [pk_mul, nI_add]) (by omega) (by omega), P.now ht hm]
            · rw [b2_t hx, if_neg (by decide), b2_t (by decide), if_neg (by decide), if_neg y0, m_of0 (by omega) h (nI t) _ t (15 + m) rfl (by rw [nI_add]) (by omega) (by omega), pm_bd_s]
          · refine QE.mk (r := -1) ((c0 _).mpr ?_) ((m0 _).mpr ?_)
            · rw [b2_t hx, if_neg (by decide), if_neg y0, if_neg y1]
            · rw [b2_t hx, if_neg (by decide), b2_f (fun q => ?_), if_pos rfl]
              obtain ⟨k, hk, rfl⟩ := kd_ex (n := 1) (by omega) q
              have : k = 0 ∨ k = 1 := by omega
              rcases this with rfl | rfl
              · exact y0 rfl
              · exact y1 rfl
      · refine QE.mk (r := -1) ((c0 _).mpr ?_) ((m0 _).mpr ?_)
        · rw [b2_f hx, if_pos rfl]
        · rw [b2_f hx, if_pos rfl]
  · refine QE.mk (r := -1) ?_ ?_
    · rw [e_X9_at, c_isWearable_n (by omega) P hv, pm_bd_s, if_pos rfl]
    · rw [e_X10_at, m_isThing (by omega) P.2.2.1 hT, pm_bd_s, b2_f hv, if_pos rfl]
