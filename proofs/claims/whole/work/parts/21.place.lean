theorem ou_lt {T R : Nat} {h : pm_Hp} (P : Pl T R h) : ∀ (n t : Nat), t < T → ou h n t < T := by
  intro n
  induction n with
  | zero => intro t ht; exact ht
  | succ n ih =>
    intro t ht
    unfold ou
    rcases pa_cases P ht with ⟨e1, -⟩ | ⟨p, hp, e1, -⟩
    · rw [e1]; exact ht
    · rw [e1]; exact ih p hp
/-- OUT, or in one that is -/
abbrev aw (h : pm_Hp) (t : Nat) : Prop := wq h (ou h 4 t) 5 = nI 100
theorem m_outermost {d T R t : Nat} {h : pm_Hp} (hd : 3 ≤ d) (P : Pl T R h) (ht : t < T) : pm_ev d 217 [.ref 169, .int (nI t)] h = some (nI (ou h 4 t), h) := by
  obtain ⟨d, rfl, -⟩ := dpos hd
  obtain ⟨rk, K⟩ := P.2.2.2.2.2.2.2.2.2
  rw [e_X10_outermost]
  exact (m_outL (by omega) P K 4 t _ ht (by have := (K t ht).1; omega)).1
theorem m_isOutItself {d t : Nat} {h : pm_Hp} (hd : 2 ≤ d) (ht : t < 16) : pm_ev d 215 [.ref 169, .int (nI t)] h = some (b2 (wq h t 5 = nI 100), h) := by
  obtain ⟨d, rfl, -⟩ := dpos hd
  rw [e_X10_isOutItself, m_of0 (by omega) h (nI t) (nI 5) t 5 rfl rfl ht (by omega), pm_bd_s]
  unfold b2
  split <;> rfl
theorem m_isOut {d T R t : Nat} {h : pm_Hp} (hd : 4 ≤ d) (P : Pl T R h) (ht : t < T) : pm_ev d 218 [.ref 169, .int (nI t)] h = some (b2 (aw h t), h) := by
  obtain ⟨d, rfl, -⟩ := dpos hd
  have h1 := ou_lt P 4 t ht
  have h2 := P.1
  rw [e_X10_isOut, m_outermost (by omega) P ht, pm_bd_s]
  rw [m_isOutItself (by omega) (by omega), pm_bd_s]
  rw [pm_bw_b2]
/-! the class's -/
theorem Pl.r5 {T R t : Nat} {h : pm_Hp} (P : Pl T R h) (ht : t < T) : h 6 t = wq h t 5 := P.2.2.2.2.2.2.1 t 5 ht (by omega) (by omega)
theorem Pl.r6 {T R t : Nat} {h : pm_Hp} (P : Pl T R h) (ht : t < T) : h 7 t = wq h t 6 := P.2.2.2.2.2.2.1 t 6 ht (by omega) (by omega)
theorem Pl.r0 {T R t : Nat} {h : pm_Hp} (P : Pl T R h) (ht : t < T) : h 11 t = wq h t 0 := P.2.2.2.2.2.2.1 t 0 ht (by omega) (by omega)
theorem c_isThing {d T : Nat} (hd : 1 ≤ d) {h : pm_Hp} (hT : h 1 11 = nI T) (v : Int32) : pm_ev d 6 [.ref 1, .int v] h = some (b2 (isT T v), h) := by
  obtain ⟨d, rfl, -⟩ := dpos hd
  rw [e_X1_isThing, hT]
  unfold b2
  by_cases h1 : v < 0 <;> by_cases h2 : v < nI T <;> simp [h1, h2]
theorem c_trunkOf {d T R t : Nat} {h : pm_Hp} (hd : 1 ≤ d) (P : Pl T R h) (ht : t < T) : pm_ev d 15 [.ref 1, .int (nI t)] h = some (o2 (pa h t), h) := by
  obtain ⟨d, rfl, -⟩ := dpos hd
  have hT := P.1
  rw [e_X1_trunkOf, pm_at_c (by omega) (by omega), P.r5 ht]
  rcases pa_cases P ht with ⟨e1, e2, e3, e4⟩ | ⟨p, hp, e1, e2, e3⟩
  · rw [e1]
    rcases e4 with e | ⟨r, hr, e⟩ | e
    · rw [e]; rfl
    · have hR := P.2.1
      rw [e, if_pos (nI_lt (by omega) (by omega))]; rfl
    · rw [e, if_neg (by decide), if_pos rfl]; rfl
  · rw [e1, e2, if_neg (nI_nlt (by omega) (by omega)), if_neg (fun q => by have := (nI_eq (by omega) (by omega)).mp q; omega), pk_sub (by omega), show 10 + p - 10 = p by omega]
    rfl
theorem c_outL {d T R : Nat} {h : pm_Hp} (hd : 1 ≤ d) (P : Pl T R h) {rk : Nat → Nat} (K : RK T h rk) : ∀ (n t s : Nat) (u : Value), t < T → rk t < n → s + n ≤ 16 → pm_rn d kX1_outermost 4 [.ref 1, u, .int (nI t), .int (nI s)] [] h = some (nI (ou h n t), h) := by
  intro n
  induction n with
  | zero => intro t s u ht hn; omega
  | succ n ih =>
    intro t s u ht hn hs
    have hT := P.1
    rw [b_X1_outermost_4, if_pos (nI_lt (by omega) (by omega)), c_trunkOf hd P ht, pm_bd_s]
    unfold ou
    rcases pa_cases P ht with ⟨e1, e2, e3, e4⟩ | ⟨p, hp, e1, e2, e3⟩
    · rw [e1]; rfl
    · rw [e1]
      show (if nI p = -1 then _ else _) = _
      rw [if_neg (by rw [nI_m1 (by omega)]; exact id), c_trunkOf hd P ht, pm_bd_s, e1, nI_1]
      have := (K t ht).2.2.1 p hp e2
      exact ih p (s + 1) u hp (by omega) (by omega)
theorem c_outermost {d T R t : Nat} {h : pm_Hp} (hd : 2 ≤ d) (P : Pl T R h) (ht : t < T) : pm_ev d 16 [.ref 1, .int (nI t)] h = some (nI (ou h 4 t), h) := by
  obtain ⟨d, rfl, -⟩ := dpos hd
  obtain ⟨rk, K⟩ := P.2.2.2.2.2.2.2.2.2
  rw [e_X1_outermost]
  exact c_outL (by omega) P K 4 t 0 _ ht (by have := (K t ht).1; omega) (by omega)
theorem c_isAway {d T R t : Nat} {h : pm_Hp} (hd : 3 ≤ d) (P : Pl T R h) (ht : t < T) : pm_ev d 17 [.ref 1, .int (nI t)] h = some (b2 (aw h t), h) := by
  obtain ⟨d, rfl, -⟩ := dpos hd
  have h1 := ou_lt P 4 t ht
  have h2 := P.1
  rw [e_X1_isAway, c_outermost (by omega) P ht, pm_bd_s]
  rw [pm_at_c (by omega) (by omega), P.r5 h1]
  unfold b2
  split <;> rfl
/-! trunks, holders, slots -/
theorem c_isTrunk_y {d T R t : Nat} {h : pm_Hp} (hd : 2 ≤ d) (P : Pl T R h) (ht : t < T) : pm_ev d 8 [.ref 1, .int (nI t)] h = some (b2 (wq h t 0 = nI 5), h) := by
  obtain ⟨d, rfl, -⟩ := dpos hd
  have hT := P.1
  rw [e_X1_isTrunk, c_isThing (by omega) P.2.2.2.1, pm_bd_s]
  rw [b2_t (isT_of (by omega) ht), if_neg (by decide), pm_at_c (by omega) (by omega), P.r0 ht]
  unfold b2
  split <;> rfl
theorem c_isTrunk_n {d T R : Nat} {h : pm_Hp} (hd : 2 ≤ d) (P : Pl T R h) {v : Int32} (hv : ¬ isT T v) : pm_ev d 8 [.ref 1, .int v] h = some (0, h) := by
  obtain ⟨d, rfl, -⟩ := dpos hd
  rw [e_X1_isTrunk, c_isThing (by omega) P.2.2.2.1, pm_bd_s]
  rw [b2_f hv, if_pos rfl]
theorem m_isTrunk_y {d T R t : Nat} {h : pm_Hp} (hd : 3 ≤ d) (P : Pl T R h) (ht : t < T) : pm_ev d 166 [.ref 169, .int (nI t)] h = some (b2 (wq h t 0 = nI 5), h) := by
  obtain ⟨d, rfl, -⟩ := dpos hd
  have hT := P.1
  rw [e_X10_isTrunk, m_isThing (by omega) P.2.2.1 hT, pm_bd_s]
  rw [b2_t (isT_of (by omega) ht), if_neg (by decide), m_of0 (by omega) h (nI t) 0 t 0 rfl rfl (by omega) (by omega), pm_bd_s]
  unfold b2
  split <;> rfl
theorem m_isTrunk_n {d T R : Nat} {h : pm_Hp} (hd : 3 ≤ d) (P : Pl T R h) {v : Int32} (hv : ¬ isT T v) : pm_ev d 166 [.ref 169, .int v] h = some (0, h) := by
  obtain ⟨d, rfl, -⟩ := dpos hd
  rw [e_X10_isTrunk, m_isThing (by omega) P.2.2.1 P.1, pm_bd_s]
  rw [b2_f hv, if_pos rfl]
theorem c_isWearable_y {d T R t : Nat} {h : pm_Hp} (hd : 2 ≤ d) (P : Pl T R h) (ht : t < T) : pm_ev d 9 [.ref 1, .int (nI t)] h = some (b2 (¬ wq h t 0 = nI 5), h) := by
  obtain ⟨d, rfl, -⟩ := dpos hd
  have hT := P.1
  rw [e_X1_isWearable, c_isThing (by omega) P.2.2.2.1, pm_bd_s]
  rw [b2_t (isT_of (by omega) ht), if_neg (by decide), pm_at_c (by omega) (by omega), P.r0 ht]
  unfold b2
  by_cases e : wq h t 0 = nI 5 <;> simp [e]
theorem c_isWearable_n {d T R : Nat} {h : pm_Hp} (hd : 2 ≤ d) (P : Pl T R h) {v : Int32} (hv : ¬ isT T v) : pm_ev d 9 [.ref 1, .int v] h = some (0, h) := by
  obtain ⟨d, rfl, -⟩ := dpos hd
  rw [e_X1_isWearable, c_isThing (by omega) P.2.2.2.1, pm_bd_s]
  rw [b2_f hv, if_pos rfl]
/-- the place of a holder's number: a rack, a trunk, none -/
theorem hold_cases {T R : Nat} {h : pm_Hp} (P : Pl T R h) (v : Int32) : (∃ r, r < R ∧ v = nI r) ∨ (∃ p, p < T ∧ v = nI (10 + p) ∧ wq h p 0 = nI 5) ∨ ((¬ isT R v) ∧ (v < nI 10 ∨ ¬ isT T (v - nI 10) ∨ ∃ p, p < T ∧ v = nI (10 + p) ∧ ¬ wq h p 0 = nI 5)) := by
  have hT := P.1
  have hR := P.2.1
  by_cases h1 : isT R v
  · exact Or.inl (isT_ex (by omega) h1)
  · refine Or.inr ?_
    by_cases h2 : v < nI 10
    · exact Or.inr ⟨h1, Or.inl h2⟩
    · by_cases h3 : isT T (v - nI 10)
      · obtain ⟨p, hp, e⟩ := isT_ex (by omega) h3
        have e2 : v = nI (10 + p) := by
          have : v = (v - nI 10) + nI 10 := (Int32.sub_add_cancel v (nI 10)).symm
          rw [this, e, nI_add, Nat.add_comm]
        by_cases h4 : wq h p 0 = nI 5
        · exact Or.inl ⟨p, hp, e2, h4⟩
        · exact Or.inr ⟨h1, Or.inr (Or.inr ⟨p, hp, e2, h4⟩)⟩
      · exact Or.inr ⟨h1, Or.inr (Or.inl h3)⟩
