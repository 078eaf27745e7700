theorem Pl.hR {T R : Nat} {h : pm_Hp} (P : Pl T R h) : h 1 13 = nI R := P.2.2.2.2.2.1
theorem Pl.rack {T R r : Nat} {h : pm_Hp} (P : Pl T R h) (hr : r < R) : h 15 r = h 170 (362 + r) ∧ ∃ k, k ≤ 8 ∧ h 170 (362 + r) = nI k := P.2.2.2.2.2.2.2.1 r hr
theorem c_isHolder_r {d T R r : Nat} {h : pm_Hp} (hd : 3 ≤ d) (P : Pl T R h) (hr : r < R) : pm_ev d 11 [.ref 1, .int (nI r)] h = some (1, h) := by
  obtain ⟨d, rfl, -⟩ := dpos hd
  have := P.2.1
  rw [e_X1_isHolder, P.hR, if_pos (nI_lt (by omega) (by omega)), if_neg (nI_pos (by omega)), if_pos (nI_lt hr (by omega))]
theorem c_isHolder_t {d T R p : Nat} {h : pm_Hp} (hd : 3 ≤ d) (P : Pl T R h) (hp : p < T) (hk : wq h p 0 = nI 5) : pm_ev d 11 [.ref 1, .int (nI (10 + p))] h = some (1, h) := by
  obtain ⟨d, rfl, -⟩ := dpos hd
  have := P.1
  rw [e_X1_isHolder, if_neg (nI_nlt (by omega) (by omega)), pk_sub (by omega), show 10 + p - 10 = p by omega, c_isTrunk_y (by omega) P hp, pm_bd_s, pm_bw_b2, b2_t hk]
theorem c_isHolder_n {d T R : Nat} {h : pm_Hp} (hd : 3 ≤ d) (P : Pl T R h) {v : Int32} (h1 : ¬ isT R v) (h2 : v < nI 10 ∨ ¬ isT T (v - nI 10) ∨ ∃ p, p < T ∧ v = nI (10 + p) ∧ ¬ wq h p 0 = nI 5) : pm_ev d 11 [.ref 1, .int v] h = some (0, h) := by
  obtain ⟨d, rfl, -⟩ := dpos hd
  have := P.1
  rw [e_X1_isHolder, P.hR]
  by_cases g : v < nI 10
  · rw [if_pos g]
    by_cases g1 : v < 0
    · rw [if_pos g1]
    · rw [if_neg g1, if_neg (fun q => h1 ⟨g1, q⟩)]
  · rw [if_neg g]
    rcases h2 with h2 | h2 | ⟨p, hp, e, hk⟩
    · exact absurd h2 g
    · rw [c_isTrunk_n (by omega) P h2, pm_bd_s, pm_bw_0]
    · rw [e, pk_sub (by omega), show 10 + p - 10 = p by omega, c_isTrunk_y (by omega) P hp, pm_bd_s, pm_bw_b2, b2_f hk]
theorem Pl.isRb {T R : Nat} {h : pm_Hp} (P : Pl T R h) (v : Int32) : (¬ v < 0 ∧ v ≤ h 170 326 - 1) = isT R v := by
  have := P.2.1
  rw [P.2.2.2.2.1, le_prd v (by omega)]
theorem m_isHolder_r {d T R r : Nat} {h : pm_Hp} (hd : 4 ≤ d) (P : Pl T R h) (hr : r < R) : pm_ev d 222 [.ref 169, .int (nI r)] h = some (1, h) := by
  obtain ⟨d, rfl, -⟩ := dpos hd
  have := P.2.1
  rw [e_X10_isHolder, m_isIn (by omega), pm_bd_s, b2_t (by rw [P.isRb]; exact isT_of (by omega) hr), if_neg (by decide)]
theorem m_isHolder_t {d T R p : Nat} {h : pm_Hp} (hd : 4 ≤ d) (P : Pl T R h) (hp : p < T) (hk : wq h p 0 = nI 5) : pm_ev d 222 [.ref 169, .int (nI (10 + p))] h = some (1, h) := by
  obtain ⟨d, rfl, -⟩ := dpos hd
  have := P.1
  have := P.2.1
  rw [e_X10_isHolder, m_isIn (by omega), pm_bd_s, b2_f (by rw [P.isRb]; exact fun q => nI_nlt (by omega) (by omega) q.2), if_pos rfl, pk_sub (by omega), show 10 + p - 10 = p by omega, m_isTrunk_y (by omega) P hp, pm_bd_s, b2_t hk, if_neg (by decide)]
theorem m_isHolder_n {d T R : Nat} {h : pm_Hp} (hd : 4 ≤ d) (P : Pl T R h) {v : Int32} (h1 : ¬ isT R v) (h2 : v < nI 10 ∨ ¬ isT T (v - nI 10) ∨ ∃ p, p < T ∧ v = nI (10 + p) ∧ ¬ wq h p 0 = nI 5) (h3 : v < nI 10 → ¬ isT T (v - nI 10)) : pm_ev d 222 [.ref 169, .int v] h = some (0, h) := by
  obtain ⟨d, rfl, -⟩ := dpos hd
  have := P.1
  rw [e_X10_isHolder, m_isIn (by omega), pm_bd_s, b2_f (by rw [P.isRb]; exact h1), if_pos rfl]
  rcases h2 with h2 | h2 | ⟨p, hp, e, hk⟩
  · rw [m_isTrunk_n (by omega) P (h3 h2), pm_bd_s, if_pos rfl]
  · rw [m_isTrunk_n (by omega) P h2, pm_bd_s, if_pos rfl]
  · rw [e, pk_sub (by omega), show 10 + p - 10 = p by omega, m_isTrunk_y (by omega) P hp, pm_bd_s, b2_f hk, if_pos rfl]
/-- slots -/
theorem c_isSlot_r {d T R r : Nat} {h : pm_Hp} (hd : 4 ≤ d) (P : Pl T R h) (hr : r < R) (s : Int32) : pm_ev d 12 [.ref 1, .int (nI r), .int s] h = some (b2 (¬ s < 0 ∧ s < h 170 (362 + r)), h) := by
  obtain ⟨d, rfl, -⟩ := dpos hd
  have := P.2.1
  rw [e_X1_isSlot, c_isHolder_r (by omega) P hr, pm_bd_s, if_neg (by decide), if_pos (nI_lt (by omega) (by omega)), pm_at_c (by omega) (by omega), (P.rack hr).1]
  unfold b2
  by_cases h1 : s < 0 <;> by_cases h2 : s < h 170 (362 + r) <;> simp [h1, h2]
theorem c_isSlot_t {d T R p : Nat} {h : pm_Hp} (hd : 4 ≤ d) (P : Pl T R h) (hp : p < T) (hk : wq h p 0 = nI 5) (s : Int32) : pm_ev d 12 [.ref 1, .int (nI (10 + p)), .int s] h = some (b2 (isT 4 s), h) := by
  obtain ⟨d, rfl, -⟩ := dpos hd
  have := P.1
  rw [e_X1_isSlot, c_isHolder_t (by omega) P hp hk, pm_bd_s, if_neg (by decide), if_neg (nI_nlt (by omega) (by omega))]
  unfold b2
  by_cases h1 : s < 0 <;> by_cases h2 : s < nI 4 <;> simp [h1, h2]
theorem c_isSlot_n {d T R : Nat} {h : pm_Hp} (hd : 4 ≤ d) (P : Pl T R h) {v : Int32} (h1 : ¬ isT R v) (h2 : v < nI 10 ∨ ¬ isT T (v - nI 10) ∨ ∃ p, p < T ∧ v = nI (10 + p) ∧ ¬ wq h p 0 = nI 5) (s : Int32) : pm_ev d 12 [.ref 1, .int v, .int s] h = some (0, h) := by
  obtain ⟨d, rfl, -⟩ := dpos hd
  rw [e_X1_isSlot, c_isHolder_n (by omega) P h1 h2, pm_bd_s, if_pos rfl]
theorem m_isSlot_r {d T R r : Nat} {h : pm_Hp} (hd : 5 ≤ d) (P : Pl T R h) (hr : r < R) (s : Int32) : pm_ev d 224 [.ref 169, .int (nI r), .int s] h = some (b2 (¬ s < 0 ∧ s < h 170 (362 + r)), h) := by
  obtain ⟨d, rfl, -⟩ := dpos hd
  have := P.2.1
  rw [e_X10_isSlot, m_isHolder_r (by omega) P hr, pm_bd_s, if_neg (by decide)]
  have e1 : pm_ev d 223 [.ref 169, .int (nI r)] h = some (h 170 (362 + r), h) := by
    obtain ⟨d, rfl, -⟩ := dpos (show 0 + 1 ≤ d by omega)
    rw [e_X10_slotsOf, if_pos (nI_lt (by omega) (by omega)), pm_at_n (j := 362 + r) (by rw [nI_add]) (by omega) (by omega)]
  rw [e1, pm_bd_s, m_isIn (by omega), pm_bd_s]
  obtain ⟨k, hk, e2⟩ := (P.rack hr).2
  rw [e2]
  simp only [le_prd s (show k < 2 ^ 30 by omega)]
  unfold b2
  by_cases h1 : s < 0 <;> by_cases h2 : s < nI k <;> simp [h1, h2]
theorem m_isSlot_t {d T R p : Nat} {h : pm_Hp} (hd : 5 ≤ d) (P : Pl T R h) (hp : p < T) (hk : wq h p 0 = nI 5) (s : Int32) : pm_ev d 224 [.ref 169, .int (nI (10 + p)), .int s] h = some (b2 (isT 4 s), h) := by
  obtain ⟨d, rfl, -⟩ := dpos hd
  have := P.1
  rw [e_X10_isSlot, m_isHolder_t (by omega) P hp hk, pm_bd_s, if_neg (by decide)]
  have e1 : pm_ev d 223 [.ref 169, .int (nI (10 + p))] h = some (nI 4, h) := by
    obtain ⟨d, rfl, -⟩ := dpos (show 0 + 1 ≤ d by omega)
    rw [e_X10_slotsOf, if_neg (nI_nlt (by omega) (by omega))]
  rw [e1, pm_bd_s, m_isIn (by omega), pm_bd_s]
  simp only [le_prd s (show 4 < 2 ^ 30 by omega)]
  unfold b2
  by_cases h1 : s < 0 <;> by_cases h2 : s < nI 4 <;> simp [h1, h2]
theorem m_isSlot_n {d T R : Nat} {h : pm_Hp} (hd : 5 ≤ d) (P : Pl T R h) {v : Int32} (h1 : ¬ isT R v) (h2 : v < nI 10 ∨ ¬ isT T (v - nI 10) ∨ ∃ p, p < T ∧ v = nI (10 + p) ∧ ¬ wq h p 0 = nI 5) (h3 : v < nI 10 → ¬ isT T (v - nI 10)) (s : Int32) : pm_ev d 224 [.ref 169, .int v, .int s] h = some (0, h) := by
  obtain ⟨d, rfl, -⟩ := dpos hd
  rw [e_X10_isSlot, m_isHolder_n (by omega) P h1 h2 h3, pm_bd_s, if_pos rfl]
/-- what is below 10, less 10, is no small number -/
theorem sub10 {T : Nat} (hT : T ≤ 16) {v : Int32} (h : v < nI 10) : ¬ isT T (v - nI 10) := by
  intro q
  obtain ⟨k, hk, e⟩ := isT_ex (by omega) q
  have e2 : v = nI (10 + k) := by
    have : v = (v - nI 10) + nI 10 := (Int32.sub_add_cancel v (nI 10)).symm
    rw [this, e, nI_add, Nat.add_comm]
  rw [e2] at h
  exact nI_nlt (by omega) (by omega) h
/-- what is in a slot -/
abbrev fs (h : pm_Hp) (T : Nat) (v s : Int32) : Option Nat := fst1 (fun t => wq h t 5 = v ∧ wq h t 6 = s) 0 T
theorem c_inSlot {d T R : Nat} {h : pm_Hp} (hd : 1 ≤ d) (P : Pl T R h) (v s : Int32) : pm_ev d 14 [.ref 1, .int v, .int s] h = some (o2 (fs h T v s), h) := by
  obtain ⟨d, rfl, -⟩ := dpos hd
  have hT := P.1
  rw [e_X1_inSlot]
  refine fst1_lp (fun i => pm_rn d kX1_inSlot 2 [.ref 1, .int v, .int s, .int (nI i)] [] h) _ T h (fun i hi => ?_) ?_ T 0 (by omega)
  · show pm_rn d kX1_inSlot 2 [.ref 1, .int v, .int s, .int (nI i)] [] h = _
    rw [b_X1_inSlot_2, P.2.2.2.1, if_pos (nI_lt hi (by omega)), pm_at_c (by omega) (by omega), pm_at_c (by omega) (by omega), P.r5 hi, P.r6 hi, nI_1]
    by_cases h1 : wq h i 5 = v <;> by_cases h2 : wq h i 6 = s <;> simp [h1, h2]
  · show pm_rn d kX1_inSlot 2 [.ref 1, .int v, .int s, .int (nI T)] [] h = _
    rw [b_X1_inSlot_2, P.2.2.2.1, if_neg (nI_nlt (by omega) (by omega))]
theorem m_inSlot {d T R : Nat} {h : pm_Hp} (hd : 2 ≤ d) (P : Pl T R h) (v s : Int32) : pm_ev d 225 [.ref 169, .int v, .int s] h = some (o2 (fs h T v s), h) := by
  obtain ⟨d, rfl, -⟩ := dpos hd
  have hT := P.1
  rw [e_X10_inSlot]
  refine fst1_lp (fun i => pm_rn d kX10_inSlot 2 [.ref 169, .int v, .int s, .int (nI i)] [] h) _ T h (fun i hi => ?_) ?_ T 0 (by omega)
  · show pm_rn d kX10_inSlot 2 [.ref 169, .int v, .int s, .int (nI i)] [] h = _
    rw [b_X10_inSlot_2, P.2.2.1, if_pos (nI_lt hi (by omega)), m_of0 (by omega) h (nI i) (nI 5) i 5 rfl rfl (by omega) (by omega), pm_bd_s, m_of0 (by omega) h (nI i) (nI 6) i 6 rfl rfl (by omega) (by omega), pm_bd_s, nI_1]
    by_cases h1 : wq h i 5 = v <;> by_cases h2 : wq h i 6 = s <;> simp [h1, h2]
  · show pm_rn d kX10_inSlot 2 [.ref 169, .int v, .int s, .int (nI T)] [] h = _
    rw [b_X10_inSlot_2, P.2.2.1, if_neg (nI_nlt (by omega) (by omega))]
/-! in what, at any depth -/
def inH (h : pm_Hp) (v : Int32) : Nat → Nat → Prop
  | 0, _ => False
  | n + 1, t => wq h t 5 = v ∨ match pa h t with
    | none => False
    | some q => inH h v n q
theorem c_isInL {d T R : Nat} {h : pm_Hp} (hd : 1 ≤ d) (P : Pl T R h) {rk : Nat → Nat} (K : RK T h rk) (v : Int32) : ∀ (n t s : Nat) (u : Value), t < T → rk t < n → s + n < 16 → (inH h v n t → pm_rn d kX1_isIn 5 [.ref 1, u, .int v, .int (nI t), .int (nI s)] [] h = some (1, h)) ∧ (¬ inH h v n t → pm_rn d kX1_isIn 5 [.ref 1, u, .int v, .int (nI t), .int (nI s)] [] h = some (0, h)) := by
  intro n
  induction n with
  | zero => intro t s u ht hn; omega
  | succ n ih =>
    intro t s u ht hn hs
    have hT := P.1
    rw [b_X1_isIn_5, if_pos (nI_lt (by omega) (by omega)), if_neg (by rw [nI_m1 (by omega)]; exact id), pm_at_c (by omega) (by omega), P.r5 ht]
    unfold inH
    by_cases e : wq h t 5 = v
    · rw [if_pos e]
      exact ⟨fun _ => rfl, fun q => absurd (Or.inl e) q⟩
    · rw [if_neg e, c_trunkOf hd P ht, pm_bd_s, nI_1]
      rcases pa_cases P ht with ⟨e1, e2, e3, e4⟩ | ⟨p, hp, e1, e2, e3⟩
      · rw [e1]
        refine ⟨fun q => (by rcases q with q | q; exact absurd q e; exact q.elim), fun _ => ?_⟩
        show pm_rn d kX1_isIn 5 [.ref 1, u, .int v, .int (-1), .int (nI (s + 1))] [] h = _
        rw [b_X1_isIn_5, if_pos (nI_lt (by omega) (by omega)), if_pos rfl]
      · rw [e1]
        have := (K t ht).2.2.1 p hp e2
        have h2 := ih p (s + 1) u hp (by omega) (by omega)
        exact ⟨fun q => h2.1 (q.resolve_left e), fun q => h2.2 (fun z => q (Or.inr z))⟩
theorem c_isIn {d T R t : Nat} {h : pm_Hp} (hd : 2 ≤ d) (P : Pl T R h) (ht : t < T) (v : Int32) : (inH h v 4 t → pm_ev d 20 [.ref 1, .int (nI t), .int v] h = some (1, h)) ∧ (¬ inH h v 4 t → pm_ev d 20 [.ref 1, .int (nI t), .int v] h = some (0, h)) := by
  obtain ⟨d, rfl, -⟩ := dpos hd
  obtain ⟨rk, K⟩ := P.2.2.2.2.2.2.2.2.2
  rw [e_X1_isIn]
  exact c_isInL (by omega) P K v 4 t 0 _ ht (by have := (K t ht).1; omega) (by omega)
theorem m_isInL {d T R p0 : Nat} {h : pm_Hp} (hd : 2 ≤ d) (P : Pl T R h) {rk : Nat → Nat} (K : RK T h rk) (hp0 : p0 < T) : ∀ (n t : Nat) (u : Value), t < T → rk t < n → (inH h (nI (10 + p0)) n t → pm_rn d kX10_isInside 2 [.ref 169, u, .int (nI p0), .int (nI t)] [] h = some (1, h)) ∧ (¬ inH h (nI (10 + p0)) n t → pm_rn d kX10_isInside 2 [.ref 169, u, .int (nI p0), .int (nI t)] [] h = some (0, h)) := by
  intro n
  induction n with
  | zero => intro t u ht hn; omega
  | succ n ih =>
    intro t u ht hn
    have hT := P.1
    rw [b_X10_isInside_2, m_of0 (by omega) h (nI t) (nI 5) t 5 rfl rfl (by omega) (by omega), pm_bd_s, m_isTrunkHolder hd, pm_bd_s]
    unfold inH
    rcases pa_cases P ht with ⟨e1, e2, e3, e4⟩ | ⟨p, hp, e1, e2, e3⟩
    · rw [e1, b2_f e2, if_pos rfl]
      exact ⟨fun q => (by rcases q with q | q; exact absurd q (e3 p0 hp0); exact q.elim), fun _ => rfl⟩
    · rw [e1, e2, b2_t ⟨nI_nlt (by omega) (by omega), nI_le (by omega) (by omega)⟩, if_neg (by decide), m_of0 (by omega) h (nI t) (nI 5) t 5 rfl rfl (by omega) (by omega), pm_bd_s, e2, pk_sub (by omega), show 10 + p - 10 = p by omega]
      by_cases g : p = p0
      · subst g
        rw [if_pos rfl]
        exact ⟨fun _ => rfl, fun q => absurd (Or.inl rfl) q⟩
      · rw [if_neg (fun q => g ((nI_eq (by omega) (by omega)).mp q))]
        have := (K t ht).2.2.1 p hp e2
        have h2 := ih p u hp (by omega)
        refine ⟨fun q => h2.1 (q.resolve_left (fun z => ?_)), fun q => h2.2 (fun z => q (Or.inr z))⟩
        have := (nI_eq (by omega) (by omega)).mp z
        omega
theorem m_isInside {d T R t p0 : Nat} {h : pm_Hp} (hd : 3 ≤ d) (P : Pl T R h) (ht : t < T) (hp0 : p0 < T) : (inH h (nI (10 + p0)) 4 t → pm_ev d 219 [.ref 169, .int (nI t), .int (nI p0)] h = some (1, h)) ∧ (¬ inH h (nI (10 + p0)) 4 t → pm_ev d 219 [.ref 169, .int (nI t), .int (nI p0)] h = some (0, h)) := by
  obtain ⟨d, rfl, -⟩ := dpos hd
  obtain ⟨rk, K⟩ := P.2.2.2.2.2.2.2.2.2
  rw [e_X10_isInside]
  exact m_isInL (by omega) P K hp0 4 t _ ht (by have := (K t ht).1; omega)
