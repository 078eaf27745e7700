/-! the model by itself: places without the class's rows -/
def Pm (T R : Nat) (h : pm_Hp) : Prop := T ≤ 16 ∧ R ≤ 4 ∧ h 170 324 = nI T ∧ True ∧ h 170 326 = nI R ∧ True ∧ True ∧ (∀ r, r < R → True ∧ ∃ k, k ≤ 8 ∧ h 170 (362 + r) = nI k) ∧ (∀ t, t < T → HD T R h t) ∧ ∃ rk, RK T h rk
theorem Pl.m {T R : Nat} {h : pm_Hp} (P : Pl T R h) : Pm T R h := by
  obtain ⟨p1, p2, p3, p4, p5, p6, p7, p8, p9, p10⟩ := P
  exact ⟨p1, p2, p3, trivial, p5, trivial, trivial, fun r hr => ⟨trivial, (p8 r hr).2⟩, p9, p10⟩
theorem Pm.eq {T R : Nat} {h h' : pm_Hp} (e : h' 170 = h 170) (P : Pm T R h) : Pm T R h' := by
  unfold Pm HD RK at P ⊢
  simp only [wq, e] at P ⊢
  exact P
theorem pa_casesM {T R t : Nat} {h : pm_Hp} (P : Pm T R h) (ht : t < T) : (pa h t = none ∧ (¬ (¬ wq h t 5 < nI 10 ∧ wq h t 5 ≤ nI 25)) ∧ (∀ p, p < T → wq h t 5 ≠ nI (10 + p)) ∧ (wq h t 5 = -1 ∨ (∃ r, r < R ∧ wq h t 5 = nI r) ∨ wq h t 5 = nI 100)) ∨ (∃ p, p < T ∧ pa h t = some p ∧ wq h t 5 = nI (10 + p) ∧ wq h p 0 = nI 5) := by
  obtain ⟨hT, hR, -, -, -, -, -, -, hd, -⟩ := P
  have key : ∀ v : Int32, wq h t 5 = v → ¬ (¬ v < nI 10 ∧ v ≤ nI 25) → (∀ p, p < T → v ≠ nI (10 + p)) → (v = -1 ∨ (∃ r, r < R ∧ v = nI r) ∨ v = nI 100) → (pa h t = none ∧ (¬ (¬ wq h t 5 < nI 10 ∧ wq h t 5 ≤ nI 25)) ∧ (∀ p, p < T → wq h t 5 ≠ nI (10 + p)) ∧ (wq h t 5 = -1 ∨ (∃ r, r < R ∧ wq h t 5 = nI r) ∨ wq h t 5 = nI 100)) := by
    intro v hv h1 h2 h3
    unfold pa
    rw [hv]
    exact ⟨if_neg h1, h1, h2, h3⟩
  rcases hd t ht with e | ⟨r, hr, e⟩ | ⟨p, hp, e, hk⟩ | e
  · refine Or.inl (key _ e (fun q => q.1 (by decide)) (fun p hp q => ?_) (Or.inl rfl))
    rw [nI_m1' (by omega)] at q
    exact q
  · refine Or.inl (key _ e (fun q => q.1 (nI_lt (by omega) (by omega))) (fun p hp q => ?_) (Or.inr (Or.inl ⟨r, hr, rfl⟩)))
    have := (nI_eq (by omega) (by omega)).mp q
    omega
  · refine Or.inr ⟨p, hp, ?_, e, hk⟩
    unfold pa
    rw [e, if_pos ⟨nI_nlt (by omega) (by omega), nI_le (by omega) (by omega)⟩, nI_clamp (by omega)]
    congr 1
    omega
  · refine Or.inl (key _ e (fun q => ?_) (fun p hp q => ?_) (Or.inr (Or.inr rfl)))
    · exact absurd q.2 (by decide)
    · have := (nI_eq (by omega) (by omega)).mp q
      omega
theorem ou_ltM {T R : Nat} {h : pm_Hp} (P : Pm T R h) : ∀ (n t : Nat), t < T → ou h n t < T := by
  intro n
  induction n with
  | zero => intro t ht; exact ht
  | succ n ih =>
    intro t ht
    unfold ou
    rcases pa_casesM P ht with ⟨e1, -⟩ | ⟨p, hp, e1, -⟩
    · rw [e1]; exact ht
    · rw [e1]; exact ih p hp
theorem n_outL {d T R : Nat} {h : pm_Hp} (hd : 2 ≤ d) (P : Pm T R h) {rk : Nat → Nat} (K : RK T h rk) : ∀ (n t : Nat) (u : Value), t < T → rk t < n → pm_rn d kX10_outermost 2 [.ref 169, u, .int (nI t)] [] h = some (nI (ou h n t), h) ∧ ou h n t < T := by
  intro n
  induction n with
  | zero => intro t u ht hn; omega
  | succ n ih =>
    intro t u ht hn
    have hT := P.1
    rw [b_X10_outermost_2, m_of0 (by omega) h (nI t) (nI 5) t 5 rfl rfl (by omega) (by omega), pm_bd_s]
    rw [m_isTrunkHolder hd, pm_bd_s]
    unfold ou
    rcases pa_casesM P ht with ⟨e1, e2, e3, e4⟩ | ⟨p, hp, e1, e2, e3⟩
    · rw [e1, b2_f e2, if_pos rfl]
      exact ⟨rfl, ht⟩
    · rw [e1, e2, b2_t ⟨nI_nlt (by omega) (by omega), nI_le (by omega) (by omega)⟩, if_neg (by decide), m_of0 (by omega) h (nI t) (nI 5) t 5 rfl rfl (by omega) (by omega), pm_bd_s]
      rw [e2, pk_sub (by omega), show 10 + p - 10 = p by omega]
      have := (K t ht).2.2.1 p hp e2
      exact ih p u hp (by omega)
theorem n_outermost {d T R t : Nat} {h : pm_Hp} (hd : 3 ≤ d) (P : Pm T R h) (ht : t < T) : pm_ev d 217 [.ref 169, .int (nI t)] h = some (nI (ou h 4 t), h) := by
  obtain ⟨d, rfl, -⟩ := dpos hd
  obtain ⟨rk, K⟩ := P.2.2.2.2.2.2.2.2.2
  rw [e_X10_outermost]
  exact (n_outL (by omega) P K 4 t _ ht (by have := (K t ht).1; omega)).1
theorem n_isOut {d T R t : Nat} {h : pm_Hp} (hd : 4 ≤ d) (P : Pm T R h) (ht : t < T) : pm_ev d 218 [.ref 169, .int (nI t)] h = some (b2 (aw h t), h) := by
  obtain ⟨d, rfl, -⟩ := dpos hd
  have h1 := ou_ltM P 4 t ht
  have h2 := P.1
  rw [e_X10_isOut, n_outermost (by omega) P ht, pm_bd_s]
  rw [m_isOutItself (by omega) (by omega), pm_bd_s]
  rw [pm_bw_b2]
theorem n_isTrunk_y {d T R t : Nat} {h : pm_Hp} (hd : 3 ≤ d) (P : Pm T R h) (ht : t < T) : pm_ev d 166 [.ref 169, .int (nI t)] h = some (b2 (wq h t 0 = nI 5), h) := by
  obtain ⟨d, rfl, -⟩ := dpos hd
  have hT := P.1
  rw [e_X10_isTrunk, m_isThing (by omega) P.2.2.1 hT, pm_bd_s]
  rw [b2_t (isT_of (by omega) ht), if_neg (by decide), m_of0 (by omega) h (nI t) 0 t 0 rfl rfl (by omega) (by omega), pm_bd_s]
  unfold b2
  split <;> rfl
theorem n_isTrunk_n {d T R : Nat} {h : pm_Hp} (hd : 3 ≤ d) (P : Pm T R h) {v : Int32} (hv : ¬ isT T v) : pm_ev d 166 [.ref 169, .int v] h = some (0, h) := by
  obtain ⟨d, rfl, -⟩ := dpos hd
  rw [e_X10_isTrunk, m_isThing (by omega) P.2.2.1 P.1, pm_bd_s]
  rw [b2_f hv, if_pos rfl]
theorem Pm.rack {T R r : Nat} {h : pm_Hp} (P : Pm T R h) (hr : r < R) : True ∧ ∃ k, k ≤ 8 ∧ h 170 (362 + r) = nI k := P.2.2.2.2.2.2.2.1 r hr
theorem Pm.isRb {T R : Nat} {h : pm_Hp} (P : Pm T R h) (v : Int32) : (¬ v < 0 ∧ v ≤ h 170 326 - 1) = isT R v := by
  have := P.2.1
  rw [P.2.2.2.2.1, le_prd v (by omega)]
theorem n_isHolder_r {d T R r : Nat} {h : pm_Hp} (hd : 4 ≤ d) (P : Pm T R h) (hr : r < R) : pm_ev d 222 [.ref 169, .int (nI r)] h = some (1, h) := by
  obtain ⟨d, rfl, -⟩ := dpos hd
  have := P.2.1
  rw [e_X10_isHolder, m_isIn (by omega), pm_bd_s, b2_t (by rw [P.isRb]; exact isT_of (by omega) hr), if_neg (by decide)]
theorem n_isHolder_t {d T R p : Nat} {h : pm_Hp} (hd : 4 ≤ d) (P : Pm T R h) (hp : p < T) (hk : wq h p 0 = nI 5) : pm_ev d 222 [.ref 169, .int (nI (10 + p))] h = some (1, h) := by
  obtain ⟨d, rfl, -⟩ := dpos hd
  have := P.1
  have := P.2.1
  rw [e_X10_isHolder, m_isIn (by omega), pm_bd_s, b2_f (by rw [P.isRb]; exact fun q => nI_nlt (by omega) (by omega) q.2), if_pos rfl, pk_sub (by omega), show 10 + p - 10 = p by omega, n_isTrunk_y (by omega) P hp, pm_bd_s, b2_t hk, if_neg (by decide)]
theorem n_isHolder_n {d T R : Nat} {h : pm_Hp} (hd : 4 ≤ d) (P : Pm T R h) {v : Int32} (h1 : ¬ isT R v) (h2 : v < nI 10 ∨ ¬ isT T (v - nI 10) ∨ ∃ p, p < T ∧ v = nI (10 + p) ∧ ¬ wq h p 0 = nI 5) (h3 : v < nI 10 → ¬ isT T (v - nI 10)) : pm_ev d 222 [.ref 169, .int v] h = some (0, h) := by
  obtain ⟨d, rfl, -⟩ := dpos hd
  have := P.1
  rw [e_X10_isHolder, m_isIn (by omega), pm_bd_s, b2_f (by rw [P.isRb]; exact h1), if_pos rfl]
  rcases h2 with h2 | h2 | ⟨p, hp, e, hk⟩
  · rw [n_isTrunk_n (by omega) P (h3 h2), pm_bd_s, if_pos rfl]
  · rw [n_isTrunk_n (by omega) P h2, pm_bd_s, if_pos rfl]
  · rw [e, pk_sub (by omega), show 10 + p - 10 = p by omega, n_isTrunk_y (by omega) P hp, pm_bd_s, b2_f hk, if_pos rfl]
theorem n_isSlot_r {d T R r : Nat} {h : pm_Hp} (hd : 5 ≤ d) (P : Pm T R h) (hr : r < R) (s : Int32) : pm_ev d 224 [.ref 169, .int (nI r), .int s] h = some (b2 (¬ s < 0 ∧ s < h 170 (362 + r)), h) := by
  obtain ⟨d, rfl, -⟩ := dpos hd
  have := P.2.1
  rw [e_X10_isSlot, n_isHolder_r (by omega) P hr, pm_bd_s, if_neg (by decide)]
  have e1 : pm_ev d 223 [.ref 169, .int (nI r)] h = some (h 170 (362 + r), h) := by
    obtain ⟨d, rfl, -⟩ := dpos (show 0 + 1 ≤ d by omega)
    rw [e_X10_slotsOf, if_pos (nI_lt (by omega) (by omega)), pm_at_n (j := 362 + r) (by rw [nI_add]) (by omega) (by omega)]
  rw [e1, pm_bd_s, m_isIn (by omega), pm_bd_s]
  obtain ⟨k, hk, e2⟩ := (P.rack hr).2
  rw [e2]
  simp only [le_prd s (show k < 2 ^ 30 by omega)]
  unfold b2
  by_cases h1 : s < 0 <;> by_cases h2 : s < nI k <;> simp [h1, h2]
theorem n_isSlot_t {d T R p : Nat} {h : pm_Hp} (hd : 5 ≤ d) (P : Pm T R h) (hp : p < T) (hk : wq h p 0 = nI 5) (s : Int32) : pm_ev d 224 [.ref 169, .int (nI (10 + p)), .int s] h = some (b2 (isT 4 s), h) := by
  obtain ⟨d, rfl, -⟩ := dpos hd
  have := P.1
  rw [e_X10_isSlot, n_isHolder_t (by omega) P hp hk, pm_bd_s, if_neg (by decide)]
  have e1 : pm_ev d 223 [.ref 169, .int (nI (10 + p))] h = some (nI 4, h) := by
    obtain ⟨d, rfl, -⟩ := dpos (show 0 + 1 ≤ d by omega)
    rw [e_X10_slotsOf, if_neg (nI_nlt (by omega) (by omega))]
  rw [e1, pm_bd_s, m_isIn (by omega), pm_bd_s]
  simp only [le_prd s (show 4 < 2 ^ 30 by omega)]
  unfold b2
  by_cases h1 : s < 0 <;> by_cases h2 : s < nI 4 <;> simp [h1, h2]
theorem n_isSlot_n {d T R : Nat} {h : pm_Hp} (hd : 5 ≤ d) (P : Pm T R h) {v : Int32} (h1 : ¬ isT R v) (h2 : v < nI 10 ∨ ¬ isT T (v - nI 10) ∨ ∃ p, p < T ∧ v = nI (10 + p) ∧ ¬ wq h p 0 = nI 5) (h3 : v < nI 10 → ¬ isT T (v - nI 10)) (s : Int32) : pm_ev d 224 [.ref 169, .int v, .int s] h = some (0, h) := by
  obtain ⟨d, rfl, -⟩ := dpos hd
  rw [e_X10_isSlot, n_isHolder_n (by omega) P h1 h2 h3, pm_bd_s, if_pos rfl]
theorem n_inSlot {d T R : Nat} {h : pm_Hp} (hd : 2 ≤ d) (P : Pm T R h) (v s : Int32) : pm_ev d 225 [.ref 169, .int v, .int s] h = some (o2 (fs h T v s), h) := by
  obtain ⟨d, rfl, -⟩ := dpos hd
  have hT := P.1
  rw [e_X10_inSlot]
  refine fst1_lp (fun i => pm_rn d kX10_inSlot 2 [.ref 169, .int v, .int s, .int (nI i)] [] h) _ T h (fun i hi => ?_) ?_ T 0 (by omega)
  · show pm_rn d kX10_inSlot 2 [.ref 169, .int v, .int s, .int (nI i)] [] h = _
    rw [b_X10_inSlot_2, P.2.2.1, if_pos (nI_lt hi (by omega)), m_of0 (by omega) h (nI i) (nI 5) i 5 rfl rfl (by omega) (by omega), pm_bd_s, m_of0 (by omega) h (nI i) (nI 6) i 6 rfl rfl (by omega) (by omega), pm_bd_s, nI_1]
    by_cases h1 : wq h i 5 = v <;> by_cases h2 : wq h i 6 = s <;> simp [h1, h2]
  · show pm_rn d kX10_inSlot 2 [.ref 169, .int v, .int s, .int (nI T)] [] h = _
    rw [b_X10_inSlot_2, P.2.2.1, if_neg (nI_nlt (by omega) (by omega))]
theorem n_isInL {d T R p0 : Nat} {h : pm_Hp} (hd : 2 ≤ d) (P : Pm T R h) {rk : Nat → Nat} (K : RK T h rk) (hp0 : p0 < T) : ∀ (n t : Nat) (u : Value), t < T → rk t < n → (inH h (nI (10 + p0)) n t → pm_rn d kX10_isInside 2 [.ref 169, u, .int (nI p0), .int (nI t)] [] h = some (1, h)) ∧ (¬ inH h (nI (10 + p0)) n t → pm_rn d kX10_isInside 2 [.ref 169, u, .int (nI p0), .int (nI t)] [] h = some (0, h)) := by
  intro n
  induction n with
  | zero => intro t u ht hn; omega
  | succ n ih =>
    intro t u ht hn
    have hT := P.1
    rw [b_X10_isInside_2, m_of0 (by omega) h (nI t) (nI 5) t 5 rfl rfl (by omega) (by omega), pm_bd_s, m_isTrunkHolder hd, pm_bd_s]
    unfold inH
    rcases pa_casesM P ht with ⟨e1, e2, e3, e4⟩ | ⟨p, hp, e1, e2, e3⟩
    · rw [e1, b2_f e2, if_pos rfl]
      exact ⟨fun q => (by rcases q with q | q; exact absurd q (e3 p0 hp0); exact q.elim), fun _ => rfl⟩
    · rw [e1, e2, b2_t ⟨nI_nlt (by omega) (by omega), nI_le (by omega) (by omega)⟩, if_neg (by decide), m_of0 (by omega) h (nI t) (nI 5) t 5 rfl rfl (by omega) (by omega), pm_bd_s, e2, pk_sub (by omega), show 10 + p - 10 = p by omega]
      by_cases g : p = p0
      · subst g
        rw [if_pos rfl]
        exact ⟨fun _ => rfl, fun q => absurd (Or.inl rfl) q⟩
      · rw [if_neg (fun q => g ((nI_eq (by omega) (by omega)).mp q))]
        have := (K t ht).2.2.1 p hp e2
        have h2 := ih p u hp (by omega)
        refine ⟨fun q => h2.1 (q.resolve_left (fun z => ?_)), fun q => h2.2 (fun z => q (Or.inr z))⟩
        have := (nI_eq (by omega) (by omega)).mp z
        omega
theorem n_isInside {d T R t p0 : Nat} {h : pm_Hp} (hd : 3 ≤ d) (P : Pm T R h) (ht : t < T) (hp0 : p0 < T) : (inH h (nI (10 + p0)) 4 t → pm_ev d 219 [.ref 169, .int (nI t), .int (nI p0)] h = some (1, h)) ∧ (¬ inH h (nI (10 + p0)) 4 t → pm_ev d 219 [.ref 169, .int (nI t), .int (nI p0)] h = some (0, h)) := by
  obtain ⟨d, rfl, -⟩ := dpos hd
  obtain ⟨rk, K⟩ := P.2.2.2.2.2.2.2.2.2
  rw [e_X10_isInside]
  exact n_isInL (by omega) P K hp0 4 t _ ht (by have := (K t ht).1; omega)
theorem n_isInsideB {d T R t p0 : Nat} {h : pm_Hp} (hd : 3 ≤ d) (P : Pm T R h) (ht : t < T) (hp0 : p0 < T) : pm_ev d 219 [.ref 169, .int (nI t), .int (nI p0)] h = some (b2 (bH h (nI (10 + p0)) 4 t = true), h) := by
  by_cases e : inH h (nI (10 + p0)) 4 t
  · rw [(n_isInside hd P ht hp0).1 e, b2_t (bH_t.mpr e)]
  · rw [(n_isInside hd P ht hp0).2 e, b2_f (fun q => e (bH_t.mp q))]
theorem inH_moreM {T R : Nat} {h : pm_Hp} (P : Pm T R h) {rk : Nat → Nat} (K : RK T h rk) (v : Int32) : ∀ (n t : Nat), t < T → rk t < n → (inH h v (n + 1) t ↔ inH h v n t) := by
  intro n
  induction n with
  | zero => intro t ht hn; omega
  | succ n ih =>
    intro t ht hn
    rw [inH, inH]
    rcases pa_casesM P ht with ⟨e1, -⟩ | ⟨p, hp, e1, e2, -⟩
    · rw [e1]
    · rw [e1]
      have := (K t ht).2.2.1 p hp e2
      have := ih p hp (by omega)
      exact or_congr Iff.rfl this
theorem inH_rkM {T R p : Nat} {h : pm_Hp} (P : Pm T R h) {rk : Nat → Nat} (K : RK T h rk) (hp : p < T) : ∀ (n t : Nat), t < T → inH h (nI (10 + p)) n t → rk p + 1 ≤ rk t := by
  have hT := P.1
  intro n
  induction n with
  | zero => intro t ht q; exact q.elim
  | succ n ih =>
    intro t ht q
    rw [inH] at q
    rcases q with q | q
    · have := (K t ht).2.2.1 p hp q
      omega
    · rcases pa_casesM P ht with ⟨e1, -⟩ | ⟨c, hc, e1, e2, -⟩
      · rw [e1] at q; exact q.elim
      · rw [e1] at q
        have h1 := ih c hc q
        have h2 := (K t ht).2.2.1 c hc e2
        omega
theorem inH_childM {T R p : Nat} {h : pm_Hp} (P : Pm T R h) {rk : Nat → Nat} (K : RK T h rk) (hp : p < T) : ∀ (n t : Nat), t < T → rk t < n → inH h (nI (10 + p)) n t → ∃ c, c < T ∧ wq h c 5 = nI (10 + p) ∧ (c = t ∨ inH h (nI (10 + c)) 4 t) := by
  intro n
  induction n with
  | zero => intro t ht hn q; omega
  | succ n ih =>
    intro t ht hn q
    rw [inH] at q
    rcases q with q | q
    · exact ⟨t, ht, q, Or.inl rfl⟩
    · rcases pa_casesM P ht with ⟨e1, -⟩ | ⟨u, hu, e1, e2, -⟩
      · rw [e1] at q; exact q.elim
      · rw [e1] at q
        have h2 := (K t ht).2.2.1 u hu e2
        obtain ⟨c, hc, g1, g2⟩ := ih u hu (by omega) q
        refine ⟨c, hc, g1, Or.inr ?_⟩
        have h3 : inH h (nI (10 + c)) 5 t := by
          rw [inH]
          rcases g2 with g2 | g2
          · subst g2; exact Or.inl e2
          · rw [e1]; exact Or.inr g2
        exact (inH_moreM P K _ 4 t ht (by have := (K t ht).1; omega)).mp h3
theorem inH_transM {T R p c : Nat} {h : pm_Hp} (P : Pm T R h) {rk : Nat → Nat} (K : RK T h rk) (hp : p < T) (hc : c < T) (hcp : wq h c 5 = nI (10 + p)) : ∀ (n t : Nat), t < T → rk t < n → inH h (nI (10 + c)) n t → inH h (nI (10 + p)) 4 t := by
  have hT := P.1
  intro n
  induction n with
  | zero => intro t ht hn q; omega
  | succ n ih =>
    intro t ht hn q
    rw [inH] at q
    have up : ∀ u, u < T → pa h t = some u → inH h (nI (10 + p)) 4 u → inH h (nI (10 + p)) 4 t := fun u hu e1 g => by
      have h3 : inH h (nI (10 + p)) 5 t := by
        rw [inH, e1]
        exact Or.inr g
      exact (inH_moreM P K _ 4 t ht (by have := (K t ht).1; omega)).mp h3
    rcases pa_casesM P ht with ⟨e1, -, e3, -⟩ | ⟨u, hu, e1, e2, -⟩
    · rw [e1] at q
      exact absurd (q.elim id False.elim) (e3 c hc)
    · rw [e1] at q
      have h2 := (K t ht).2.2.1 u hu e2
      rcases q with q | q
      · rw [e2] at q
        have : u = c := by
          have := (nI_eq (by omega) (by omega)).mp q
          omega
        subst this
        refine up u hu e1 ?_
        rw [inH]
        exact Or.inl hcp
      · exact up u hu e1 (ih u hu (by omega) q)
theorem inH_kindM {T R p : Nat} {h : pm_Hp} (P : Pm T R h) (hp : p < T) : ∀ (n t : Nat), t < T → inH h (nI (10 + p)) n t → wq h p 0 = nI 5 := by
  have hT := P.1
  intro n
  induction n with
  | zero => intro t ht q; exact q.elim
  | succ n ih =>
    intro t ht q
    rw [inH] at q
    rcases pa_casesM P ht with ⟨e1, -, e3, -⟩ | ⟨u, hu, e1, e2, e3⟩
    · rw [e1] at q
      exact absurd (q.elim id False.elim) (e3 p hp)
    · rw [e1] at q
      rcases q with q | q
      · rw [e2] at q
        have : u = p := by
          have := (nI_eq (by omega) (by omega)).mp q
          omega
        subst this
        exact e3
      · exact ih u hu q
theorem mdp_eqM {T R : Nat} {h : pm_Hp} (P : Pm T R h) {rk : Nat → Nat} (K : RK T h rk) : ∀ (n t : Nat), t < T → wq h t 0 = nI 5 → 3 ≤ rk t + n → mdp h T n t = cdp h rk T t := by
  have hT := P.1
  intro n
  induction n with
  | zero =>
    intro t ht hk hn
    have := (K t ht).2.1 hk
    omega
  | succ n ih =>
    intro t ht hk hn
    have hrt := (K t ht).2.1 hk
    rw [mdp, if_pos hk]
    obtain ⟨a1, a2, a3⟩ := mx_spec (fun o => decide (wq h o 5 = nI (10 + t))) (fun o => mdp h T n o) T 0 0
    have ec : cdp h rk T t = mx (fun o => decide (wq h o 0 = nI 5) && bH h (nI (10 + t)) 4 o) (fun o => 1 + rk o - rk t) 0 T 1 := rfl
    obtain ⟨b1, b2', b3⟩ := mx_spec (fun o => decide (wq h o 0 = nI 5) && bH h (nI (10 + t)) 4 o) (fun o => 1 + rk o - rk t) T 0 1
    rw [← ec] at b1 b2' b3
    have child0 : ∀ c, c < T → wq h c 5 = nI (10 + t) → mdp h T n c + 1 ≤ cdp h rk T t := fun c hc hct => by
      have hrc := (K c hc).2.2.1 t ht hct
      have hin : inH h (nI (10 + t)) 4 c := by rw [inH]; exact Or.inl hct
      by_cases hkc : wq h c 0 = nI 5
      · rw [ih c hc hkc (by omega)]
        have ecc : cdp h rk T c = mx (fun o => decide (wq h o 0 = nI 5) && bH h (nI (10 + c)) 4 o) (fun o => 1 + rk o - rk c) 0 T 1 := rfl
        obtain ⟨c1, c2, c3⟩ := mx_spec (fun o => decide (wq h o 0 = nI 5) && bH h (nI (10 + c)) 4 o) (fun o => 1 + rk o - rk c) T 0 1
        rw [← ecc] at c1 c2 c3
        rcases c3 with c3 | ⟨o, g1, g2, g3, g4⟩
        · have := b2' c (by omega) (by omega) (by simp [hkc, bH_t.mpr hin])
          omega
        · rw [Bool.and_eq_true, decide_eq_true_iff, bH_t] at g3
          have ho : o < T := by omega
          have := b2' o (by omega) (by omega) (by simp [g3.1, bH_t.mpr (inH_transM P K ht hc hct 4 o ho (by have := (K o ho).1; omega) g3.2)])
          have := inH_rkM P K hc 4 o ho g3.2
          omega
      · have : mdp h T n c = 0 := by
          cases n with
          | zero => rfl
          | succ n => rw [mdp, if_neg hkc]
        omega
    apply Nat.le_antisymm
    · rcases a3 with a3 | ⟨c, g1, g2, g3, g4⟩
      · omega
      · rw [decide_eq_true_iff] at g3
        have := child0 c (by omega) g3
        omega
    · rcases b3 with b3 | ⟨o, g1, g2, g3, g4⟩
      · omega
      · rw [Bool.and_eq_true, decide_eq_true_iff, bH_t] at g3
        have ho : o < T := by omega
        obtain ⟨c, hc, hct, hco⟩ := inH_childM P K ht 4 o ho (by have := (K o ho).1; omega) g3.2
        have hrc := (K c hc).2.2.1 t ht hct
        have h1 := a2 c (by omega) (by omega) (by simp [hct])
        rcases hco with hco | hco
        · subst hco
          have h2 := ih c hc g3.1 (by omega)
          have ecc : cdp h rk T c = mx (fun o => decide (wq h o 0 = nI 5) && bH h (nI (10 + c)) 4 o) (fun o => 1 + rk o - rk c) 0 T 1 := rfl
          have c1 := (mx_spec (fun o => decide (wq h o 0 = nI 5) && bH h (nI (10 + c)) 4 o) (fun o => 1 + rk o - rk c) T 0 1).1
          omega
        · have hkc : wq h c 0 = nI 5 := inH_kindM P hc 4 o ho hco
          have h2 := ih c hc hkc (by omega)
          have ecc : cdp h rk T c = mx (fun o => decide (wq h o 0 = nI 5) && bH h (nI (10 + c)) 4 o) (fun o => 1 + rk o - rk c) 0 T 1 := rfl
          have c2 := (mx_spec (fun o => decide (wq h o 0 = nI 5) && bH h (nI (10 + c)) 4 o) (fun o => 1 + rk o - rk c) T 0 1).2.1 o (by omega) (by omega) (by simp [g3.1, bH_t.mpr hco])
          have := inH_rkM P K hc 4 o ho hco
          omega
theorem n_deep {T R : Nat} {h : pm_Hp} (P : Pm T R h) {rk : Nat → Nat} (K : RK T h rk) : ∀ (n d t : Nat), 2 + n ≤ d → n ≤ 9 → t < T → 4 ≤ rk t + n → pm_ev d 221 [.ref 169, .int (nI t)] h = some (nI (mdp h T n t), h) := by
  have hT := P.1
  intro n
  induction n with
  | zero =>
    intro d t hd _ ht hn
    have := (K t ht).1
    omega
  | succ n ih =>
    intro d t hd h9 ht hn
    obtain ⟨d, rfl, -⟩ := dpos (show (1 + n) + 1 ≤ d by omega)
    rw [e_X10_deep, m_of0 (by omega) h (nI t) 0 t 0 rfl rfl (by omega) (by omega), pm_bd_s, mdp]
    by_cases hk : wq h t 0 = nI 5
    · rw [if_pos hk, if_pos hk]
      have key := itr_lp (fun i (a : Nat) => pm_rn d kX10_deep 16 [.ref 169, .int (nI t), .int (nI a), .int (nI i)] [] h) (fun o m => if decide (wq h o 5 = nI (10 + t)) = true then max m (mdp h T n o) else m) T (fun _ a => a ≤ n) (fun i a hi ha => ?_) T 0 0 (by omega) (by omega)
      · refine key.1.trans ?_
        rw [b_X10_deep_16, P.2.2.1, if_neg (nI_nlt (by omega) (by omega)), show (1 : Int32) = nI 1 from rfl, nI_add]
        rfl
      · refine ⟨?_, ?_⟩
        · show pm_rn d kX10_deep 16 [.ref 169, .int (nI t), .int (nI a), .int (nI i)] [] h = pm_rn d kX10_deep 16 [.ref 169, .int (nI t), .int (nI _), .int (nI (i + 1))] [] h
          rw [b_X10_deep_16, P.2.2.1, if_pos (nI_lt hi (by omega)), m_of0 (by omega) h (nI i) (nI 5) i 5 rfl rfl (by omega) (by omega), pm_bd_s, nI_add, nI_1]
          by_cases h1 : wq h i 5 = nI (10 + t)
          · have h2 := (K i hi).2.2.1 t ht h1
            have h3 := mdp_le h T n i
            rw [if_pos h1, ih d i (by omega) (by omega) hi (by omega), pm_bd_s, m_greater (by omega), pm_bd_s, max_nI' (by omega) (by omega), if_pos (by simp [h1])]
          · rw [if_neg h1, if_neg (by simp [h1])]
        · have := mdp_le h T n i
          split <;> omega
    · rw [if_neg hk, if_neg hk]
      rfl
theorem n_deep_y {d T R t : Nat} {h : pm_Hp} (hd : 8 ≤ d) (P : Pm T R h) {rk : Nat → Nat} (K : RK T h rk) (ht : t < T) (hk : wq h t 0 = nI 5) : pm_ev d 221 [.ref 169, .int (nI t)] h = some (nI (cdp h rk T t), h) := by
  rw [n_deep P K 4 d t (by omega) (by omega) ht (by omega), mdp_eqM P K 4 t ht hk (by omega)]
theorem n_deep_n {d T R t : Nat} {h : pm_Hp} (hd : 8 ≤ d) (P : Pm T R h) (ht : t < T) (hk : ¬ wq h t 0 = nI 5) : pm_ev d 221 [.ref 169, .int (nI t)] h = some (0, h) := by
  obtain ⟨rk, K⟩ := P.2.2.2.2.2.2.2.2.2
  rw [n_deep P K 4 d t (by omega) (by omega) ht (by omega), mdp, if_neg hk]
  rfl
theorem n_dwL {d T R : Nat} {h : pm_Hp} (hd : 2 ≤ d) (P : Pm T R h) {rk : Nat → Nat} (K : RK T h rk) : ∀ (n p s : Nat) (u u' : Value), p < T → rk p < n → pm_rn d kX10_deepWith 9 [.ref 169, u, u', .int (nI s), .int (nI (10 + p))] [] h = some (nI (s + 1 + rk p), h) := by
  intro n
  induction n with
  | zero => intro t s u u' ht hn; omega
  | succ n ih =>
    intro p s u u' hp hn
    have hT := P.1
    rw [b_X10_deepWith_9, if_neg (nI_nlt (by omega) (by omega)), pk_sub (by omega), show 10 + p - 10 = p by omega, m_of0 (by omega) h (nI p) (nI 5) p 5 rfl rfl (by omega) (by omega), pm_bd_s, m_isTrunkHolder hd, pm_bd_s, m_of0 (by omega) h (nI p) (nI 5) p 5 rfl rfl (by omega) (by omega), pm_bd_s, nI_1]
    rcases pa_casesM P hp with ⟨e1, e2, e3, e4⟩ | ⟨q, hq, e1, e2, e3⟩
    · rw [b2_f e2, if_pos rfl, (K p hp).2.2.2 e3, b_X10_deepWith_9, if_pos (by decide)]
    · rw [e2, b2_t ⟨nI_nlt (by omega) (by omega), nI_le (by omega) (by omega)⟩, if_neg (by decide), (K p hp).2.2.1 q hq e2, show s + 1 + (rk q + 1) = s + 1 + 1 + rk q by omega]
      have h1 := (K p hp).2.2.1 q hq e2
      exact ih q (s + 1) u u' hq (by omega)
theorem n_deepWith {d T R t p : Nat} {h : pm_Hp} (hd : 9 ≤ d) (P : Pm T R h) {rk : Nat → Nat} (K : RK T h rk) (ht : t < T) (hk : wq h t 0 = nI 5) (hp : p < T) : pm_ev d 227 [.ref 169, .int (nI t), .int (nI (10 + p))] h = some (nI (cdp h rk T t + 1 + rk p), h) := by
  obtain ⟨d, rfl, -⟩ := dpos hd
  rw [e_X10_deepWith, n_deep_y (by omega) P K ht hk, pm_bd_s]
  exact n_dwL (by omega) P K 4 p _ _ _ hp (by have := (K p hp).1; omega)
