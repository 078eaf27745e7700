noncomputable def bH (h : pm_Hp) (v : Int32) (n t : Nat) : Bool := @decide (inH h v n t) (Classical.propDecidable _)
theorem bH_t {h : pm_Hp} {v : Int32} {n t : Nat} : bH h v n t = true ↔ inH h v n t := by
  unfold bH
  exact @decide_eq_true_iff _ (Classical.propDecidable _)
theorem c_isInB {d T R t : Nat} {h : pm_Hp} (hd : 2 ≤ d) (P : Pl T R h) (ht : t < T) (v : Int32) : pm_ev d 20 [.ref 1, .int (nI t), .int v] h = some (b2 (bH h v 4 t = true), h) := by
  by_cases e : inH h v 4 t
  · rw [(c_isIn hd P ht v).1 e, b2_t (bH_t.mpr e)]
  · rw [(c_isIn hd P ht v).2 e, b2_f (fun q => e (bH_t.mp q))]
theorem m_isInsideB {d T R t p0 : Nat} {h : pm_Hp} (hd : 3 ≤ d) (P : Pl T R h) (ht : t < T) (hp0 : p0 < T) : pm_ev d 219 [.ref 169, .int (nI t), .int (nI p0)] h = some (b2 (bH h (nI (10 + p0)) 4 t = true), h) := by
  by_cases e : inH h (nI (10 + p0)) 4 t
  · rw [(m_isInside hd P ht hp0).1 e, b2_t (bH_t.mpr e)]
  · rw [(m_isInside hd P ht hp0).2 e, b2_f (fun q => e (bH_t.mp q))]
theorem ou_none {T R : Nat} {h : pm_Hp} (P : Pl T R h) {rk : Nat → Nat} (K : RK T h rk) : ∀ (n t : Nat), t < T → rk t < n → pa h (ou h n t) = none := by
  intro n
  induction n with
  | zero => intro t ht hn; omega
  | succ n ih =>
    intro t ht hn
    unfold ou
    rcases pa_cases P ht with ⟨e1, -⟩ | ⟨p, hp, e1, e2, -⟩
    · rw [e1]; exact e1
    · rw [e1]
      have := (K t ht).2.2.1 p hp e2
      exact ih p hp (by omega)
theorem ou_at {T R t : Nat} {h : pm_Hp} (P : Pl T R h) (ht : t < T) : wq h (ou h 4 t) 5 = -1 ∨ (∃ r, r < R ∧ wq h (ou h 4 t) 5 = nI r) ∨ wq h (ou h 4 t) 5 = nI 100 := by
  obtain ⟨rk, K⟩ := P.2.2.2.2.2.2.2.2.2
  have h1 := ou_none P K 4 t ht (by have := (K t ht).1; omega)
  rcases pa_cases P (ou_lt P 4 t ht) with ⟨-, -, -, e4⟩ | ⟨p, -, e1, -⟩
  · exact e4
  · rw [h1] at e1; cases e1
/-- the rack around -/
abbrev rka (h : pm_Hp) (t : Nat) : Int32 := if wq h (ou h 4 t) 5 = nI 100 then -1 else wq h (ou h 4 t) 5
theorem c_rackAround {d T R t : Nat} {h : pm_Hp} (hd : 3 ≤ d) (P : Pl T R h) (ht : t < T) : pm_ev d 18 [.ref 1, .int (nI t)] h = some (rka h t, h) := by
  obtain ⟨d, rfl, -⟩ := dpos hd
  have h1 := ou_lt P 4 t ht
  have h2 := P.1
  rw [e_X1_rackAround, c_outermost (by omega) P ht, pm_bd_s, pm_at_c (by omega) (by omega), P.r5 h1]
  by_cases e : wq h (ou h 4 t) 5 = nI 100 <;> simp [rka, e]
theorem m_rackOf {d T R t : Nat} {h : pm_Hp} (hd : 4 ≤ d) (P : Pl T R h) (ht : t < T) : pm_ev d 270 [.ref 169, .int (nI t)] h = some (rka h t, h) := by
  obtain ⟨d, rfl, -⟩ := dpos hd
  have h1 := ou_lt P 4 t ht
  have h2 := P.1
  have h3 := P.2.1
  rw [e_X10_rackOf, m_outermost (by omega) P ht, pm_bd_s, m_of0 (by omega) h (nI (ou h 4 t)) (nI 5) (ou h 4 t) 5 rfl rfl (by omega) (by omega), pm_bd_s, m_isIn (by omega), pm_bd_s, m_outermost (by omega) P ht, pm_bd_s, m_of0 (by omega) h (nI (ou h 4 t)) (nI 5) (ou h 4 t) 5 rfl rfl (by omega) (by omega), pm_bd_s]
  rcases ou_at P ht with e | ⟨r, hr, e⟩ | e
  · simp only [rka]
    rw [e, b2_f (by decide), if_pos rfl, if_neg (by decide)]
  · simp only [rka]
    rw [e, b2_t ⟨nI_pos (by omega), nI_le (by omega) (by omega)⟩, if_neg (by decide), if_neg (fun q => by have := (nI_eq (by omega) (by omega)).mp q; omega)]
  · simp only [rka]
    rw [e, b2_f (by decide), if_pos rfl, if_pos rfl]
theorem inH_rack {T R r : Nat} {h : pm_Hp} (P : Pl T R h) (hr : r < R) : ∀ (n t : Nat), t < T → (inH h (nI r) (n + 1) t ↔ wq h (ou h n t) 5 = nI r) := by
  have hT := P.1
  have hR := P.2.1
  have ne : ∀ p, p < T → ¬ nI (10 + p) = nI r := fun p hp q => by
    have := (nI_eq (by omega) (by omega)).mp q
    omega
  intro n
  induction n with
  | zero =>
    intro t ht
    unfold inH ou
    constructor
    · intro q
      rcases q with q | q
      · exact q
      · cases e : pa h t with
        | none => rw [e] at q; exact q.elim
        | some p => rw [e] at q; exact q.elim
    · exact Or.inl
  | succ n ih =>
    intro t ht
    unfold ou
    rw [inH]
    rcases pa_cases P ht with ⟨e1, -⟩ | ⟨p, hp, e1, e2, -⟩
    · rw [e1]
      exact ⟨fun q => q.elim id False.elim, Or.inl⟩
    · rw [e1]
      constructor
      · intro q
        rcases q with q | q
        · rw [e2] at q; exact absurd q (ne p hp)
        · exact (ih p hp).mp q
      · intro q
        exact Or.inr ((ih p hp).mpr q)
theorem inH_more {T R : Nat} {h : pm_Hp} (P : Pl T R h) {rk : Nat → Nat} (K : RK T h rk) (v : Int32) : ∀ (n t : Nat), t < T → rk t < n → (inH h v (n + 1) t ↔ inH h v n t) := by
  intro n
  induction n with
  | zero => intro t ht hn; omega
  | succ n ih =>
    intro t ht hn
    rw [inH, inH]
    rcases pa_cases P ht with ⟨e1, -⟩ | ⟨p, hp, e1, e2, -⟩
    · rw [e1]
    · rw [e1]
      have := (K t ht).2.2.1 p hp e2
      have := ih p hp (by omega)
      exact or_congr Iff.rfl this
theorem inH_rka {T R r t : Nat} {h : pm_Hp} (P : Pl T R h) (hr : r < R) (ht : t < T) : bH h (nI r) 4 t = true ↔ rka h t = nI r := by
  obtain ⟨rk, K⟩ := P.2.2.2.2.2.2.2.2.2
  have hR := P.2.1
  rw [bH_t, ← inH_more P K (nI r) 4 t ht (by have := (K t ht).1; omega), inH_rack P hr 4 t ht]
  unfold rka
  by_cases e : wq h (ou h 4 t) 5 = nI 100
  · rw [if_pos e, e]
    constructor
    · intro q
      have := (nI_eq (by omega) (by omega)).mp q
      omega
    · intro q
      rw [nI_m1' (by omega)] at q
      exact q.elim
  · rw [if_neg e]
/-- how many of T have p -/
def cnt (p : Nat → Bool) (T : Nat) : Int32 := itr (fun t a => if p t = true then a + 1 else a) 0 T 0
theorem c_countIn {d T R : Nat} {h : pm_Hp} (hd : 3 ≤ d) (P : Pl T R h) (v x : Int32) : pm_ev d 21 [.ref 1, .int v, .int x] h = some (cnt (fun t => (decide (x = -1) || decide (wq h t 0 = x)) && bH h v 4 t) T, h) := by
  obtain ⟨d, rfl, -⟩ := dpos hd
  have hT := P.1
  rw [e_X1_countIn]
  have key := itr_lp (fun i (a : Int32) => pm_rn d kX1_countIn 5 [.ref 1, .int v, .int x, .int a, .int (nI i)] [] h) (fun t a => if ((decide (x = -1) || decide (wq h t 0 = x)) && bH h v 4 t) = true then a + 1 else a) T (fun _ _ => True) (fun i a hi _ => ⟨?_, trivial⟩) T 0 0 (by omega) trivial
  · refine key.1.trans ?_
    rw [b_X1_countIn_5, P.2.2.2.1, if_neg (nI_nlt (by omega) (by omega))]
    rfl
  · show pm_rn d kX1_countIn 5 [.ref 1, .int v, .int x, .int a, .int (nI i)] [] h = pm_rn d kX1_countIn 5 [.ref 1, .int v, .int x, .int _, .int (nI (i + 1))] [] h
    rw [b_X1_countIn_5, P.2.2.2.1, if_pos (nI_lt hi (by omega)), c_isInB (by omega) P hi, pm_bd_s, b2_if0, pm_at_c (by omega) (by omega), P.r0 hi, nI_1]
    by_cases h1 : x = -1 <;> by_cases h2 : wq h i 0 = x <;> by_cases h3 : bH h v 4 i = true <;> simp [h1, h2, h3]
theorem m_inside {d T R p : Nat} {h : pm_Hp} (hd : 4 ≤ d) (P : Pl T R h) (hp : p < T) : pm_ev d 220 [.ref 169, .int (nI p)] h = some (cnt (fun t => bH h (nI (10 + p)) 4 t) T, h) := by
  obtain ⟨d, rfl, -⟩ := dpos hd
  have hT := P.1
  rw [e_X10_inside]
  have key := itr_lp (fun i (a : Int32) => pm_rn d kX10_inside 4 [.ref 169, .int (nI p), .int a, .int (nI i)] [] h) (fun t a => if bH h (nI (10 + p)) 4 t = true then a + 1 else a) T (fun _ _ => True) (fun i a hi _ => ⟨?_, trivial⟩) T 0 0 (by omega) trivial
  · refine key.1.trans ?_
    rw [b_X10_inside_4, P.2.2.1, if_neg (nI_nlt (by omega) (by omega))]
    rfl
  · show pm_rn d kX10_inside 4 [.ref 169, .int (nI p), .int a, .int (nI i)] [] h = pm_rn d kX10_inside 4 [.ref 169, .int (nI p), .int _, .int (nI (i + 1))] [] h
    rw [b_X10_inside_4, P.2.2.1, if_pos (nI_lt hi (by omega)), m_isInsideB (by omega) P hi hp, pm_bd_s, b2_if0, nI_1, Int32.add_zero]
    by_cases h3 : bH h (nI (10 + p)) 4 i = true <;> simp [h3]
theorem m_holdsL {d T R : Nat} {h : pm_Hp} (hd : 5 ≤ d) (P : Pl T R h) (v x : Int32) (hv : (∃ r, r < R ∧ v = nI r) ∨ (∃ p, p < T ∧ v = nI (10 + p))) : pm_rn d kX10_holds 24 [.ref 169, .int v, .int x, .int 0, .int 0] [] h = some (cnt (fun t => decide (wq h t 0 = x) && bH h v 4 t) T, h) := by
  have hT := P.1
  have hR := P.2.1
  have key := itr_lp (fun i (a : Int32) => pm_rn d kX10_holds 24 [.ref 169, .int v, .int x, .int a, .int (nI i)] [] h) (fun t a => if (decide (wq h t 0 = x) && bH h v 4 t) = true then a + 1 else a) T (fun _ _ => True) (fun i a hi _ => ⟨?_, trivial⟩) T 0 0 (by omega) trivial
  · refine key.1.trans ?_
    rw [b_X10_holds_24, P.2.2.1, if_neg (nI_nlt (by omega) (by omega))]
    rfl
  · show pm_rn d kX10_holds 24 [.ref 169, .int v, .int x, .int a, .int (nI i)] [] h = pm_rn d kX10_holds 24 [.ref 169, .int v, .int x, .int _, .int (nI (i + 1))] [] h
    rw [b_X10_holds_24, P.2.2.1, if_pos (nI_lt hi (by omega)), m_of0 (by omega) h (nI i) 0 i 0 rfl rfl (by omega) (by omega), pm_bd_s, m_rackOf (by omega) P hi, pm_bd_s, nI_1, Int32.add_zero]
    rcases hv with ⟨r, hr, rfl⟩ | ⟨p, hp, rfl⟩
    · rw [if_pos (nI_lt (show r < 10 by omega) (by omega))]
      have e1 := inH_rka P hr hi
      by_cases h2 : wq h i 0 = x <;> by_cases h3 : rka h i = nI r <;> simp [h2, h3, e1]
    · rw [if_neg (nI_nlt (show 10 ≤ 10 + p by omega) (by omega)), pk_sub (by omega), show 10 + p - 10 = p by omega, m_isInsideB (by omega) P hi hp, pm_bd_s, b2_if0]
      by_cases h2 : wq h i 0 = x <;> by_cases h3 : bH h (nI (10 + p)) 4 i = true <;> simp [h2, h3]
/-! how many trunks are around -/
theorem c_traL {d T R : Nat} {h : pm_Hp} (hd : 1 ≤ d) (P : Pl T R h) {rk : Nat → Nat} (K : RK T h rk) : ∀ (n p s : Nat) (u : Value), p < T → rk p < n → s + n ≤ 16 → pm_rn d kX1_trunksAround 8 [.ref 1, u, .int (nI s), .int (nI p)] [] h = some (nI (s + 1 + rk p), h) := by
  intro n
  induction n with
  | zero => intro t s u ht hn; omega
  | succ n ih =>
    intro p s u hp hn hs
    have hT := P.1
    rw [b_X1_trunksAround_8, if_neg (by rw [nI_m1 (by omega)]; exact id), if_pos (nI_lt (by omega) (by omega)), c_trunkOf hd P hp, pm_bd_s, nI_1]
    rcases pa_cases P hp with ⟨e1, e2, e3, e4⟩ | ⟨q, hq, e1, e2, e3⟩
    · rw [e1, (K p hp).2.2.2 e3]
      show pm_rn d kX1_trunksAround 8 [.ref 1, u, .int (nI (s + 1)), .int (-1)] [] h = _
      rw [b_X1_trunksAround_8, if_pos rfl]
    · rw [e1]
      have h1 := (K p hp).2.2.1 q hq e2
      have h2 := ih q (s + 1) u hq (by omega) (by omega)
      rw [h1, show s + 1 + (rk q + 1) = s + 1 + 1 + rk q by omega]
      exact h2
theorem c_trunksAround {d T R t : Nat} {h : pm_Hp} (hd : 2 ≤ d) (P : Pl T R h) {rk : Nat → Nat} (K : RK T h rk) (ht : t < T) : pm_ev d 19 [.ref 1, .int (nI t)] h = some (nI (rk t), h) := by
  obtain ⟨d, rfl, -⟩ := dpos hd
  have hT := P.1
  rw [e_X1_trunksAround, c_trunkOf (by omega) P ht, pm_bd_s]
  rcases pa_cases P ht with ⟨e1, e2, e3, e4⟩ | ⟨q, hq, e1, e2, e3⟩
  · rw [e1, (K t ht).2.2.2 e3]
    show pm_rn d kX1_trunksAround 8 [.ref 1, .int (nI t), .int 0, .int (-1)] [] h = _
    rw [b_X1_trunksAround_8, if_pos rfl]
    rfl
  · rw [e1]
    have h1 := (K t ht).2.2.1 q hq e2
    have h2 := c_traL (d := d) (by omega) P K 4 q 0 (.int (nI t)) hq (by have := (K q hq).1; omega) (by omega)
    rw [h1, Nat.add_comm (rk q) 1]
    rw [Nat.zero_add] at h2
    exact h2
theorem m_pathL {d T R : Nat} {h : pm_Hp} (hd : 2 ≤ d) (P : Pl T R h) {rk : Nat → Nat} (K : RK T h rk) : ∀ (n t s : Nat) (u u' : Value), t < T → rk t < n → pm_rn d kX10_path 35 [.ref 169, u, u', .int (nI s), .int (nI t)] [] h = some (nI (s + rk t), h) := by
  intro n
  induction n with
  | zero => intro t s u u' ht hn; omega
  | succ n ih =>
    intro t s u u' ht hn
    have hT := P.1
    rw [b_X10_path_35, m_of0 (by omega) h (nI t) (nI 5) t 5 rfl rfl (by omega) (by omega), pm_bd_s, m_isTrunkHolder hd, pm_bd_s]
    rcases pa_cases P ht with ⟨e1, e2, e3, e4⟩ | ⟨p, hp, e1, e2, e3⟩
    · rw [b2_f e2, if_pos rfl, (K t ht).2.2.2 e3, Nat.add_zero]
    · rw [e2, b2_t ⟨nI_nlt (by omega) (by omega), nI_le (by omega) (by omega)⟩, if_neg (by decide), m_of0 (by omega) h (nI t) (nI 5) t 5 rfl rfl (by omega) (by omega), pm_bd_s, e2, pk_sub (by omega), show 10 + p - 10 = p by omega, nI_1]
      have h1 := (K t ht).2.2.1 p hp e2
      rw [h1, show s + (rk p + 1) = s + 1 + rk p by omega]
      exact ih p (s + 1) u u' hp (by omega)
