theorem mx_le (p : Nat → Bool) (f : Nat → Nat) {B : Nat} (hf : ∀ o, f o ≤ B) {n a : Nat} (ha : a ≤ B) : mx p f 0 n a ≤ B := by
  rcases (mx_spec p f n 0 a).2.2 with e | ⟨o, -, -, -, e⟩
  · rw [e]; exact ha
  · rw [e]; exact hf o
theorem mdp_le (h : pm_Hp) (T : Nat) : ∀ (n t : Nat), mdp h T n t ≤ n := by
  intro n
  induction n with
  | zero => intro t; exact Nat.le_refl 0
  | succ n ih =>
    intro t
    rw [mdp]
    by_cases e : wq h t 0 = nI 5
    · rw [if_pos e]
      have := mx_le (fun o => decide (wq h o 5 = nI (10 + t))) (fun o => mdp h T n o) ih (n := T) (Nat.zero_le n)
      omega
    · rw [if_neg e]; omega
theorem c_depth_y {d T R t : Nat} {h : pm_Hp} (hd : 4 ≤ d) (P : Pl T R h) {rk : Nat → Nat} (K : RK T h rk) (ht : t < T) (hk : wq h t 0 = nI 5) : pm_ev d 22 [.ref 1, .int (nI t)] h = some (nI (cdp h rk T t), h) := by
  obtain ⟨d, rfl, -⟩ := dpos hd
  have hT := P.1
  rw [e_X1_depth, c_isTrunk_y (by omega) P ht, pm_bd_s, b2_t hk, if_neg (by decide), c_trunksAround (by omega) P K ht, pm_bd_s]
  have key := itr_lp (fun i (a : Nat) => pm_rn d kX1_depth 21 [.ref 1, .int (nI t), .int (nI a), .int (nI (rk t)), .int (nI i)] [] h) (fun o m => if (decide (wq h o 0 = nI 5) && bH h (nI (10 + t)) 4 o) = true then max m (1 + rk o - rk t) else m) T (fun _ a => a ≤ 4) (fun i a hi ha => ?_) T 0 1 (by omega) (by omega)
  · refine key.1.trans ?_
    rw [b_X1_depth_21, P.2.2.2.1, if_neg (nI_nlt (by omega) (by omega))]
    rfl
  · have hri := (K i hi).1
    refine ⟨?_, ?_⟩
    · show pm_rn d kX1_depth 21 [.ref 1, .int (nI t), .int (nI a), .int (nI (rk t)), .int (nI i)] [] h = pm_rn d kX1_depth 21 [.ref 1, .int (nI t), .int (nI _), .int (nI (rk t)), .int (nI (i + 1))] [] h
      rw [b_X1_depth_21, P.2.2.2.1, if_pos (nI_lt hi (by omega)), c_isTrunk_y (by omega) P hi, pm_bd_s, b2_if0, nI_add, c_isInB (by omega) P hi, pm_bd_s, b2_if0, c_trunksAround (by omega) P K hi, pm_bd_s, e_max (by omega), pm_bd_s, nI_1]
      by_cases h1 : wq h i 0 = nI 5
      · by_cases h2 : bH h (nI (10 + t)) 4 i = true
        · have h3 := inH_rk P K ht 4 i hi (bH_t.mp h2)
          rw [if_pos h1, if_pos h2, show (1 : Int32) = nI 1 from rfl, nI_add, pk_sub (by omega), max_nI (by omega) (by omega), if_pos (by simp [h1, h2])]
        · rw [if_pos h1, if_neg h2, if_neg (by simp [h2])]
      · rw [if_neg h1, if_neg (by simp [h1])]
    · split
      · have := (K t ht).1
        omega
      · exact ha
theorem c_depth_n {d T R t : Nat} {h : pm_Hp} (hd : 4 ≤ d) (P : Pl T R h) (ht : t < T) (hk : ¬ wq h t 0 = nI 5) : pm_ev d 22 [.ref 1, .int (nI t)] h = some (0, h) := by
  obtain ⟨d, rfl, -⟩ := dpos hd
  rw [e_X1_depth, c_isTrunk_y (by omega) P ht, pm_bd_s, b2_f hk, if_pos rfl]
theorem m_deep {T R : Nat} {h : pm_Hp} (P : Pl T R h) {rk : Nat → Nat} (K : RK T h rk) : ∀ (n d t : Nat), 2 + n ≤ d → n ≤ 9 → t < T → 4 ≤ rk t + n → pm_ev d 221 [.ref 169, .int (nI t)] h = some (nI (mdp h T n t), h) := by
  have hT := P.1
  intro n
  induction n with
  | zero =>
    intro d t hd _ ht hn
    have := (K t ht).1
    omega
  | succ n ih =>
    intro d t hd h9 ht hn
    obtain ⟨d, rfl, -⟩ := dpos (show (1 + n) + 1 ≤ d by omega)
    rw [e_X10_deep, m_of0 (by omega) h (nI t) 0 t 0 rfl rfl (by omega) (by omega), pm_bd_s, mdp]
    by_cases hk : wq h t 0 = nI 5
    · rw [if_pos hk, if_pos hk]
      have key := itr_lp (fun i (a : Nat) => pm_rn d kX10_deep 16 [.ref 169, .int (nI t), .int (nI a), .int (nI i)] [] h) (fun o m => if decide (wq h o 5 = nI (10 + t)) = true then max m (mdp h T n o) else m) T (fun _ a => a ≤ n) (fun i a hi ha => ?_) T 0 0 (by omega) (by omega)
      · refine key.1.trans ?_
        rw [b_X10_deep_16, P.2.2.1, if_neg (nI_nlt (by omega) (by omega)), show (1 : Int32) = nI 1 from rfl, nI_add]
        rfl
      · refine ⟨?_, ?_⟩
        · show pm_rn d kX10_deep 16 [.ref 169, .int (nI t), .int (nI a), .int (nI i)] [] h = pm_rn d kX10_deep 16 [.ref 169, .int (nI t), .int (nI _), .int (nI (i + 1))] [] h
          rw [b_X10_deep_16, P.2.2.1, if_pos (nI_lt hi (by omega)), m_of0 (by omega) h (nI i) (nI 5) i 5 rfl rfl (by omega) (by omega), pm_bd_s, nI_add, nI_1]
          by_cases h1 : wq h i 5 = nI (10 + t)
          · have h2 := (K i hi).2.2.1 t ht h1
            have h3 := mdp_le h T n i
            rw [if_pos h1, ih d i (by omega) (by omega) hi (by omega), pm_bd_s, m_greater (by omega), pm_bd_s, max_nI' (by omega) (by omega), if_pos (by simp [h1])]
          · rw [if_neg h1, if_neg (by simp [h1])]
        · have := mdp_le h T n i
          split <;> omega
    · rw [if_neg hk, if_neg hk]
      rfl
theorem m_deep_y {d T R t : Nat} {h : pm_Hp} (hd : 8 ≤ d) (P : Pl T R h) {rk : Nat → Nat} (K : RK T h rk) (ht : t < T) (hk : wq h t 0 = nI 5) : pm_ev d 221 [.ref 169, .int (nI t)] h = some (nI (cdp h rk T t), h) := by
  rw [m_deep P K 4 d t (by omega) (by omega) ht (by omega), mdp_eq P K 4 t ht hk (by omega)]
theorem m_deep_n {d T R t : Nat} {h : pm_Hp} (hd : 8 ≤ d) (P : Pl T R h) (ht : t < T) (hk : ¬ wq h t 0 = nI 5) : pm_ev d 221 [.ref 169, .int (nI t)] h = some (0, h) := by
  obtain ⟨rk, K⟩ := P.2.2.2.2.2.2.2.2.2
  rw [m_deep P K 4 d t (by omega) (by omega) ht (by omega), mdp, if_neg hk]
  rfl
theorem cdp_le {T R t : Nat} {h : pm_Hp} (P : Pl T R h) {rk : Nat → Nat} (K : RK T h rk) (ht : t < T) (hk : wq h t 0 = nI 5) : cdp h rk T t ≤ 4 := by
  rw [← mdp_eq P K 4 t ht hk (by omega)]
  exact mdp_le h T 4 t
/-- deepWith: a trunk's DEEP and the trunks around the holder -/
theorem m_dwL {d T R : Nat} {h : pm_Hp} (hd : 2 ≤ d) (P : Pl T R h) {rk : Nat → Nat} (K : RK T h rk) : ∀ (n p s : Nat) (u u' : Value), p < T → rk p < n → pm_rn d kX10_deepWith 9 [.ref 169, u, u', .int (nI s), .int (nI (10 + p))] [] h = some (nI (s + 1 + rk p), h) := by
  intro n
  induction n with
  | zero => intro t s u u' ht hn; omega
  | succ n ih =>
    intro p s u u' hp hn
    have hT := P.1
    rw [b_X10_deepWith_9, if_neg (nI_nlt (by omega) (by omega)), pk_sub (by omega), show 10 + p - 10 = p by omega, m_of0 (by omega) h (nI p) (nI 5) p 5 rfl rfl (by omega) (by omega), pm_bd_s, m_isTrunkHolder hd, pm_bd_s, m_of0 (by omega) h (nI p) (nI 5) p 5 rfl rfl (by omega) (by omega), pm_bd_s, nI_1]
    rcases pa_cases P hp with ⟨e1, e2, e3, e4⟩ | ⟨q, hq, e1, e2, e3⟩
    · rw [b2_f e2, if_pos rfl, (K p hp).2.2.2 e3, b_X10_deepWith_9, if_pos (by decide)]
    · rw [e2, b2_t ⟨nI_nlt (by omega) (by omega), nI_le (by omega) (by omega)⟩, if_neg (by decide), (K p hp).2.2.1 q hq e2, show s + 1 + (rk q + 1) = s + 1 + 1 + rk q by omega]
      have h1 := (K p hp).2.2.1 q hq e2
      exact ih q (s + 1) u u' hq (by omega)
theorem m_deepWith {d T R t p : Nat} {h : pm_Hp} (hd : 9 ≤ d) (P : Pl T R h) {rk : Nat → Nat} (K : RK T h rk) (ht : t < T) (hk : wq h t 0 = nI 5) (hp : p < T) : pm_ev d 227 [.ref 169, .int (nI t), .int (nI (10 + p))] h = some (nI (cdp h rk T t + 1 + rk p), h) := by
  obtain ⟨d, rfl, -⟩ := dpos hd
  rw [e_X10_deepWith, m_deep_y (by omega) P K ht hk, pm_bd_s]
  exact m_dwL (by omega) P K 4 p _ _ _ hp (by have := (K p hp).1; omega)
/-- may t go into trunk p: the class -/
theorem c_hasDepth {d T R t p : Nat} {h : pm_Hp} (hd : 5 ≤ d) (P : Pl T R h) {rk : Nat → Nat} (K : RK T h rk) (ht : t < T) (hk : wq h t 0 = nI 5) (hp : p < T) : pm_ev d 23 [.ref 1, .int (nI t), .int (nI (10 + p))] h = some (b2 (¬ p = t ∧ ¬ bH h (nI (10 + t)) 4 p = true ∧ cdp h rk T t + 1 + rk p ≤ 3), h) := by
  obtain ⟨d, rfl, -⟩ := dpos hd
  have hT := P.1
  have hc := cdp_le P K ht hk
  have hr := (K p hp).1
  rw [e_X1_hasDepthFor, c_isTrunk_y (by omega) P ht, pm_bd_s, b2_t hk, if_neg (by decide), if_neg (nI_nlt (by omega) (by omega)), pk_sub (by omega), show 10 + p - 10 = p by omega, nI_add, c_isInB (by omega) P hp, pm_bd_s, b2_if0, c_trunksAround (by omega) P K hp, pm_bd_s, c_depth_y (by omega) P K ht hk, pm_bd_s, nI_1, nI_add]
  by_cases h1 : p = t
  · rw [if_pos (by rw [h1]), b2_f (fun q => q.1 h1)]
  · rw [if_neg (fun q => h1 ((nI_eq (by omega) (by omega)).mp q))]
    by_cases h2 : bH h (nI (10 + t)) 4 p = true
    · rw [if_pos h2, b2_f (fun q => q.2.1 h2)]
    · rw [if_neg h2]
      by_cases h3 : cdp h rk T t + 1 + rk p ≤ 3
      · rw [if_pos (nI_le (by omega) (by omega)), b2_t ⟨h1, h2, h3⟩]
      · rw [if_neg (nI_ge (by omega) (by omega)), b2_f (fun q => h3 q.2.2)]
theorem c_hasDepth_n {d T R t : Nat} {h : pm_Hp} (hd : 5 ≤ d) (P : Pl T R h) (ht : t < T) (v : Int32) (hk : ¬ wq h t 0 = nI 5 ∨ v < nI 10) : pm_ev d 23 [.ref 1, .int (nI t), .int v] h = some (1, h) := by
  obtain ⟨d, rfl, -⟩ := dpos hd
  rw [e_X1_hasDepthFor, c_isTrunk_y (by omega) P ht, pm_bd_s, b2_if0]
  rcases hk with hk | hk
  · rw [if_neg hk]
  · by_cases g : wq h t 0 = nI 5
    · rw [if_pos g, if_pos hk]
    · rw [if_neg g]
