/-! PLACES: things, holders, chains -/
theorem dpos {d k : Nat} (hd : k + 1 ≤ d) : ∃ e, d = e + 1 ∧ k ≤ e := ⟨d - 1, by omega, by omega⟩
theorem le_prd (v : Int32) {T : Nat} (hT : T < 2 ^ 30) : (v ≤ nI T - 1) = (v < nI T) := propext (by
  rw [Int32.le_iff_toInt_le, Int32.lt_iff_toInt_lt, show (1 : Int32) = nI 1 from rfl, pk_sub_toInt hT (by omega), nI_toInt (by omega)]
  omega)
/-- a number below T -/
abbrev isT (T : Nat) (v : Int32) : Prop := ¬ v < 0 ∧ v < nI T
theorem isT_ex {T : Nat} (hT : T < 2 ^ 31) {v : Int32} (h : isT T v) : ∃ k, k < T ∧ v = nI k := by
  rcases pk_ix v hT with g | g | g
  · exact absurd g h.1
  · exact absurd h.2 (Int32.not_lt.mpr g)
  · exact g
theorem isT_of {T k : Nat} (hT : T < 2 ^ 31) (h : k < T) : isT T (nI k) := ⟨nI_pos (by omega), nI_lt h hT⟩
abbrev wq (h : pm_Hp) (t f : Nat) : Int32 := h 170 (4 + 20 * t + f)
/-- a thing's row f in the class's heap: array, place -/
def ta (f : Nat) : Nat := if f = 0 then 11 else if f = 1 then 12 else if f < 9 then f + 1 else if f < 15 then 13 else 10
def tj (f t : Nat) : Nat := if f < 9 then t else if f < 15 then t * 5 + (f - 10) else t * 5 + (f - 15)
def RT (T : Nat) (h : pm_Hp) : Prop := ∀ t f, t < T → f < 20 → f ≠ 9 → h (ta f) (tj f t) = wq h t f
/-- where a thing is -/
def HD (T R : Nat) (h : pm_Hp) (t : Nat) : Prop := wq h t 5 = -1 ∨ (∃ r, r < R ∧ wq h t 5 = nI r) ∨ (∃ p, p < T ∧ wq h t 5 = nI (10 + p) ∧ wq h p 0 = nI 5) ∨ wq h t 5 = nI 100
def RK (T : Nat) (h : pm_Hp) (rk : Nat → Nat) : Prop := ∀ t, t < T → rk t ≤ 3 ∧ (wq h t 0 = nI 5 → rk t ≤ 2) ∧ (∀ p, p < T → wq h t 5 = nI (10 + p) → rk t = rk p + 1) ∧ ((∀ p, p < T → wq h t 5 ≠ nI (10 + p)) → rk t = 0)
def Pl (T R : Nat) (h : pm_Hp) : Prop := T ≤ 16 ∧ R ≤ 4 ∧ h 170 324 = nI T ∧ h 1 11 = nI T ∧ h 170 326 = nI R ∧ h 1 13 = nI R ∧ RT T h ∧ (∀ r, r < R → h 15 r = h 170 (362 + r) ∧ ∃ k, k ≤ 8 ∧ h 170 (362 + r) = nI k) ∧ (∀ t, t < T → HD T R h t) ∧ ∃ rk, RK T h rk
def pa (h : pm_Hp) (t : Nat) : Option Nat := if ¬ wq h t 5 < nI 10 ∧ wq h t 5 ≤ nI 25 then some ((wq h t 5).toNatClampNeg - 10) else none
theorem pa_cases {T R t : Nat} {h : pm_Hp} (P : Pl T R h) (ht : t < T) : (pa h t = none ∧ (¬ (¬ wq h t 5 < nI 10 ∧ wq h t 5 ≤ nI 25)) ∧ (∀ p, p < T → wq h t 5 ≠ nI (10 + p)) ∧ (wq h t 5 = -1 ∨ (∃ r, r < R ∧ wq h t 5 = nI r) ∨ wq h t 5 = nI 100)) ∨ (∃ p, p < T ∧ pa h t = some p ∧ wq h t 5 = nI (10 + p) ∧ wq h p 0 = nI 5) := by
  obtain ⟨hT, hR, -, -, -, -, -, -, hd, -⟩ := P
  have key : ∀ v : Int32, wq h t 5 = v → ¬ (¬ v < nI 10 ∧ v ≤ nI 25) → (∀ p, p < T → v ≠ nI (10 + p)) → (v = -1 ∨ (∃ r, r < R ∧ v = nI r) ∨ v = nI 100) → (pa h t = none ∧ (¬ (¬ wq h t 5 < nI 10 ∧ wq h t 5 ≤ nI 25)) ∧ (∀ p, p < T → wq h t 5 ≠ nI (10 + p)) ∧ (wq h t 5 = -1 ∨ (∃ r, r < R ∧ wq h t 5 = nI r) ∨ wq h t 5 = nI 100)) := by
    intro v hv h1 h2 h3
    unfold pa
    rw [hv]
    exact ⟨if_neg h1, h1, h2, h3⟩
  rcases hd t ht with e | ⟨r, hr, e⟩ | ⟨p, hp, e, hk⟩ | e
  · refine Or.inl (key _ e (fun q => q.1 (by decide)) (fun p hp q => ?_) (Or.inl rfl))
    rw [nI_m1' (by omega)] at q
    exact q
  · refine Or.inl (key _ e (fun q => q.1 (nI_lt (by omega) (by omega))) (fun p hp q => ?_) (Or.inr (Or.inl ⟨r, hr, rfl⟩)))
    have := (nI_eq (by omega) (by omega)).mp q
    omega
  · refine Or.inr ⟨p, hp, ?_, e, hk⟩
    unfold pa
    rw [e, if_pos ⟨nI_nlt (by omega) (by omega), nI_le (by omega) (by omega)⟩, nI_clamp (by omega)]
    congr 1
    omega
  · refine Or.inl (key _ e (fun q => ?_) (fun p hp q => ?_) (Or.inr (Or.inr rfl)))
    · exact absurd q.2 (by decide)
    · have := (nI_eq (by omega) (by omega)).mp q
      omega
def ou (h : pm_Hp) : Nat → Nat → Nat
  | 0, t => t
  | n + 1, t => match pa h t with
    | none => t
    | some p => ou h n p
def inn (h : pm_Hp) (p : Nat) : Nat → Nat → Bool
  | 0, _ => false
  | n + 1, t => match pa h t with
    | none => false
    | some q => decide (q = p) || inn h p n q
theorem m_isIn {d : Nat} (hd : 1 ≤ d) (h : pm_Hp) (a b c : Int32) : pm_ev d 157 [.int a, .int b, .int c] h = some (b2 (¬ a < b ∧ a ≤ c), h) := by
  obtain ⟨d, rfl, hd⟩ := dpos hd
  rw [e_X10_isIn]
  unfold b2
  by_cases h1 : a < b <;> by_cases h2 : a ≤ c <;> simp [h1, h2]
theorem m_isThing {d T : Nat} (hd : 2 ≤ d) {h : pm_Hp} (hT : h 170 324 = nI T) (hT16 : T ≤ 16) (v : Int32) : pm_ev d 161 [.ref 169, .int v] h = some (b2 (isT T v), h) := by
  obtain ⟨d, rfl, hd⟩ := dpos hd
  rw [e_X10_isThing, m_isIn (by omega), pm_bd_s]
  rw [pm_bw_b2, hT]
  simp only [le_prd v (show T < 2 ^ 30 by omega)]
theorem m_of0 {d : Nat} (hd : 1 ≤ d) (h : pm_Hp) (v x : Int32) (t f : Nat) (hv : v = nI t) (hx : x = nI f) (ht : t < 16) (hf : f < 20) : pm_ev d 163 [.ref 169, .int v, .int x] h = some (wq h t f, h) := by
  obtain ⟨d, rfl, hd⟩ := dpos hd
  subst hv hx
  rw [e_X10_of0, pm_at_n (j := 4 + 20 * t + f) (by simp only [pk_mul, nI_add]) (by omega) (by omega)]
theorem m_isTrunkHolder {d : Nat} (hd : 2 ≤ d) (h : pm_Hp) (v : Int32) : pm_ev d 216 [.int v] h = some (b2 (¬ v < nI 10 ∧ v ≤ nI 25), h) := by
  obtain ⟨d, rfl, hd⟩ := dpos hd
  rw [e_X10_isTrunkHolder, m_isIn (by omega), pm_bd_s]
  rw [pm_bw_b2]
theorem m_outL {d T R : Nat} {h : pm_Hp} (hd : 2 ≤ d) (P : Pl T R h) {rk : Nat → Nat} (K : RK T h rk) : ∀ (n t : Nat) (u : Value), t < T → rk t < n → pm_rn d kX10_outermost 2 [.ref 169, u, .int (nI t)] [] h = some (nI (ou h n t), h) ∧ ou h n t < T := by
  intro n
  induction n with
  | zero => intro t u ht hn; omega
  | succ n ih =>
    intro t u ht hn
    have hT := P.1
    rw [b_X10_outermost_2, m_of0 (by omega) h (nI t) (nI 5) t 5 rfl rfl (by omega) (by omega), pm_bd_s]
    rw [m_isTrunkHolder hd, pm_bd_s]
    unfold ou
    rcases pa_cases P ht with ⟨e1, e2, e3, e4⟩ | ⟨p, hp, e1, e2, e3⟩
    · rw [e1, b2_f e2, if_pos rfl]
      exact ⟨rfl, ht⟩
    · rw [e1, e2, b2_t ⟨nI_nlt (by omega) (by omega), nI_le (by omega) (by omega)⟩, if_neg (by decide), m_of0 (by omega) h (nI t) (nI 5) t 5 rfl rfl (by omega) (by omega), pm_bd_s]
      rw [e2, pk_sub (by omega), show 10 + p - 10 = p by omega]
      have := (K t ht).2.2.1 p hp e2
      exact ih p u hp (by omega)
