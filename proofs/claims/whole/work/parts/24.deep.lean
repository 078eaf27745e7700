/-! how deep -/
theorem e_max {d : Nat} (hd : 1 ≤ d) (h : pm_Hp) (a b : Int32) : pm_ev d 297 [.int a, .int b] h = some (if a < b then b else a, h) := by
  obtain ⟨d, rfl, -⟩ := dpos hd
  rw [e_J9_max_7cf53]
  by_cases e : a < b <;> simp [e]
theorem e_min {d : Nat} (hd : 1 ≤ d) (h : pm_Hp) (a b : Int32) : pm_ev d 298 [.int a, .int b] h = some (if b < a then b else a, h) := by
  obtain ⟨d, rfl, -⟩ := dpos hd
  rw [e_J9_min_7cf53]
  by_cases e : b < a
  · have : ¬ a ≤ b := Int32.not_le.mpr e
    simp [e, this]
  · have : a ≤ b := Int32.not_lt.mp e
    simp [e, this]
theorem m_greater {d : Nat} (hd : 1 ≤ d) (h : pm_Hp) (a b : Int32) : pm_ev d 159 [.int a, .int b] h = some (if a ≤ b then b else a, h) := by
  obtain ⟨d, rfl, -⟩ := dpos hd
  rw [e_X10_greater]
  by_cases e : a ≤ b <;> simp [e]
theorem m_lesser {d : Nat} (hd : 1 ≤ d) (h : pm_Hp) (a b : Int32) : pm_ev d 158 [.int a, .int b] h = some (if a < b then a else b, h) := by
  obtain ⟨d, rfl, -⟩ := dpos hd
  rw [e_X10_lesser]
  by_cases e : a < b <;> simp [e]
theorem max_nI {a b : Nat} (ha : a < 2 ^ 31) (hb : b < 2 ^ 31) : (if nI a < nI b then nI b else nI a) = nI (max a b) := by
  by_cases e : a < b
  · rw [if_pos (nI_lt e hb), Nat.max_eq_right (by omega)]
  · rw [if_neg (nI_nlt (by omega) ha), Nat.max_eq_left (by omega)]
theorem max_nI' {a b : Nat} (ha : a < 2 ^ 31) (hb : b < 2 ^ 31) : (if nI a ≤ nI b then nI b else nI a) = nI (max a b) := by
  by_cases e : a ≤ b
  · rw [if_pos (nI_le e hb), Nat.max_eq_right (by omega)]
  · rw [if_neg (nI_ge (by omega) ha), Nat.max_eq_left (by omega)]
/-- the greatest f of those of n that have p, a at least -/
def mx (p : Nat → Bool) (f : Nat → Nat) : Nat → Nat → Nat → Nat := fun i n a => itr (fun o m => if p o = true then max m (f o) else m) i n a
theorem mx_spec (p : Nat → Bool) (f : Nat → Nat) : ∀ (n i a : Nat), a ≤ mx p f i n a ∧ (∀ o, i ≤ o → o < i + n → p o = true → f o ≤ mx p f i n a) ∧ (mx p f i n a = a ∨ ∃ o, i ≤ o ∧ o < i + n ∧ p o = true ∧ mx p f i n a = f o) := by
  intro n
  induction n with
  | zero => intro i a; exact ⟨Nat.le_refl _, fun o h1 h2 => absurd h1 (by omega), Or.inl rfl⟩
  | succ n ih =>
    intro i a
    show a ≤ mx p f (i + 1) n _ ∧ (∀ o, i ≤ o → o < i + (n + 1) → p o = true → f o ≤ mx p f (i + 1) n _) ∧ (mx p f (i + 1) n _ = a ∨ ∃ o, i ≤ o ∧ o < i + (n + 1) ∧ p o = true ∧ mx p f (i + 1) n _ = f o)
    dsimp only
    obtain ⟨h1, h2, h3⟩ := ih (i + 1) (if p i = true then max a (f i) else a)
    by_cases e : p i = true
    · rw [if_pos e] at h1 h2 h3 ⊢
      refine ⟨by omega, fun o g1 g2 g3 => ?_, ?_⟩
      · rcases Nat.eq_or_lt_of_le g1 with g | g
        · subst g; omega
        · exact h2 o (by omega) (by omega) g3
      · rcases h3 with h3 | ⟨o, g1, g2, g3, g4⟩
        · rcases Nat.le_total a (f i) with g | g
          · exact Or.inr ⟨i, Nat.le_refl _, by omega, e, by rw [h3]; omega⟩
          · exact Or.inl (by rw [h3]; omega)
        · exact Or.inr ⟨o, by omega, by omega, g3, g4⟩
    · rw [if_neg e] at h1 h2 h3 ⊢
      refine ⟨h1, fun o g1 g2 g3 => ?_, ?_⟩
      · rcases Nat.eq_or_lt_of_le g1 with g | g
        · subst g; exact absurd g3 e
        · exact h2 o (by omega) (by omega) g3
      · rcases h3 with h3 | ⟨o, g1, g2, g3, g4⟩
        · exact Or.inl h3
        · exact Or.inr ⟨o, by omega, by omega, g3, g4⟩
/-- DEEP as the class counts it -/
noncomputable def cdp (h : pm_Hp) (rk : Nat → Nat) (T t : Nat) : Nat := mx (fun o => decide (wq h o 0 = nI 5) && bH h (nI (10 + t)) 4 o) (fun o => 1 + rk o - rk t) 0 T 1
/-- DEEP as the model counts it -/
def mdp (h : pm_Hp) (T : Nat) : Nat → Nat → Nat
  | 0, _ => 0
  | n + 1, t => if wq h t 0 = nI 5 then 1 + mx (fun o => decide (wq h o 5 = nI (10 + t))) (fun o => mdp h T n o) 0 T 0 else 0
theorem inH_rk {T R p : Nat} {h : pm_Hp} (P : Pl T R h) {rk : Nat → Nat} (K : RK T h rk) (hp : p < T) : ∀ (n t : Nat), t < T → inH h (nI (10 + p)) n t → rk p + 1 ≤ rk t := by
  have hT := P.1
  intro n
  induction n with
  | zero => intro t ht q; exact q.elim
  | succ n ih =>
    intro t ht q
    rw [inH] at q
    rcases q with q | q
    · have := (K t ht).2.2.1 p hp q
      omega
    · rcases pa_cases P ht with ⟨e1, -⟩ | ⟨c, hc, e1, e2, -⟩
      · rw [e1] at q; exact q.elim
      · rw [e1] at q
        have h1 := ih c hc q
        have h2 := (K t ht).2.2.1 c hc e2
        omega
/-- what is in t is a child of t's, or in one -/
theorem inH_child {T R p : Nat} {h : pm_Hp} (P : Pl T R h) {rk : Nat → Nat} (K : RK T h rk) (hp : p < T) : ∀ (n t : Nat), t < T → rk t < n → inH h (nI (10 + p)) n t → ∃ c, c < T ∧ wq h c 5 = nI (10 + p) ∧ (c = t ∨ inH h (nI (10 + c)) 4 t) := by
  intro n
  induction n with
  | zero => intro t ht hn q; omega
  | succ n ih =>
    intro t ht hn q
    rw [inH] at q
    rcases q with q | q
    · exact ⟨t, ht, q, Or.inl rfl⟩
    · rcases pa_cases P ht with ⟨e1, -⟩ | ⟨u, hu, e1, e2, -⟩
      · rw [e1] at q; exact q.elim
      · rw [e1] at q
        have h2 := (K t ht).2.2.1 u hu e2
        obtain ⟨c, hc, g1, g2⟩ := ih u hu (by omega) q
        refine ⟨c, hc, g1, Or.inr ?_⟩
        have h3 : inH h (nI (10 + c)) 5 t := by
          rw [inH]
          rcases g2 with g2 | g2
          · subst g2; exact Or.inl e2
          · rw [e1]; exact Or.inr g2
        exact (inH_more P K _ 4 t ht (by have := (K t ht).1; omega)).mp h3
/-- what is in a child is in it -/
theorem inH_trans {T R p c : Nat} {h : pm_Hp} (P : Pl T R h) {rk : Nat → Nat} (K : RK T h rk) (hp : p < T) (hc : c < T) (hcp : wq h c 5 = nI (10 + p)) : ∀ (n t : Nat), t < T → rk t < n → inH h (nI (10 + c)) n t → inH h (nI (10 + p)) 4 t := by
  have hT := P.1
  intro n
  induction n with
  | zero => intro t ht hn q; omega
  | succ n ih =>
    intro t ht hn q
    rw [inH] at q
    have up : ∀ u, u < T → pa h t = some u → inH h (nI (10 + p)) 4 u → inH h (nI (10 + p)) 4 t := fun u hu e1 g => by
      have h3 : inH h (nI (10 + p)) 5 t := by
        rw [inH, e1]
        exact Or.inr g
      exact (inH_more P K _ 4 t ht (by have := (K t ht).1; omega)).mp h3
    rcases pa_cases P ht with ⟨e1, -, e3, -⟩ | ⟨u, hu, e1, e2, -⟩
    · rw [e1] at q
      exact absurd (q.elim id False.elim) (e3 c hc)
    · rw [e1] at q
      have h2 := (K t ht).2.2.1 u hu e2
      rcases q with q | q
      · rw [e2] at q
        have : u = c := by
          have := (nI_eq (by omega) (by omega)).mp q
          omega
        subst this
        refine up u hu e1 ?_
        rw [inH]
        exact Or.inl hcp
      · exact up u hu e1 (ih u hu (by omega) q)
/-- what holds something is a trunk -/
theorem inH_kind {T R p : Nat} {h : pm_Hp} (P : Pl T R h) (hp : p < T) : ∀ (n t : Nat), t < T → inH h (nI (10 + p)) n t → wq h p 0 = nI 5 := by
  have hT := P.1
  intro n
  induction n with
  | zero => intro t ht q; exact q.elim
  | succ n ih =>
    intro t ht q
    rw [inH] at q
    rcases pa_cases P ht with ⟨e1, -, e3, -⟩ | ⟨u, hu, e1, e2, e3⟩
    · rw [e1] at q
      exact absurd (q.elim id False.elim) (e3 p hp)
    · rw [e1] at q
      rcases q with q | q
      · rw [e2] at q
        have : u = p := by
          have := (nI_eq (by omega) (by omega)).mp q
          omega
        subst this
        exact e3
      · exact ih u hu q
theorem mdp_eq {T R : Nat} {h : pm_Hp} (P : Pl T R h) {rk : Nat → Nat} (K : RK T h rk) : ∀ (n t : Nat), t < T → wq h t 0 = nI 5 → 3 ≤ rk t + n → mdp h T n t = cdp h rk T t := by
  have hT := P.1
  intro n
  induction n with
  | zero =>
    intro t ht hk hn
    have := (K t ht).2.1 hk
    omega
  | succ n ih =>
    intro t ht hk hn
    have hrt := (K t ht).2.1 hk
    rw [mdp, if_pos hk]
    obtain ⟨a1, a2, a3⟩ := mx_spec (fun o => decide (wq h o 5 = nI (10 + t))) (fun o => mdp h T n o) T 0 0
    have ec : cdp h rk T t = mx (fun o => decide (wq h o 0 = nI 5) && bH h (nI (10 + t)) 4 o) (fun o => 1 + rk o - rk t) 0 T 1 := rfl
    obtain ⟨b1, b2', b3⟩ := mx_spec (fun o => decide (wq h o 0 = nI 5) && bH h (nI (10 + t)) 4 o) (fun o => 1 + rk o - rk t) T 0 1
    rw [← ec] at b1 b2' b3
    have child0 : ∀ c, c < T → wq h c 5 = nI (10 + t) → mdp h T n c + 1 ≤ cdp h rk T t := fun c hc hct => by
      have hrc := (K c hc).2.2.1 t ht hct
      have hin : inH h (nI (10 + t)) 4 c := by rw [inH]; exact Or.inl hct
      by_cases hkc : wq h c 0 = nI 5
      · rw [ih c hc hkc (by omega)]
        have ecc : cdp h rk T c = mx (fun o => decide (wq h o 0 = nI 5) && bH h (nI (10 + c)) 4 o) (fun o => 1 + rk o - rk c) 0 T 1 := rfl
        obtain ⟨c1, c2, c3⟩ := mx_spec (fun o => decide (wq h o 0 = nI 5) && bH h (nI (10 + c)) 4 o) (fun o => 1 + rk o - rk c) T 0 1
        rw [← ecc] at c1 c2 c3
        rcases c3 with c3 | ⟨o, g1, g2, g3, g4⟩
        · have := b2' c (by omega) (by omega) (by simp [hkc, bH_t.mpr hin])
          omega
        · rw [Bool.and_eq_true, decide_eq_true_iff, bH_t] at g3
          have ho : o < T := by omega
          have := b2' o (by omega) (by omega) (by simp [g3.1, bH_t.mpr (inH_trans P K ht hc hct 4 o ho (by have := (K o ho).1; omega) g3.2)])
          have := inH_rk P K hc 4 o ho g3.2
          omega
      · have : mdp h T n c = 0 := by
          cases n with
          | zero => rfl
          | succ n => rw [mdp, if_neg hkc]
        omega
    apply Nat.le_antisymm
    · rcases a3 with a3 | ⟨c, g1, g2, g3, g4⟩
      · omega
      · rw [decide_eq_true_iff] at g3
        have := child0 c (by omega) g3
        omega
    · rcases b3 with b3 | ⟨o, g1, g2, g3, g4⟩
      · omega
      · rw [Bool.and_eq_true, decide_eq_true_iff, bH_t] at g3
        have ho : o < T := by omega
        obtain ⟨c, hc, hct, hco⟩ := inH_child P K ht 4 o ho (by have := (K o ho).1; omega) g3.2
        have hrc := (K c hc).2.2.1 t ht hct
        have h1 := a2 c (by omega) (by omega) (by simp [hct])
        rcases hco with hco | hco
        · subst hco
          have h2 := ih c hc g3.1 (by omega)
          have ecc : cdp h rk T c = mx (fun o => decide (wq h o 0 = nI 5) && bH h (nI (10 + c)) 4 o) (fun o => 1 + rk o - rk c) 0 T 1 := rfl
          have c1 := (mx_spec (fun o => decide (wq h o 0 = nI 5) && bH h (nI (10 + c)) 4 o) (fun o => 1 + rk o - rk c) T 0 1).1
          omega
        · have hkc : wq h c 0 = nI 5 := inH_kind P hc 4 o ho hco
          have h2 := ih c hc hkc (by omega)
          have ecc : cdp h rk T c = mx (fun o => decide (wq h o 0 = nI 5) && bH h (nI (10 + c)) 4 o) (fun o => 1 + rk o - rk c) 0 T 1 := rfl
          have c2 := (mx_spec (fun o => decide (wq h o 0 = nI 5) && bH h (nI (10 + c)) 4 o) (fun o => 1 + rk o - rk c) T 0 1).2.1 o (by omega) (by omega) (by simp [g3.1, bH_t.mpr hco])
          have := inH_rk P K hc 4 o ho hco
          omega
