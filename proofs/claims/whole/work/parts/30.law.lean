/-! LAWS: lines of postfix code. An op is (its kind as the model has it, its number) -/
abbrev Op : Type := Nat × Int32
def eqi (L : List Nat) (h h' : pm_Hp) : Prop := ∀ k, k ∉ L → h' k = h k
theorem eqi.rf {L : List Nat} {h : pm_Hp} : eqi L h h := fun _ _ => rfl
theorem eqi.tr {L : List Nat} {h h' h'' : pm_Hp} (a : eqi L h h') (b : eqi L h' h'') : eqi L h h'' := fun k hk => (b k hk).trans (a k hk)
theorem pm_up_n {h : pm_Hp} {k j a : Nat} {v : Int32} (e : a ≠ k) : pm_up h k j v a = h a := funext fun b => pm_up_k e
theorem eqi.up {L : List Nat} {h h' : pm_Hp} {k j : Nat} {v : Int32} (a : eqi L h h') (hk : k ∈ L) : eqi L h (pm_up h' k j v) := fun k' hk' => (pm_up_n (fun e => hk' (by rw [e]; exact hk))).trans (a k' hk')
theorem eqi.mono {L M : List Nat} {h h' : pm_Hp} (a : eqi L h h') (hs : ∀ k, k ∈ L → k ∈ M) : eqi M h h' := fun k hk => a k (fun q => hk (hs k q))
def cfi (f : Nat) : Nat := if f = 8 then 8 else if f = 9 then 7 else f - 1
def sgn (n : Nat) : Nat := if n = 23 then 43 else if n = 24 then 45 else if n = 25 then 42 else if n = 27 then 60 else if n = 28 then 61 else if n = 29 then 62 else if n = 30 then 208 else if n = 31 then 207 else 206
/-- the class's code of an op: how long, and what stands there -/
def eln (o : Op) : Nat := if o.1 = 26 then 2 else 1
def enc (o : Op) (i : Nat) : Int32 := if o.1 = 0 then o.2 else if o.1 = 26 then (if i = 0 then o.2 else -(nI 47)) else if o.1 ≤ 9 then -1 - nI (cfi o.1) else -(nI (sgn o.1))
def cseg (h : pm_Hp) (c : Nat) : Nat → List Op → Prop
  | _, [] => True
  | p, o :: l => (∀ i, i < eln o → h c (p + i) = enc o i) ∧ cseg h c (p + eln o) l
def cln : List Op → Nat
  | [] => 0
  | o :: l => eln o + cln l
def mseg (h : pm_Hp) (k : Nat) : Nat → List Op → Prop
  | _, [] => True
  | p, o :: l => (h 170 (1004 + 820 * k + 2 * p) = nI o.1 ∧ ((o.1 = 0 ∨ o.1 = 26) → h 170 (1004 + 820 * k + 2 * p + 1) = o.2)) ∧ mseg h k (p + 1) l
theorem cseg_eq {h h' : pm_Hp} {c : Nat} (e : h' c = h c) : ∀ (l : List Op) (p : Nat), cseg h c p l → cseg h' c p l
  | [], _, _ => trivial
  | _ :: l, _, q => ⟨fun i hi => by rw [e]; exact q.1 i hi, cseg_eq e l _ q.2⟩
theorem mseg_eq {h h' : pm_Hp} {k : Nat} (e : h' 170 = h 170) : ∀ (l : List Op) (p : Nat), mseg h k p l → mseg h' k p l
  | [], _, _ => trivial
  | _ :: l, _, q => ⟨by rw [e]; exact q.1, mseg_eq e l _ q.2⟩
def both (n : Nat) (a b : Int32) : Int32 := if n = 23 then a + b else if n = 24 then a - b else if n = 25 then a * b else if n = 27 then b2 (a < b) else if n = 28 then b2 (a = b) else if n = 29 then b2 (b < a) else if n = 31 then a &&& b else a ||| b
/-- one op over a stack f of n -/
def evo (fa : Nat → Int32) (o : Op) (s : (Nat → Int32) × Nat) : (Nat → Int32) × Nat :=
  if o.1 = 0 then (upd s.1 s.2 o.2, s.2 + 1) else if o.1 ≤ 9 then (upd s.1 s.2 (fa o.1), s.2 + 1) else if o.1 = 26 then (upd s.1 (s.2 - 1) (s.1 (s.2 - 1) / o.2), s.2) else if o.1 = 30 then (upd s.1 (s.2 - 1) (1 - s.1 (s.2 - 1)), s.2) else (upd s.1 (s.2 - 2) (both o.1 (s.1 (s.2 - 2)) (s.1 (s.2 - 1))), s.2 - 1)
def evs (fa : Nat → Int32) : List Op → (Nat → Int32) × Nat → (Nat → Int32) × Nat
  | [], s => s
  | o :: l, s => evs fa l (evo fa o s)
/-- what an op wants: the stack's height, which places hold truths -/
def okO (o : Op) (ty : Nat → Bool) (n : Nat) : Prop :=
  (o.1 = 0 ∧ (∃ k, k ≤ 9999 ∧ o.2 = nI k) ∧ n < 22) ∨ (1 ≤ o.1 ∧ o.1 ≤ 9 ∧ n < 22) ∨ (o.1 = 26 ∧ (∃ k, 1 ≤ k ∧ k ≤ 9999 ∧ o.2 = nI k) ∧ 1 ≤ n ∧ n < 23) ∨ (23 ≤ o.1 ∧ o.1 ≤ 25 ∧ 2 ≤ n ∧ n < 23) ∨ (27 ≤ o.1 ∧ o.1 ≤ 29 ∧ 2 ≤ n ∧ n < 23) ∨ (o.1 = 30 ∧ 1 ≤ n ∧ n < 23 ∧ ty (n - 1) = true) ∨ (31 ≤ o.1 ∧ o.1 ≤ 32 ∧ 2 ≤ n ∧ n < 23 ∧ ty (n - 1) = true ∧ ty (n - 2) = true)
def tyO (o : Op) (s : (Nat → Bool) × Nat) : (Nat → Bool) × Nat :=
  if o.1 ≤ 9 then (fun i => if i = s.2 then false else s.1 i, s.2 + 1) else if o.1 = 26 then (fun i => if i = s.2 - 1 then false else s.1 i, s.2) else if o.1 = 30 then s else if o.1 ≤ 25 then (fun i => if i = s.2 - 2 then false else s.1 i, s.2 - 1) else (fun i => if i = s.2 - 2 then true else s.1 i, s.2 - 1)
def okL : List Op → (Nat → Bool) × Nat → Prop
  | [], _ => True
  | o :: l, s => okO o s.1 s.2 ∧ okL l (tyO o s)
def tyL : List Op → (Nat → Bool) × Nat → (Nat → Bool) × Nat
  | [], s => s
  | o :: l, s => tyL l (tyO o s)
def vty (s : (Nat → Bool) × Nat) (f : Nat → Int32) : Prop := ∀ i, i < s.2 → s.1 i = true → f i = 0 ∨ f i = 1
def ag (h : pm_Hp) (c : Nat) (f : Nat → Int32) (n : Nat) : Prop := ∀ i, i < n → h c i = f i
theorem ag_up {h : pm_Hp} {c : Nat} {f : Nat → Int32} {n m j : Nat} {v : Int32} (a : ag h c f n) (hm : ∀ i, i < m → i ≠ j → i < n) : ag (pm_up h c j v) c (upd f j v) m := fun i hi => by
  by_cases e : i = j
  · subst e; rw [pm_up_s, pk_us]
  · rw [pm_up_j e, pk_un e]; exact a i (hm i hi e)
theorem evo_n (fa : Nat → Int32) (o : Op) (f : Nat → Int32) (ty : Nat → Bool) (n : Nat) : (evo fa o (f, n)).2 = (tyO o (ty, n)).2 := by
  unfold evo tyO
  by_cases h0 : o.1 = 0
  · simp [h0]
  · by_cases h9 : o.1 ≤ 9
    · simp [h0, h9]
    · by_cases h26 : o.1 = 26
      · simp [h26]
      · by_cases h30 : o.1 = 30
        · simp [h30]
        · by_cases h25 : o.1 ≤ 25 <;> simp [h0, h9, h26, h30, h25]
theorem and01 {a b : Int32} (ha : a = 0 ∨ a = 1) (hb : b = 0 ∨ b = 1) : (a &&& b = 0 ∨ a &&& b = 1) ∧ (a ||| b = 0 ∨ a ||| b = 1) := by
  rcases ha with rfl | rfl <;> rcases hb with rfl | rfl <;> decide
theorem b2_01 {p : Prop} [Decidable p] : b2 p = 0 ∨ b2 p = 1 := by
  by_cases h : p
  · exact Or.inr (b2_t h)
  · exact Or.inl (b2_f h)
theorem vty_o {fa : Nat → Int32} {o : Op} {ty : Nat → Bool} {n : Nat} {f : Nat → Int32} (hok : okO o ty n) (hv : vty (ty, n) f) : vty (tyO o (ty, n)) (evo fa o (f, n)).1 := by
  intro i hi ht
  have hv' : ∀ i, i < n → ty i = true → f i = 0 ∨ f i = 1 := hv
  rcases hok with ⟨h0, hk, hn⟩ | ⟨h1, h2, hn⟩ | ⟨h0, hk, hn, hn2⟩ | ⟨h1, h2, hn, hn2⟩ | ⟨h1, h2, hn, hn2⟩ | ⟨h0, hn, hn2, ht1⟩ | ⟨h1, h2, hn, hn2, ht1, ht2⟩
  · unfold tyO at hi ht
    unfold evo
    rw [if_pos (by omega)] at hi ht
    rw [if_pos h0]
    dsimp only at hi ht ⊢
    by_cases e : i = n
    · rw [if_pos e] at ht; cases ht
    · rw [if_neg e] at ht; rw [pk_un e]; exact hv' i (by omega) ht
  · unfold tyO at hi ht
    unfold evo
    rw [if_pos (by omega)] at hi ht
    rw [if_neg (by omega), if_pos (by omega)]
    dsimp only at hi ht ⊢
    by_cases e : i = n
    · rw [if_pos e] at ht; cases ht
    · rw [if_neg e] at ht; rw [pk_un e]; exact hv' i (by omega) ht
  · unfold tyO at hi ht
    unfold evo
    rw [if_neg (by omega), if_pos h0] at hi ht
    rw [if_neg (by omega), if_neg (by omega), if_pos h0]
    dsimp only at hi ht ⊢
    by_cases e : i = n - 1
    · rw [if_pos e] at ht; cases ht
    · rw [if_neg e] at ht; rw [pk_un e]; exact hv' i (by omega) ht
  · unfold tyO at hi ht
    unfold evo
    rw [if_neg (by omega), if_neg (by omega), if_neg (by omega), if_pos (by omega)] at hi ht
    rw [if_neg (by omega), if_neg (by omega), if_neg (by omega), if_neg (by omega)]
    dsimp only at hi ht ⊢
    by_cases e : i = n - 2
    · rw [if_pos e] at ht; cases ht
    · rw [if_neg e] at ht; rw [pk_un e]; exact hv' i (by omega) ht
  · unfold tyO at hi ht
    unfold evo
    rw [if_neg (by omega), if_neg (by omega), if_neg (by omega), if_neg (by omega)] at hi ht
    rw [if_neg (by omega), if_neg (by omega), if_neg (by omega), if_neg (by omega)]
    dsimp only at hi ht ⊢
    by_cases e : i = n - 2
    · subst e
      rw [pk_us]
      unfold both
      rw [if_neg (by omega), if_neg (by omega), if_neg (by omega)]
      have : o.1 = 27 ∨ o.1 = 28 ∨ o.1 = 29 := by omega
      rcases this with g | g | g
      · rw [if_pos g]; exact b2_01
      · rw [if_neg (by omega), if_pos g]; exact b2_01
      · rw [if_neg (by omega), if_neg (by omega), if_pos g]; exact b2_01
    · rw [if_neg e] at ht; rw [pk_un e]; exact hv' i (by omega) ht
  · unfold tyO at hi ht
    unfold evo
    rw [if_neg (by omega), if_neg (by omega), if_pos h0] at hi ht
    rw [if_neg (by omega), if_neg (by omega), if_neg (by omega), if_pos h0]
    dsimp only at hi ht ⊢
    by_cases e : i = n - 1
    · subst e
      rw [pk_us]
      rcases hv' (n - 1) (by omega) ht1 with g | g <;> rw [g] <;> decide
    · rw [pk_un e]; exact hv' i (by omega) ht
  · unfold tyO at hi ht
    unfold evo
    rw [if_neg (by omega), if_neg (by omega), if_neg (by omega), if_neg (by omega)] at hi ht
    rw [if_neg (by omega), if_neg (by omega), if_neg (by omega), if_neg (by omega)]
    dsimp only at hi ht ⊢
    by_cases e : i = n - 2
    · subst e
      rw [pk_us]
      unfold both
      rw [if_neg (by omega), if_neg (by omega), if_neg (by omega), if_neg (by omega), if_neg (by omega), if_neg (by omega)]
      have g1 := hv' (n - 2) (by omega) ht2
      have g2 := hv' (n - 1) (by omega) ht1
      have := and01 g1 g2
      split
      · exact this.1
      · exact this.2
    · rw [if_neg e] at ht; rw [pk_un e]; exact hv' i (by omega) ht
/-! the class's run of one op -/
theorem combine_c {d n : Nat} (hd : 1 ≤ d) (h : pm_Hp) (a b : Int32) (hn : (23 ≤ n ∧ n ≤ 25) ∨ (27 ≤ n ∧ n ≤ 29) ∨ n = 31 ∨ n = 32) : pm_ev d 51 [.int (-(-(nI (sgn n)))), .int a, .int b] h = some (both n a b, h) := by
  obtain ⟨d, rfl, -⟩ := dpos hd
  rw [e_X3_combine]
  have : n = 23 ∨ n = 24 ∨ n = 25 ∨ n = 27 ∨ n = 28 ∨ n = 29 ∨ n = 31 ∨ n = 32 := by omega
  rcases this with rfl | rfl | rfl | rfl | rfl | rfl | rfl | rfl
  · rw [if_neg (by decide), if_pos (by decide)]; rfl
  · rw [if_neg (by decide), if_neg (by decide), if_pos (by decide)]; rfl
  · rw [if_pos (by decide)]; rfl
  · rw [if_neg (by decide), if_neg (by decide), if_neg (by decide), if_neg (by decide), if_pos (by decide)]
    show _ = some (b2 (a < b), h)
    unfold b2
    split <;> rfl
  · rw [if_neg (by decide), if_neg (by decide), if_neg (by decide), if_neg (by decide), if_neg (by decide), if_pos (by decide)]
    show _ = some (b2 (a = b), h)
    unfold b2
    split <;> rfl
  · rw [if_neg (by decide), if_neg (by decide), if_neg (by decide), if_neg (by decide), if_neg (by decide), if_neg (by decide), if_pos (by decide)]
    show _ = some (b2 (b < a), h)
    unfold b2
    by_cases e : a ≤ b
    · rw [if_pos e, if_neg (Int32.not_lt.mpr e)]
    · rw [if_neg e, if_pos (Int32.not_le.mp e)]
  · rw [if_neg (by decide), if_neg (by decide), if_neg (by decide), if_neg (by decide), if_neg (by decide), if_neg (by decide), if_neg (by decide), if_pos (by decide)]; rfl
  · rw [if_neg (by decide), if_neg (by decide), if_neg (by decide), if_neg (by decide), if_neg (by decide), if_neg (by decide), if_neg (by decide), if_neg (by decide)]; rfl
theorem both_m {d n : Nat} (hd : 1 ≤ d) (h : pm_Hp) (a b : Int32) (hn : (23 ≤ n ∧ n ≤ 25) ∨ (27 ≤ n ∧ n ≤ 29) ∨ n = 31 ∨ n = 32) : pm_ev d 208 [.int (nI n), .int a, .int b] h = some (both n a b, h) := by
  obtain ⟨d, rfl, -⟩ := dpos hd
  rw [e_X10_both]
  have : n = 23 ∨ n = 24 ∨ n = 25 ∨ n = 27 ∨ n = 28 ∨ n = 29 ∨ n = 31 ∨ n = 32 := by omega
  rcases this with rfl | rfl | rfl | rfl | rfl | rfl | rfl | rfl
  · rfl
  · rfl
  · rfl
  · show (if a < b then some (1, h) else some (0, h)) = some (b2 (a < b), h)
    unfold b2
    split <;> rfl
  · show (if a = b then some (1, h) else some (0, h)) = some (b2 (a = b), h)
    unfold b2
    split <;> rfl
  · show (if a ≤ b then some (0, h) else some (1, h)) = some (b2 (b < a), h)
    unfold b2
    by_cases e : a ≤ b
    · rw [if_pos e, if_neg (Int32.not_lt.mpr e)]
    · rw [if_neg e, if_pos (Int32.not_le.mp e)]
  · rfl
  · rfl
theorem enc_bin : ∀ n, ((23 ≤ n ∧ n ≤ 25) ∨ (27 ≤ n ∧ n ≤ 29) ∨ n = 31 ∨ n = 32) → -(nI (sgn n)) < (-9 : Int32) ∧ ¬ -(nI (sgn n)) = (-208 : Int32) := by
  intro n hn
  have : n = 23 ∨ n = 24 ∨ n = 25 ∨ n = 27 ∨ n = 28 ∨ n = 29 ∨ n = 31 ∨ n = 32 := by omega
  rcases this with rfl | rfl | rfl | rfl | rfl | rfl | rfl | rfl <;> decide
theorem enc_fact : ∀ f, (1 ≤ f ∧ f ≤ 9) → ¬ (-1 - nI (cfi f)) < (-9 : Int32) ∧ (-1 - nI (cfi f)) < (0 : Int32) ∧ (-1 : Int32) - (-1 - nI (cfi f)) = nI (cfi f) ∧ cfi f < 9 := by
  intro f hf
  have : f = 1 ∨ f = 2 ∨ f = 3 ∨ f = 4 ∨ f = 5 ∨ f = 6 ∨ f = 7 ∨ f = 8 ∨ f = 9 := by omega
  rcases this with rfl | rfl | rfl | rfl | rfl | rfl | rfl | rfl | rfl <;> decide
theorem nI_m9 {k : Nat} (hk : k < 2 ^ 31) : ¬ nI k < (-9 : Int32) := fun q => by
  rw [Int32.lt_iff_toInt_lt, nI_toInt hk] at q
  have : (-9 : Int32).toInt = -9 := by decide
  omega
theorem c_op_0 {d q p n : Nat} {o : Op} {ty : Nat → Bool} {f fa : Nat → Int32} {h : pm_Hp} (u1 u6 : Value) (hd : 1 ≤ d) (hok : okO o ty n) (hv : vty (ty, n) f) (hq : p + eln o ≤ q) (hq4 : q ≤ 400) (hs : ∀ i, i < eln o → h 19 (p + i) = enc o i) (hf : ∀ k, 1 ≤ k → k ≤ 9 → h 37 (cfi k) = fa k) (ha : ag h 24 f n) : ∃ u h', pm_rn d kX3_run 6 [.ref 18, u1, .int (nI q), .ref 37, .int (nI n), .int (nI p), u6] [] h = pm_rn d kX3_run 6 [.ref 18, u1, .int (nI q), .ref 37, .int (nI (evo fa o (f, n)).2), .int (nI (p + eln o)), u] [] h' ∧ ag h' 24 (evo fa o (f, n)).1 (evo fa o (f, n)).2 ∧ eqi [24] h h' := by
  have mK : 24 ∈ [24] := List.mem_singleton.mpr rfl
  rcases hok with ⟨h0, ⟨k, hk, ek⟩, hn⟩ | ⟨h1, h2, hn⟩ | ⟨h0, ⟨k, hk1, hk, ek⟩, hn, hn2⟩ | ⟨h1, h2, hn, hn2⟩ | ⟨h1, h2, hn, hn2⟩ | ⟨h0, hn, hn2, ht1⟩ | ⟨h1, h2, hn, hn2, ht1, ht2⟩
  · -- a number
    have el : eln o = 1 := by unfold eln; rw [if_neg (by omega)]
    have e0 := hs 0 (by omega)
    rw [Nat.add_zero] at e0
    unfold enc at e0
    rw [if_pos h0, ek] at e0
    unfold evo
    rw [if_pos h0, el]
    refine ⟨.int (nI k), _, ?_, ag_up ha (fun i h1 h2 => by omega), eqi.rf.up mK⟩
    rw [b_X3_run_0_6, if_pos (nI_lt (by omega) (by omega)), if_pos (nI_lt (by omega) (by omega)), pm_at_c (by omega) (by omega), e0, if_neg (nI_m9 (by omega)), if_pos (nI_lt (by omega) (by omega)), if_neg (nI_pos (by omega)), pm_at_c (by omega) (by omega), nI_1, nI_1, ek]
  · -- a fact
    have el : eln o = 1 := by unfold eln; rw [if_neg (by omega)]
    have e0 := hs 0 (by omega)
    rw [Nat.add_zero] at e0
    unfold enc at e0
    rw [if_neg (by omega), if_neg (by omega), if_pos h2] at e0
    obtain ⟨g1, g2, g3, g4⟩ := enc_fact o.1 ⟨h1, h2⟩
    unfold evo
    rw [if_neg (by omega), if_pos h2, el]
    refine ⟨.int (-1 - nI (cfi o.1)), _, ?_, ag_up ha (fun i h1 h2 => by omega), eqi.rf.up mK⟩
    rw [b_X3_run_0_6, if_pos (nI_lt (by omega) (by omega)), if_pos (nI_lt (by omega) (by omega)), pm_at_c (by omega) (by omega), e0, if_neg g1, if_pos (nI_lt (by omega) (by omega)), if_pos g2, g3, b_X3_run_0_66, pm_at_c g4 (by omega), pm_at_c (by omega) (by omega), nI_1, nI_1, hf o.1 h1 h2]
  · -- a part
    have el : eln o = 2 := by unfold eln; rw [if_pos h0]
    have e0 := hs 0 (by omega)
    have e1 := hs 1 (by omega)
    rw [Nat.add_zero] at e0
    unfold enc at e0 e1
    rw [if_neg (by omega), if_pos h0, if_pos rfl, ek] at e0
    rw [if_neg (by omega), if_pos h0, if_neg (by omega)] at e1
    unfold evo
    rw [if_neg (by omega), if_neg (by omega), if_pos h0, el]
    have hne : ¬ nI k = 0 := nI_ne0 (by omega) (by omega)
    refine ⟨.int (-(nI 47)), pm_up (pm_up h 24 n (nI k)) 24 (n - 1) (f (n - 1) / nI k), ?_, ?_, (eqi.rf.up mK).up mK⟩
    · rw [b_X3_run_0_6, if_pos (nI_lt (by omega) (by omega)), if_pos (nI_lt (by omega) (by omega)), pm_at_c (by omega) (by omega), e0, if_neg (nI_m9 (by omega)), if_pos (nI_lt (by omega) (by omega)), if_neg (nI_pos (by omega)), pm_at_c (by omega) (by omega), nI_1, nI_1]
      rw [b_X3_run_0_6, if_pos (nI_lt (by omega) (by omega)), if_pos (nI_lt (by omega) (by omega)), pm_at_c (by omega) (by omega), pm_up_k (show 19 ≠ 24 by decide), e1, if_pos (by decide), if_neg (by decide), if_neg (nI_nlt (by omega) (by omega)), pk_sub (by omega), nI_pred, pm_at_c (by omega) (by omega), pm_at_c (by omega) (by omega), pm_up_s, pm_up_j (show n + 1 - 2 ≠ n by omega), ha (n + 1 - 2) (by omega)]
      have e2 : pm_ev d 51 [.int (-(-(nI 47))), .int (f (n + 1 - 2)), .int (nI k)] (pm_up h 24 n (nI k)) = some (f (n + 1 - 2) / nI k, pm_up h 24 n (nI k)) := by
        obtain ⟨d, rfl, -⟩ := dpos hd
        rw [e_X3_combine, if_neg (by decide), if_neg (by decide), if_neg (by decide), if_pos (by decide), if_neg hne, if_neg hne]
      rw [e2, pm_bd_s, pm_at_c (by omega) (by omega), nI_1, pk_m1, show n + 1 - 2 = n - 1 by omega, show p + 1 + 1 = p + 2 by omega]
    · rw [ek]
      dsimp only
      intro i hi
      by_cases e : i = n - 1
      · subst e; rw [pm_up_s, pk_us]
      · rw [pm_up_j e, pk_un e, pm_up_j (by omega)]; exact ha i hi
  · -- sums
    have el : eln o = 1 := by unfold eln; rw [if_neg (by omega)]
    have hb : (23 ≤ o.1 ∧ o.1 ≤ 25) ∨ (27 ≤ o.1 ∧ o.1 ≤ 29) ∨ o.1 = 31 ∨ o.1 = 32 := by omega
    have e0 := hs 0 (by omega)
    rw [Nat.add_zero] at e0
    unfold enc at e0
    rw [if_neg (by omega), if_neg (by omega), if_neg (by omega)] at e0
    obtain ⟨g1, g2⟩ := enc_bin o.1 hb
    unfold evo
    rw [if_neg (by omega), if_neg (by omega), if_neg (by omega), if_neg (by omega), el]
    refine ⟨.int (-(nI (sgn o.1))), _, ?_, ag_up ha (fun i h1 h2 => by dsimp only at h1; omega), eqi.rf.up mK⟩
    rw [b_X3_run_0_6, if_pos (nI_lt (by omega) (by omega)), if_pos (nI_lt (by omega) (by omega)), pm_at_c (by omega) (by omega), e0, if_pos g1, if_neg g2, if_neg (nI_nlt (by omega) (by omega)), pk_sub (by omega), show nI n - 1 = nI (n - 1) from by rw [show n = (n - 1) + 1 by omega, nI_pred]; rfl, pm_at_c (by omega) (by omega), pm_at_c (by omega) (by omega), ha (n - 2) (by omega), ha (n - 1) (by omega), combine_c hd h _ _ hb, pm_bd_s, pm_at_c (by omega) (by omega), nI_1, show nI n + -1 = nI (n - 1) from by rw [show n = (n - 1) + 1 by omega, pk_m1]; rfl]
  · -- compares
    have el : eln o = 1 := by unfold eln; rw [if_neg (by omega)]
    have hb : (23 ≤ o.1 ∧ o.1 ≤ 25) ∨ (27 ≤ o.1 ∧ o.1 ≤ 29) ∨ o.1 = 31 ∨ o.1 = 32 := by omega
    have e0 := hs 0 (by omega)
    rw [Nat.add_zero] at e0
    unfold enc at e0
    rw [if_neg (by omega), if_neg (by omega), if_neg (by omega)] at e0
    obtain ⟨g1, g2⟩ := enc_bin o.1 hb
    unfold evo
    rw [if_neg (by omega), if_neg (by omega), if_neg (by omega), if_neg (by omega), el]
    refine ⟨.int (-(nI (sgn o.1))), _, ?_, ag_up ha (fun i h1 h2 => by dsimp only at h1; omega), eqi.rf.up mK⟩
    rw [b_X3_run_0_6, if_pos (nI_lt (by omega) (by omega)), if_pos (nI_lt (by omega) (by omega)), pm_at_c (by omega) (by omega), e0, if_pos g1, if_neg g2, if_neg (nI_nlt (by omega) (by omega)), pk_sub (by omega), show nI n - 1 = nI (n - 1) from by rw [show n = (n - 1) + 1 by omega, nI_pred]; rfl, pm_at_c (by omega) (by omega), pm_at_c (by omega) (by omega), ha (n - 2) (by omega), ha (n - 1) (by omega), combine_c hd h _ _ hb, pm_bd_s, pm_at_c (by omega) (by omega), nI_1, show nI n + -1 = nI (n - 1) from by rw [show n = (n - 1) + 1 by omega, pk_m1]; rfl]
  · -- not
    have el : eln o = 1 := by unfold eln; rw [if_neg (by omega)]
    have e0 := hs 0 (by omega)
    rw [Nat.add_zero] at e0
    unfold enc at e0
    rw [if_neg (by omega), if_neg (by omega), if_neg (by omega), h0] at e0
    have e0 : h 19 p = -(nI 208) := e0
    unfold evo
    rw [if_neg (by omega), if_neg (by omega), if_neg (by omega), if_pos h0, el]
    have hb : f (n - 1) = 0 ∨ f (n - 1) = 1 := hv (n - 1) (by omega) ht1
    refine ⟨.int (-(nI 208)), _, ?_, ag_up ha (fun i h1 h2 => h1), eqi.rf.up mK⟩
    rw [b_X3_run_0_6, if_pos (nI_lt (by omega) (by omega)), if_pos (nI_lt (by omega) (by omega)), pm_at_c (by omega) (by omega), e0, if_pos (by decide), if_pos (by decide), if_neg (by rw [show (1 : Int32) = nI 1 from rfl]; exact nI_nlt (by omega) (by omega)), show nI n - 1 = nI (n - 1) from by rw [show n = (n - 1) + 1 by omega, nI_pred]; rfl, pm_at_c (by omega) (by omega), pm_at_c (by omega) (by omega), pm_at_c (by omega) (by omega), ha (n - 1) (by omega), nI_1]
    dsimp only
    rcases hb with g | g
    · rw [g, if_pos rfl, show (1 : Int32) - 0 = 1 from by decide]
    · rw [g, if_neg (by decide), show (1 : Int32) - 1 = 0 from by decide]
  · -- and, or
    have el : eln o = 1 := by unfold eln; rw [if_neg (by omega)]
    have hb : (23 ≤ o.1 ∧ o.1 ≤ 25) ∨ (27 ≤ o.1 ∧ o.1 ≤ 29) ∨ o.1 = 31 ∨ o.1 = 32 := by omega
    have e0 := hs 0 (by omega)
    rw [Nat.add_zero] at e0
    unfold enc at e0
    rw [if_neg (by omega), if_neg (by omega), if_neg (by omega)] at e0
    obtain ⟨g1, g2⟩ := enc_bin o.1 hb
    unfold evo
    rw [if_neg (by omega), if_neg (by omega), if_neg (by omega), if_neg (by omega), el]
    refine ⟨.int (-(nI (sgn o.1))), _, ?_, ag_up ha (fun i h1 h2 => by dsimp only at h1; omega), eqi.rf.up mK⟩
    rw [b_X3_run_0_6, if_pos (nI_lt (by omega) (by omega)), if_pos (nI_lt (by omega) (by omega)), pm_at_c (by omega) (by omega), e0, if_pos g1, if_neg g2, if_neg (nI_nlt (by omega) (by omega)), pk_sub (by omega), show nI n - 1 = nI (n - 1) from by rw [show n = (n - 1) + 1 by omega, nI_pred]; rfl, pm_at_c (by omega) (by omega), pm_at_c (by omega) (by omega), ha (n - 2) (by omega), ha (n - 1) (by omega), combine_c hd h _ _ hb, pm_bd_s, pm_at_c (by omega) (by omega), nI_1, show nI n + -1 = nI (n - 1) from by rw [show n = (n - 1) + 1 by omega, pk_m1]; rfl]
theorem c_op_1 {d q p n : Nat} {o : Op} {ty : Nat → Bool} {f fa : Nat → Int32} {h : pm_Hp} (u1 u6 : Value) (hd : 1 ≤ d) (hok : okO o ty n) (hv : vty (ty, n) f) (hq : p + eln o ≤ q) (hq4 : q ≤ 400) (hs : ∀ i, i < eln o → h 26 (p + i) = enc o i) (hf : ∀ k, 1 ≤ k → k ≤ 9 → h 37 (cfi k) = fa k) (ha : ag h 31 f n) : ∃ u h', pm_rn d kX3_run 6 [.ref 25, u1, .int (nI q), .ref 37, .int (nI n), .int (nI p), u6] [] h = pm_rn d kX3_run 6 [.ref 25, u1, .int (nI q), .ref 37, .int (nI (evo fa o (f, n)).2), .int (nI (p + eln o)), u] [] h' ∧ ag h' 31 (evo fa o (f, n)).1 (evo fa o (f, n)).2 ∧ eqi [31] h h' := by
  have mK : 31 ∈ [31] := List.mem_singleton.mpr rfl
  rcases hok with ⟨h0, ⟨k, hk, ek⟩, hn⟩ | ⟨h1, h2, hn⟩ | ⟨h0, ⟨k, hk1, hk, ek⟩, hn, hn2⟩ | ⟨h1, h2, hn, hn2⟩ | ⟨h1, h2, hn, hn2⟩ | ⟨h0, hn, hn2, ht1⟩ | ⟨h1, h2, hn, hn2, ht1, ht2⟩
  · -- a number
    have el : eln o = 1 := by unfold eln; rw [if_neg (by omega)]
    have e0 := hs 0 (by omega)
    rw [Nat.add_zero] at e0
    unfold enc at e0
    rw [if_pos h0, ek] at e0
    unfold evo
    rw [if_pos h0, el]
    refine ⟨.int (nI k), _, ?_, ag_up ha (fun i h1 h2 => by omega), eqi.rf.up mK⟩
    rw [b_X3_run_1_6, if_pos (nI_lt (by omega) (by omega)), if_pos (nI_lt (by omega) (by omega)), pm_at_c (by omega) (by omega), e0, if_neg (nI_m9 (by omega)), if_pos (nI_lt (by omega) (by omega)), if_neg (nI_pos (by omega)), pm_at_c (by omega) (by omega), nI_1, nI_1, ek]
  · -- a fact
    have el : eln o = 1 := by unfold eln; rw [if_neg (by omega)]
    have e0 := hs 0 (by omega)
    rw [Nat.add_zero] at e0
    unfold enc at e0
    rw [if_neg (by omega), if_neg (by omega), if_pos h2] at e0
    obtain ⟨g1, g2, g3, g4⟩ := enc_fact o.1 ⟨h1, h2⟩
    unfold evo
    rw [if_neg (by omega), if_pos h2, el]
    refine ⟨.int (-1 - nI (cfi o.1)), _, ?_, ag_up ha (fun i h1 h2 => by omega), eqi.rf.up mK⟩
    rw [b_X3_run_1_6, if_pos (nI_lt (by omega) (by omega)), if_pos (nI_lt (by omega) (by omega)), pm_at_c (by omega) (by omega), e0, if_neg g1, if_pos (nI_lt (by omega) (by omega)), if_pos g2, g3, b_X3_run_1_66, pm_at_c g4 (by omega), pm_at_c (by omega) (by omega), nI_1, nI_1, hf o.1 h1 h2]
  · -- a part
    have el : eln o = 2 := by unfold eln; rw [if_pos h0]
    have e0 := hs 0 (by omega)
    have e1 := hs 1 (by omega)
    rw [Nat.add_zero] at e0
    unfold enc at e0 e1
    rw [if_neg (by omega), if_pos h0, if_pos rfl, ek] at e0
    rw [if_neg (by omega), if_pos h0, if_neg (by omega)] at e1
    unfold evo
    rw [if_neg (by omega), if_neg (by omega), if_pos h0, el]
    have hne : ¬ nI k = 0 := nI_ne0 (by omega) (by omega)
    refine ⟨.int (-(nI 47)), pm_up (pm_up h 31 n (nI k)) 31 (n - 1) (f (n - 1) / nI k), ?_, ?_, (eqi.rf.up mK).up mK⟩
    · rw [b_X3_run_1_6, if_pos (nI_lt (by omega) (by omega)), if_pos (nI_lt (by omega) (by omega)), pm_at_c (by omega) (by omega), e0, if_neg (nI_m9 (by omega)), if_pos (nI_lt (by omega) (by omega)), if_neg (nI_pos (by omega)), pm_at_c (by omega) (by omega), nI_1, nI_1]
      rw [b_X3_run_1_6, if_pos (nI_lt (by omega) (by omega)), if_pos (nI_lt (by omega) (by omega)), pm_at_c (by omega) (by omega), pm_up_k (show 26 ≠ 31 by decide), e1, if_pos (by decide), if_neg (by decide), if_neg (nI_nlt (by omega) (by omega)), pk_sub (by omega), nI_pred, pm_at_c (by omega) (by omega), pm_at_c (by omega) (by omega), pm_up_s, pm_up_j (show n + 1 - 2 ≠ n by omega), ha (n + 1 - 2) (by omega)]
      have e2 : pm_ev d 51 [.int (-(-(nI 47))), .int (f (n + 1 - 2)), .int (nI k)] (pm_up h 31 n (nI k)) = some (f (n + 1 - 2) / nI k, pm_up h 31 n (nI k)) := by
        obtain ⟨d, rfl, -⟩ := dpos hd
        rw [e_X3_combine, if_neg (by decide), if_neg (by decide), if_neg (by decide), if_pos (by decide), if_neg hne, if_neg hne]
      rw [e2, pm_bd_s, pm_at_c (by omega) (by omega), nI_1, pk_m1, show n + 1 - 2 = n - 1 by omega, show p + 1 + 1 = p + 2 by omega]
    · rw [ek]
      dsimp only
      intro i hi
      by_cases e : i = n - 1
      · subst e; rw [pm_up_s, pk_us]
      · rw [pm_up_j e, pk_un e, pm_up_j (by omega)]; exact ha i hi
  · -- sums
    have el : eln o = 1 := by unfold eln; rw [if_neg (by omega)]
    have hb : (23 ≤ o.1 ∧ o.1 ≤ 25) ∨ (27 ≤ o.1 ∧ o.1 ≤ 29) ∨ o.1 = 31 ∨ o.1 = 32 := by omega
    have e0 := hs 0 (by omega)
    rw [Nat.add_zero] at e0
    unfold enc at e0
    rw [if_neg (by omega), if_neg (by omega), if_neg (by omega)] at e0
    obtain ⟨g1, g2⟩ := enc_bin o.1 hb
    unfold evo
    rw [if_neg (by omega), if_neg (by omega), if_neg (by omega), if_neg (by omega), el]
    refine ⟨.int (-(nI (sgn o.1))), _, ?_, ag_up ha (fun i h1 h2 => by dsimp only at h1; omega), eqi.rf.up mK⟩
    rw [b_X3_run_1_6, if_pos (nI_lt (by omega) (by omega)), if_pos (nI_lt (by omega) (by omega)), pm_at_c (by omega) (by omega), e0, if_pos g1, if_neg g2, if_neg (nI_nlt (by omega) (by omega)), pk_sub (by omega), show nI n - 1 = nI (n - 1) from by rw [show n = (n - 1) + 1 by omega, nI_pred]; rfl, pm_at_c (by omega) (by omega), pm_at_c (by omega) (by omega), ha (n - 2) (by omega), ha (n - 1) (by omega), combine_c hd h _ _ hb, pm_bd_s, pm_at_c (by omega) (by omega), nI_1, show nI n + -1 = nI (n - 1) from by rw [show n = (n - 1) + 1 by omega, pk_m1]; rfl]
  · -- compares
    have el : eln o = 1 := by unfold eln; rw [if_neg (by omega)]
    have hb : (23 ≤ o.1 ∧ o.1 ≤ 25) ∨ (27 ≤ o.1 ∧ o.1 ≤ 29) ∨ o.1 = 31 ∨ o.1 = 32 := by omega
    have e0 := hs 0 (by omega)
    rw [Nat.add_zero] at e0
    unfold enc at e0
    rw [if_neg (by omega), if_neg (by omega), if_neg (by omega)] at e0
    obtain ⟨g1, g2⟩ := enc_bin o.1 hb
    unfold evo
    rw [if_neg (by omega), if_neg (by omega), if_neg (by omega), if_neg (by omega), el]
    refine ⟨.int (-(nI (sgn o.1))), _, ?_, ag_up ha (fun i h1 h2 => by dsimp only at h1; omega), eqi.rf.up mK⟩
    rw [b_X3_run_1_6, if_pos (nI_lt (by omega) (by omega)), if_pos (nI_lt (by omega) (by omega)), pm_at_c (by omega) (by omega), e0, if_pos g1, if_neg g2, if_neg (nI_nlt (by omega) (by omega)), pk_sub (by omega), show nI n - 1 = nI (n - 1) from by rw [show n = (n - 1) + 1 by omega, nI_pred]; rfl, pm_at_c (by omega) (by omega), pm_at_c (by omega) (by omega), ha (n - 2) (by omega), ha (n - 1) (by omega), combine_c hd h _ _ hb, pm_bd_s, pm_at_c (by omega) (by omega), nI_1, show nI n + -1 = nI (n - 1) from by rw [show n = (n - 1) + 1 by omega, pk_m1]; rfl]
  · -- not
    have el : eln o = 1 := by unfold eln; rw [if_neg (by omega)]
    have e0 := hs 0 (by omega)
    rw [Nat.add_zero] at e0
    unfold enc at e0
    rw [if_neg (by omega), if_neg (by omega), if_neg (by omega), h0] at e0
    have e0 : h 26 p = -(nI 208) := e0
    unfold evo
    rw [if_neg (by omega), if_neg (by omega), if_neg (by omega), if_pos h0, el]
    have hb : f (n - 1) = 0 ∨ f (n - 1) = 1 := hv (n - 1) (by omega) ht1
    refine ⟨.int (-(nI 208)), _, ?_, ag_up ha (fun i h1 h2 => h1), eqi.rf.up mK⟩
    rw [b_X3_run_1_6, if_pos (nI_lt (by omega) (by omega)), if_pos (nI_lt (by omega) (by omega)), pm_at_c (by omega) (by omega), e0, if_pos (by decide), if_pos (by decide), if_neg (by rw [show (1 : Int32) = nI 1 from rfl]; exact nI_nlt (by omega) (by omega)), show nI n - 1 = nI (n - 1) from by rw [show n = (n - 1) + 1 by omega, nI_pred]; rfl, pm_at_c (by omega) (by omega), pm_at_c (by omega) (by omega), pm_at_c (by omega) (by omega), ha (n - 1) (by omega), nI_1]
    dsimp only
    rcases hb with g | g
    · rw [g, if_pos rfl, show (1 : Int32) - 0 = 1 from by decide]
    · rw [g, if_neg (by decide), show (1 : Int32) - 1 = 0 from by decide]
  · -- and, or
    have el : eln o = 1 := by unfold eln; rw [if_neg (by omega)]
    have hb : (23 ≤ o.1 ∧ o.1 ≤ 25) ∨ (27 ≤ o.1 ∧ o.1 ≤ 29) ∨ o.1 = 31 ∨ o.1 = 32 := by omega
    have e0 := hs 0 (by omega)
    rw [Nat.add_zero] at e0
    unfold enc at e0
    rw [if_neg (by omega), if_neg (by omega), if_neg (by omega)] at e0
    obtain ⟨g1, g2⟩ := enc_bin o.1 hb
    unfold evo
    rw [if_neg (by omega), if_neg (by omega), if_neg (by omega), if_neg (by omega), el]
    refine ⟨.int (-(nI (sgn o.1))), _, ?_, ag_up ha (fun i h1 h2 => by dsimp only at h1; omega), eqi.rf.up mK⟩
    rw [b_X3_run_1_6, if_pos (nI_lt (by omega) (by omega)), if_pos (nI_lt (by omega) (by omega)), pm_at_c (by omega) (by omega), e0, if_pos g1, if_neg g2, if_neg (nI_nlt (by omega) (by omega)), pk_sub (by omega), show nI n - 1 = nI (n - 1) from by rw [show n = (n - 1) + 1 by omega, nI_pred]; rfl, pm_at_c (by omega) (by omega), pm_at_c (by omega) (by omega), ha (n - 2) (by omega), ha (n - 1) (by omega), combine_c hd h _ _ hb, pm_bd_s, pm_at_c (by omega) (by omega), nI_1, show nI n + -1 = nI (n - 1) from by rw [show n = (n - 1) + 1 by omega, pk_m1]; rfl]
