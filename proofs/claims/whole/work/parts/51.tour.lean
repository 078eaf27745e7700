/-! TOUR: sets of things in order of worth -/
def un (D : Nat → Nat) (s : Nat) : Nat → Nat
  | 0 => 0
  | n + 1 => if s.testBit n = true then un D s n ||| D n else un D s n
theorem un_lt {D : Nat → Nat} (hD : ∀ t, D t < 64) (s : Nat) : ∀ n, un D s n < 64 := by
  intro n
  induction n with
  | zero => exact (by decide : 0 < 64)
  | succ n ih =>
    unfold un
    by_cases g : s.testBit n = true
    · rw [if_pos g]; exact Nat.or_lt_two_pow (n := 6) ih (hD n)
    · rw [if_neg g]; exact ih
theorem un_add {D : Nat → Nat} {s t : Nat} : ∀ n, un D (s ||| 2 ^ t) n = if t < n then un D s n ||| D t else un D s n := by
  intro n
  induction n with
  | zero => rfl
  | succ n ih =>
    unfold un
    rw [ih, bit_add]
    by_cases e : t = n
    · subst e
      rw [if_neg (show ¬ t < t by omega), if_pos (show t < t + 1 by omega), if_pos (show (s.testBit t || decide (t = t)) = true by simp)]
      by_cases g : s.testBit t = true
      · rw [if_pos g, Nat.or_assoc, Nat.or_self]
      · rw [if_neg g]
    · have e2 : (s.testBit n || decide (t = n)) = s.testBit n := by simp [e]
      rw [e2]
      by_cases l : t < n
      · rw [if_pos l, if_pos (show t < n + 1 by omega)]
        by_cases g : s.testBit n = true
        · rw [if_pos g, if_pos g, Nat.or_assoc, Nat.or_assoc, Nat.or_comm (D t)]
        · rw [if_neg g, if_neg g]
      · rw [if_neg l, if_neg (show ¬ t < n + 1 by omega)]
/-- a set's worth -/
def ky (D : Nat → Nat) (T s : Nat) : Nat := pcn (un D s T) 16 * 2 ^ 24 + (16 - pcn s 16) * 2 ^ 18 + (2 ^ 16 - s)
theorem ky_inj {D : Nat → Nat} {T a b : Nat} (ha : a < 2 ^ 16) (hb : b < 2 ^ 16) (h : ky D T a = ky D T b) : a = b := by
  unfold ky at h
  have := pcn_le (un D a T) 16
  have := pcn_le (un D b T) 16
  have := pcn_le a 16
  have := pcn_le b 16
  omega
/-- sets that are tried, from one on -/
def Cs (T : Nat) (D : Nat → Nat) : Nat → Nat → Nat → Nat → Prop
  | 0, _, s, x => x = s
  | n + 1, f, s, x => x = s ∨ ∃ t, f ≤ t ∧ t < T ∧ ¬ un D s T ||| D t = un D s T ∧ Cs T D n (t + 1) (s ||| 2 ^ t) x
theorem Cs.wk {T : Nat} {D : Nat → Nat} {n f s x : Nat} (h : Cs T D n (f + 1) s x) : Cs T D n f s x := by
  cases n with
  | zero => exact h
  | succ n =>
    rcases h with h | ⟨t, h1, h2⟩
    · exact Or.inl h
    · exact Or.inr ⟨t, by omega, h2⟩
theorem bit_lo {x k j : Nat} : (x % 2 ^ k).testBit j = (decide (j < k) && x.testBit j) := Nat.testBit_mod_two_pow x k j
theorem lo_succ_t {x k : Nat} (h : x.testBit k = true) : x % 2 ^ (k + 1) = x % 2 ^ k ||| 2 ^ k := by
  apply Nat.eq_of_testBit_eq
  intro j
  rw [bit_add, bit_lo, bit_lo]
  by_cases e : k = j
  · subst e; simp [h]
  · by_cases l : j < k
    · simp [l, show j < k + 1 by omega, e]
    · simp [l, show ¬ j < k + 1 by omega, e]
theorem lo_succ_f {x k : Nat} (h : ¬ x.testBit k = true) : x % 2 ^ (k + 1) = x % 2 ^ k := by
  apply Nat.eq_of_testBit_eq
  intro j
  rw [bit_lo, bit_lo]
  by_cases e : k = j
  · subst e; simp [h]
  · by_cases l : j < k
    · simp [l, show j < k + 1 by omega]
    · simp [l, show ¬ j < k + 1 by omega]
theorem pcn_lo {x : Nat} : ∀ (k n : Nat), pcn (x % 2 ^ k) n ≤ pcn x n := by
  intro k n
  induction n with
  | zero => exact Nat.le_refl _
  | succ n ih =>
    unfold pcn
    rw [bit_lo]
    by_cases g : x.testBit n = true
    · rw [if_pos g]
      by_cases l : n < k
      · rw [if_pos (by simp [l, g])]; omega
      · rw [if_neg (by simp [l])]; omega
    · rw [if_neg g, if_neg (by simp [g])]; omega
theorem un_bit {D : Nat → Nat} {s i : Nat} : ∀ n, (un D s n).testBit i = exb (fun t => s.testBit t && (D t).testBit i) n := by
  intro n
  induction n with
  | zero => exact Nat.zero_testBit i
  | succ n ih =>
    show _ = (exb (fun t => s.testBit t && (D t).testBit i) n || (s.testBit n && (D n).testBit i))
    unfold un
    by_cases g : s.testBit n = true
    · rw [if_pos g, Nat.testBit_or, ih, g, Bool.true_and]
    · rw [if_neg g, ih, Bool.eq_false_iff.mpr g, Bool.false_and, Bool.or_false]
theorem un_sub {D : Nat → Nat} {z y n : Nat} (h : ∀ k, z.testBit k = true → y.testBit k = true) : un D y n ||| un D z n = un D y n := by
  apply Nat.eq_of_testBit_eq
  intro i
  rw [Nat.testBit_or, un_bit, un_bit]
  cases e : exb (fun t => z.testBit t && (D t).testBit i) n with
  | false => rw [Bool.or_false]
  | true =>
    obtain ⟨k, hk, hb⟩ := exb_iff.mp e
    rw [Bool.and_eq_true] at hb
    rw [Bool.or_true]
    exact (exb_iff.mpr ⟨k, hk, by rw [h k hb.1, hb.2]; rfl⟩).symm
def Gd (T : Nat) (ok : Nat → Prop) (x : Nat) : Prop := x < 2 ^ T ∧ pcn x 16 ≤ 4 ∧ ∀ t, x.testBit t = true → ok t
theorem opt_new {T x t : Nat} {D : Nat → Nat} {ok : Nat → Prop} (hT : T ≤ 16) (G : Gd T ok x) (O : ∀ y, Gd T ok y → ky D T y ≤ ky D T x) (ht : t < T) (hb : x.testBit t = true) : ¬ un D (x % 2 ^ t) T ||| D t = un D (x % 2 ^ t) T := by
  intro h
  have hp : 2 ^ T ≤ 2 ^ 16 := Nat.pow_le_pow_right (by omega) hT
  have yb : ∀ j, (x ^^^ 2 ^ t).testBit j = (x.testBit j && !decide (t = j)) := fun j => by
    rw [Nat.testBit_xor, Nat.testBit_two_pow]
    by_cases e : t = j
    · subst e; simp [hb]
    · simp [e]
  generalize x ^^^ 2 ^ t = y at yb
  have xe : y ||| 2 ^ t = x := Nat.eq_of_testBit_eq (fun j => by
    rw [bit_add, yb]
    by_cases e : t = j
    · subst e; simp [hb]
    · simp [e])
  have y0 : y.testBit t = false := by rw [yb]; simp
  have yx : ∀ j, y.testBit j = true → x.testBit j = true := fun j hj => by
    rw [yb, Bool.and_eq_true] at hj
    exact hj.1
  have pc : pcn x 16 = pcn y 16 + 1 := by
    have := pcn_add y0 16
    rw [xe, if_pos (show t < 16 by omega)] at this
    exact this
  have ux : un D x T = un D y T ||| D t := by
    have := un_add (D := D) (s := y) (t := t) T
    rw [xe, if_pos ht] at this
    exact this
  have us : un D y T ||| un D (x % 2 ^ t) T = un D y T := un_sub (fun k hk => by
    rw [bit_lo, Bool.and_eq_true, decide_eq_true_eq] at hk
    rw [yb, hk.2]
    simp only [Bool.true_and, Bool.not_eq_true', decide_eq_false_iff_not]
    omega)
  have uu : un D y T ||| D t = un D y T := by rw [← us, Nat.or_assoc, h]
  have yl : y < 2 ^ T := by
    apply Nat.lt_pow_two_of_testBit
    intro i hi
    rw [yb, Nat.testBit_lt_two_pow (Nat.lt_of_lt_of_le G.1 (Nat.pow_le_pow_right (by omega) hi))]
    rfl
  have := O y ⟨yl, by have := G.2.1; omega, fun j hj => G.2.2 j (yx j hj)⟩
  have g1 := G.1
  have g2 := G.2.1
  unfold ky at this
  rw [ux, uu, pc] at this
  omega
theorem opt_C {T x : Nat} {D : Nat → Nat} {ok : Nat → Prop} (hT : T ≤ 16) (G : Gd T ok x) (O : ∀ y, Gd T ok y → ky D T y ≤ ky D T x) : Cs T D 4 0 0 x := by
  have key : ∀ n k, k + n = T → Cs T D (4 - pcn (x % 2 ^ k) 16) k (x % 2 ^ k) x := by
    intro n
    induction n with
    | zero =>
      intro k hk
      have hk : k = T := by omega
      subst hk
      rw [Nat.mod_eq_of_lt G.1]
      cases 4 - pcn x 16 with
      | zero => rfl
      | succ m => exact Or.inl rfl
    | succ n ih =>
      intro k hk
      have i := ih (k + 1) (by omega)
      by_cases b : x.testBit k = true
      · have l := pcn_lo (x := x) (k + 1) 16
        rw [lo_succ_t b] at i l
        have z : (x % 2 ^ k).testBit k = false := by rw [bit_lo]; simp
        rw [pcn_add z, if_pos (show k < 16 by omega)] at i l
        have g2 := G.2.1
        obtain ⟨m, hm⟩ : ∃ m, 4 - pcn (x % 2 ^ k) 16 = m + 1 := ⟨4 - pcn (x % 2 ^ k) 16 - 1, by omega⟩
        rw [hm]
        rw [show 4 - (pcn (x % 2 ^ k) 16 + 1) = m by omega] at i
        exact Or.inr ⟨k, Nat.le_refl _, by omega, opt_new hT G O (by omega) b, i⟩
      · rw [lo_succ_f b] at i
        exact i.wk
  have := key T 0 (by omega)
  rw [Nat.pow_zero, Nat.mod_one, pcn_0] at this
  exact this
