/-! SETS as numbers -/
theorem nI_bv (n : Nat) : (nI n).toBitVec = BitVec.ofNat 32 n := rfl
theorem nI_or (a b : Nat) : nI a ||| nI b = nI (a ||| b) := by
  apply Int32.toBitVec_inj.mp
  rw [Int32.toBitVec_or, nI_bv, nI_bv, nI_bv]
  apply BitVec.eq_of_getLsbD_eq
  intro i hi
  simp [BitVec.getLsbD_ofNat, hi]
theorem nI_and (a b : Nat) : nI a &&& nI b = nI (a &&& b) := by
  apply Int32.toBitVec_inj.mp
  rw [Int32.toBitVec_and, nI_bv, nI_bv, nI_bv]
  apply BitVec.eq_of_getLsbD_eq
  intro i hi
  simp [BitVec.getLsbD_ofNat, hi]
theorem shl1 : ∀ t, t < 31 → pm_shl 1 (nI t) = nI (2 ^ t) := by decide +kernel
theorem shAmt : ∀ t, t < 31 → (((nI t) &&& 31).toBitVec.smod 32).toNat = t ∧ ((((nI t).toUInt32 &&& Int32.toUInt32 31).toBitVec % 32).toNat = t) := by decide +kernel
theorem ushr_n {s t : Nat} (hs : s < 2 ^ 32) (ht : t < 31) : pm_ushr (nI s) (nI t) = nI (s / 2 ^ t) := pk_ushrN hs (nI t) t (shAmt t ht).2
theorem shr_n {s t : Nat} (hs : s < 2 ^ 31) (ht : t < 31) : pm_shr (nI s) (nI t) = nI (s / 2 ^ t) := pk_shrN hs ((nI t) &&& 31) t (shAmt t ht).1
theorem and1 {s : Nat} (hs : s < 2 ^ 32) : nI s &&& 1 = nI (s % 2) := by
  have := pk_andN hs (m := 1) 1 (by decide)
  rw [show (2 : Nat) ^ 1 = 2 from rfl] at this
  exact this
theorem bit_n {s t : Nat} : s / 2 ^ t % 2 = if s.testBit t = true then 1 else 0 := by
  rw [Nat.testBit_eq_decide_div_mod_eq]
  have : s / 2 ^ t % 2 < 2 := Nat.mod_lt _ (by omega)
  by_cases h : s / 2 ^ t % 2 = 1
  · simp [h]
  · have : s / 2 ^ t % 2 = 0 := by omega
    simp [this]
theorem div_lt {s t n : Nat} (hs : s < n) : s / 2 ^ t < n := Nat.lt_of_le_of_lt (Nat.div_le_self _ _) hs
theorem ushr_bit {s t : Nat} (hs : s < 2 ^ 31) (ht : t < 31) : pm_ushr (nI s) (nI t) &&& 1 = if s.testBit t = true then 1 else 0 := by
  rw [ushr_n (by omega) ht, and1 (div_lt (by omega)), bit_n]
  by_cases h : s.testBit t = true
  · rw [if_pos h, if_pos h]; rfl
  · rw [if_neg h, if_neg h]; rfl
theorem shr_bit {s t : Nat} (hs : s < 2 ^ 31) (ht : t < 31) : pm_shr (nI s) (nI t) &&& 1 = if s.testBit t = true then 1 else 0 := by
  rw [shr_n hs ht, and1 (div_lt (by omega)), bit_n]
  by_cases h : s.testBit t = true
  · rw [if_pos h, if_pos h]; rfl
  · rw [if_neg h, if_neg h]; rfl
theorem c_has {d s t : Nat} (hd : 1 ≤ d) (h : pm_Hp) (hs : s < 2 ^ 31) (ht : t < 31) : pm_ev d 154 [.int (nI s), .int (nI t)] h = some (b2 (s.testBit t = true), h) := by
  obtain ⟨d, rfl, -⟩ := dpos hd
  rw [e_X9_has, ushr_bit hs ht]
  by_cases g : s.testBit t = true
  · rw [if_pos g, if_neg (by decide), b2_t g]
  · rw [if_neg g, if_pos rfl, b2_f g]
/-- the set of those of n that have p -/
def sof (p : Nat → Bool) : Nat → Nat
  | 0 => 0
  | n + 1 => if p n = true then sof p n ||| 2 ^ n else sof p n
theorem sof_bit (p : Nat → Bool) : ∀ (n i : Nat), (sof p n).testBit i = (decide (i < n) && p i) := by
  intro n
  induction n with
  | zero => intro i; simp [sof]
  | succ n ih =>
    intro i
    unfold sof
    by_cases h : p n = true
    · rw [if_pos h, Nat.testBit_or, ih, Nat.testBit_two_pow]
      by_cases e : n = i
      · subst e; simp [h]
      · have : (i < n + 1) ↔ (i < n) := by omega
        simp [e, this]
    · rw [if_neg h, ih]
      by_cases e : n = i
      · subst e; simp [h]
      · have : (i < n + 1) ↔ (i < n) := by omega
        simp [this]
theorem sof_lt (p : Nat → Bool) (n : Nat) : sof p n < 2 ^ n := by
  apply Nat.lt_pow_two_of_testBit
  intro i hi
  rw [sof_bit]
  have : ¬ i < n := by omega
  simp [this]
/-- a loop that adds members -/
theorem itr_sof (p : Nat → Bool) (n : Nat) (hn : n ≤ 30) : itr (fun a s => if p a = true then s ||| pm_shl 1 (nI a) else s) 0 n 0 = nI (sof p n) := by
  induction n with
  | zero => rfl
  | succ n ih =>
    rw [itr_add _ n 1 0 0, ih (by omega)]
    show (if p (0 + n) = true then nI (sof p n) ||| pm_shl 1 (nI (0 + n)) else nI (sof p n)) = nI (if p n = true then sof p n ||| 2 ^ n else sof p n)
    rw [Nat.zero_add]
    by_cases h : p n = true
    · rw [if_pos h, if_pos h, shl1 n (by omega), nI_or]
    · rw [if_neg h, if_neg h]
