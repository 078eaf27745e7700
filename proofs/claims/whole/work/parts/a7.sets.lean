/-! SETS of things as ints -/
def bs (T : Nat) (v : Int32) (P : Nat → Prop) : Prop := ∃ s, s < 2 ^ T ∧ v = nI s ∧ ∀ b, b < T → (s.testBit b = true ↔ P b)
theorem nI_xor (a b : Nat) : nI a ^^^ nI b = nI (a ^^^ b) := by
  apply Int32.toBitVec_inj.mp
  rw [Int32.toBitVec_xor, nI_bv, nI_bv, nI_bv]
  apply BitVec.eq_of_getLsbD_eq
  intro i hi
  simp [BitVec.getLsbD_ofNat, hi]
theorem nI_not {s u : Nat} : nI s &&& (nI u ^^^ (-1)) = nI (s &&& (u ^^^ (2 ^ 32 - 1))) := by
  rw [show (-1 : Int32) = nI (2 ^ 32 - 1) by decide, nI_xor, nI_and]
theorem bit_hi {s T b : Nat} (hs : s < 2 ^ T) (hb : T ≤ b) : s.testBit b = false := Nat.testBit_lt_two_pow (Nat.lt_of_lt_of_le hs (Nat.pow_le_pow_right (by omega) hb))
theorem pow_T {T : Nat} (hT : T ≤ 16) : 2 ^ T ≤ 65536 := Nat.le_trans (Nat.pow_le_pow_right (by omega) hT) (by decide)
theorem bs.cg {T : Nat} {v : Int32} {P Q : Nat → Prop} (h : ∀ b, b < T → (P b ↔ Q b)) (a : bs T v P) : bs T v Q := by
  obtain ⟨s, a1, a2, a3⟩ := a
  exact ⟨s, a1, a2, fun b hb => (a3 b hb).trans (h b hb)⟩
theorem bs.zero {T : Nat} : bs T 0 (fun _ => False) := ⟨0, Nat.two_pow_pos T, rfl, fun b _ => by rw [Nat.zero_testBit]; exact ⟨fun z => absurd z (by decide), fun z => absurd z id⟩⟩
theorem bs.add {T t : Nat} {v : Int32} {P : Nat → Prop} (hT : T ≤ 16) (ht : t < T) (a : bs T v P) : bs T (v ||| pm_shl 1 (nI t)) (fun b => P b ∨ b = t) := by
  obtain ⟨s, a1, a2, a3⟩ := a
  refine ⟨s ||| 2 ^ t, add_lt a1 ht, by rw [a2, shl1 t (by omega), nI_or], fun b hb => ?_⟩
  rw [bit_add, Bool.or_eq_true, a3 b hb, decide_eq_true_eq]
  exact ⟨fun z => z.imp id Eq.symm, fun z => z.imp id Eq.symm⟩
theorem bs.and_ {T : Nat} {v u : Int32} {P Q : Nat → Prop} (a : bs T v P) (b : bs T u Q) : bs T (v &&& u) (fun x => P x ∧ Q x) := by
  obtain ⟨s, a1, a2, a3⟩ := a
  obtain ⟨r, b1, b2_, b3⟩ := b
  refine ⟨s &&& r, Nat.lt_of_le_of_lt Nat.and_le_left a1, by rw [a2, b2_, nI_and], fun x hx => ?_⟩
  rw [Nat.testBit_and, Bool.and_eq_true, a3 x hx, b3 x hx]
theorem bs.one {T t : Nat} {v : Int32} {P : Nat → Prop} (hT : T ≤ 16) (ht : t < T) (a : bs T v P) : bs T (v &&& pm_shl 1 (nI t)) (fun b => P b ∧ b = t) := by
  have z := (a.and_ (bs.zero.add hT ht)).cg (Q := fun b => P b ∧ b = t) (fun b _ => ⟨fun y => ⟨y.1, y.2.resolve_left id⟩, fun y => ⟨y.1, Or.inr y.2⟩⟩)
  rw [show (0 : Int32) ||| pm_shl 1 (nI t) = pm_shl 1 (nI t) by rw [shl1 t (by omega), show (0 : Int32) = nI 0 from rfl, nI_or, Nat.zero_or]] at z
  exact z
theorem bs.del {T t : Nat} {v : Int32} {P : Nat → Prop} (hT : T ≤ 16) (ht : t < T) (a : bs T v P) : bs T (v &&& (pm_shl 1 (nI t) ^^^ (-1))) (fun b => P b ∧ b ≠ t) := by
  obtain ⟨s, a1, a2, a3⟩ := a
  refine ⟨s &&& (2 ^ t ^^^ (2 ^ 32 - 1)), Nat.lt_of_le_of_lt Nat.and_le_left a1, by rw [a2, shl1 t (by omega), nI_not], fun b hb => ?_⟩
  rw [Nat.testBit_and, Nat.testBit_xor, Nat.testBit_two_pow_sub_one, Nat.testBit_two_pow, Bool.and_eq_true, a3 b hb]
  have : decide (b < 32) = true := by rw [decide_eq_true_eq]; omega
  rw [this]
  by_cases e : t = b
  · rw [decide_eq_true e]
    exact ⟨fun z => absurd z.2 (by decide), fun z => absurd e.symm z.2⟩
  · rw [decide_eq_false e]
    exact ⟨fun z => ⟨z.1, fun y => e y.symm⟩, fun z => ⟨z.1, rfl⟩⟩
theorem bs.has {d T t : Nat} {v : Int32} {P : Nat → Prop} (hd : 1 ≤ d) (hT : T ≤ 16) (ht : t < T) (a : bs T v P) (h : pm_Hp) : pm_ev d 154 [.int v, .int (nI t)] h = some (ck (P t) 1 0, h) := by
  obtain ⟨s, a1, a2, a3⟩ := a
  have := pow_T hT
  rw [a2, c_has hd h (by omega) (by omega)]
  by_cases g : P t
  · rw [ck_t g, b2_t ((a3 t ht).mpr g)]
  · rw [ck_f g, b2_f (fun z => g ((a3 t ht).mp z))]
theorem bs.eq0 {T : Nat} {v : Int32} {P : Nat → Prop} (hT : T ≤ 16) (a : bs T v P) : v = 0 ↔ ∀ b, b < T → ¬ P b := by
  obtain ⟨s, a1, a2, a3⟩ := a
  have := pow_T hT
  rw [a2]
  refine ⟨fun z b hb p => ?_, fun z => ?_⟩
  · have : s = 0 := (nI_eq (b := 0) (by omega) (by omega)).mp z
    have q := (a3 b hb).mpr p
    rw [this, Nat.zero_testBit] at q
    cases q
  · have : s = 0 := by
      apply Nat.eq_of_testBit_eq
      intro b
      rw [Nat.zero_testBit]
      by_cases hb : b < T
      · by_cases q : s.testBit b = true
        · exact absurd ((a3 b hb).mp q) (z b hb)
        · exact Bool.eq_false_iff.mpr q
      · exact bit_hi a1 (by omega)
    rw [this]
    exact nI_0
theorem bs.un {T : Nat} {v u : Int32} {P Q : Nat → Prop} (a : bs T v P) (b : bs T u Q) (h : ∀ x, x < T → (P x ↔ Q x)) : v = u := by
  obtain ⟨s, a1, a2, a3⟩ := a
  obtain ⟨r, b1, b2_, b3⟩ := b
  rw [a2, b2_]
  congr 1
  apply Nat.eq_of_testBit_eq
  intro x
  by_cases hx : x < T
  · have e : (s.testBit x = true) ↔ (r.testBit x = true) := ((a3 x hx).trans (h x hx)).trans (b3 x hx).symm
    cases h1 : s.testBit x <;> cases h2 : r.testBit x
    · rfl
    · rw [h1, h2] at e; exact absurd (e.mpr rfl) (by decide)
    · rw [h1, h2] at e; exact absurd (e.mp rfl) (by decide)
    · rfl
  · rw [bit_hi a1 (by omega), bit_hi b1 (by omega)]
/-- the rows of the planner -/
def PRw (T W : Nat) (cd : Nat → Nat → Prop) (co : Nat → Nat → Nat) (gt : Nat → Nat → Nat → Nat → Prop) (h : pm_Hp) : Prop := h 150 5 = nI W ∧ h 150 6 = nI T ∧ (∀ i, i < W → bs T (h 152 i) (cd i)) ∧ (∀ i t, i < W → t < T → cd i t → h 153 (i * 16 + t) = nI (co i t)) ∧ ∀ i t j, i < j → j < W → t < T → cd i t → bs T (h 154 ((i * 16 + t) * 6 + j)) (fun b => cd j b ∧ gt i t j b)
def MAXI : Nat := 1000000
theorem c_cheap {d T W j : Nat} {cd : Nat → Nat → Prop} {co : Nat → Nat → Nat} {gt : Nat → Nat → Nat → Nat → Prop} {h : pm_Hp} {v : Int32} {P : Nat → Prop} (hd : 2 ≤ d) (hT : T ≤ 16) (hW : W ≤ 6) (hc : ∀ i t, co i t ≤ 1000000) (R : PRw T W cd co gt h) (hj : j < W) (a : bs T v P) (hP : ∀ b, b < T → P b → cd j b) : pm_ev d 65 [.ref 150, .int (nI j), .int v] h = some (nI (mnf P (co j) MAXI T), h) := by
  obtain ⟨d, rfl, -⟩ := dpos hd
  rw [e_X4_cheapest]
  have key : ∀ (m i : Nat), i + m = T → pm_rn d kX4_cheapest 6 [.ref 150, .int (nI j), .int v, .int (nI (mnf P (co j) MAXI i)), .int (nI i)] [] h = some (nI (mnf P (co j) MAXI T), h) := by
    intro m
    induction m with
    | zero =>
      intro i hi
      rw [b_X4_cheapest_6, R.2.1, if_neg (nI_nlt (by omega) (by omega)), show i = T by omega]
    | succ m ih =>
      intro i hi
      have mB : mnf P (co j) MAXI i ≤ MAXI := mnf_B i
      have m1 : mnf P (co j) MAXI i < 2 ^ 31 := by unfold MAXI at mB ⊢; omega
      have := ih (i + 1) (by omega)
      rw [b_X4_cheapest_6, R.2.1, if_pos (nI_lt (by omega) (by omega)), a.has (by omega) hT (by omega), pm_bd_s]
      have us : mnf P (co j) MAXI (i + 1) = ck (P i) (min (mnf P (co j) MAXI i) (co j i)) (mnf P (co j) MAXI i) := rfl
      rw [us] at this
      by_cases g : P i
      · have ci := hc j i
        rw [ck_t g, if_neg (by decide), pk_mul, nI_add, pm_at_c (by omega) (by omega), R.2.2.2.1 j i hj (by omega) (hP i (by omega) g), e_min (by omega), pm_bd_s, nI_1]
        rw [ck_t g] at this
        rw [ltn_ite (by omega) m1]
        by_cases q : co j i < mnf P (co j) MAXI i
        · rw [if_pos q]
          rw [show min (mnf P (co j) MAXI i) (co j i) = co j i by omega] at this
          exact this
        · rw [if_neg q]
          rw [show min (mnf P (co j) MAXI i) (co j i) = mnf P (co j) MAXI i by omega] at this
          exact this
      · rw [ck_f g, if_pos rfl, nI_1]
        rw [ck_f g] at this
        exact this
  exact key T 0 (by omega)
