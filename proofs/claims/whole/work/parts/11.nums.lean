/-! NUMBERS AND LOOPS of the pure machine -/
theorem pm_lit (n : Nat) : (OfNat.ofNat n : Int32) = nI n := rfl
theorem pm_at_n {i : Int32} {n j : Nat} {k : Nat → pm_Rs} (hi : i = nI j) (hj : j < n) (hn : n < 2 ^ 31) : pm_at i n k = k j := by
  subst hi
  unfold pm_at
  rw [if_neg (nI_in hj hn), nI_clamp (by omega)]
theorem pm_at_c {j n : Nat} {k : Nat → pm_Rs} (hj : j < n) (hn : n < 2 ^ 31) : pm_at (nI j) n k = k j := pm_at_n rfl hj hn
/-- a truth as a number -/
def b2 (p : Prop) [Decidable p] : Int32 := if p then 1 else 0
theorem b2_t {p : Prop} [Decidable p] (h : p) : b2 p = 1 := if_pos h
theorem b2_f {p : Prop} [Decidable p] (h : ¬ p) : b2 p = 0 := if_neg h
theorem b2_0 {p : Prop} [Decidable p] : (b2 p = 0) = ¬ p := by
  by_cases h : p
  · rw [b2_t h]; simp [h]
  · rw [b2_f h]; simp [h]
theorem b2_1 {p : Prop} [Decidable p] : (b2 p = 1) = p := by
  by_cases h : p
  · rw [b2_t h]; simp [h]
  · rw [b2_f h]; simp [h]
theorem b2_if0 {α : Type} {p : Prop} [Decidable p] {x y : α} : (if b2 p = 0 then x else y) = if p then y else x := by
  by_cases h : p
  · rw [b2_t h, if_neg (by decide), if_pos h]
  · rw [b2_f h, if_pos rfl, if_neg h]
theorem b2_if1 {α : Type} {p : Prop} [Decidable p] {x y : α} : (if b2 p = 1 then x else y) = if p then x else y := by
  by_cases h : p
  · rw [b2_t h, if_pos rfl, if_pos h]
  · rw [b2_f h, if_neg (by decide), if_neg h]
theorem pm_bw_b2 {p : Prop} [Decidable p] {k : pm_Rs} : pm_bw (b2 p) k = k := by
  unfold pm_bw
  by_cases h : p
  · rw [b2_t h, if_pos (Or.inr rfl)]
  · rw [b2_f h, if_pos (Or.inl rfl)]
theorem pm_bw_0 {k : pm_Rs} : pm_bw 0 k = k := if_pos (Or.inl rfl)
theorem pm_bw_1 {k : pm_Rs} : pm_bw 1 k = k := if_pos (Or.inr rfl)
theorem b2_cg {p q : Prop} [Decidable p] [Decidable q] (h : p ↔ q) : b2 p = b2 q := by
  by_cases g : p
  · rw [b2_t g, b2_t (h.mp g)]
  · rw [b2_f g, b2_f (fun z => g (h.mpr z))]
/-- an int that is below N as a number, or is not -/
theorem pm_rg (x : Int32) {n : Nat} (hn : n < 2 ^ 31) : (∃ j : Nat, j < n ∧ x = nI j) ∨ (x < 0 ∨ nI n ≤ x) := by
  rcases pk_ix x hn with h | h | h
  · exact Or.inr (Or.inl h)
  · exact Or.inr (Or.inr h)
  · exact Or.inl h
theorem nI_pos0 {n : Nat} (h : n < 2 ^ 31) : (nI n < 0) = False := eq_false (nI_pos h)
theorem nI_ltE {a b : Nat} (ha : a < 2 ^ 31) (hb : b < 2 ^ 31) : (nI a < nI b) = (a < b) := propext (nI_ltI ha hb)
theorem nI_leE {a b : Nat} (ha : a < 2 ^ 31) (hb : b < 2 ^ 31) : (nI a ≤ nI b) = (a ≤ b) := propext (nI_leI ha hb)
theorem nI_eqE {a b : Nat} (ha : a < 2 ^ 31) (hb : b < 2 ^ 31) : (nI a = nI b) = (a = b) := propext (nI_eq ha hb)
theorem nI_m1 {a : Nat} (ha : a < 2 ^ 31) : (nI a = -1) = False := by
  refine eq_false (fun h => ?_)
  have h1 := congrArg Int32.toInt h
  rw [nI_toInt ha] at h1
  have h2 : (-1 : Int32).toInt = -1 := by decide
  omega
theorem nI_m1' {a : Nat} (ha : a < 2 ^ 31) : (-1 = nI a) = False := by
  refine eq_false (fun h => ?_)
  have := nI_m1 ha
  rw [← h] at this
  simp at this
/-- steps of a loop that counts upwards -/
def itr {α : Type} (g : Nat → α → α) : Nat → Nat → α → α
  | _, 0, a => a
  | i, n + 1, a => itr g (i + 1) n (g i a)
theorem itr_lp {α : Type} (F : Nat → α → pm_Rs) (g : Nat → α → α) (N : Nat) (P : Nat → α → Prop) (hs : ∀ i a, i < N → P i a → F i a = F (i + 1) (g i a) ∧ P (i + 1) (g i a)) : ∀ n i a, i + n = N → P i a → F i a = F N (itr g i n a) ∧ P N (itr g i n a) := by
  intro n
  induction n with
  | zero =>
    intro i a hi hp
    have : i = N := by omega
    subst this
    exact ⟨rfl, hp⟩
  | succ n ih =>
    intro i a hi hp
    obtain ⟨h1, h2⟩ := hs i a (by omega) hp
    rw [h1]
    exact ih (i + 1) (g i a) (by omega) h2
theorem itr_cg {α : Type} {g g' : Nat → α → α} : ∀ (n i : Nat) (a : α), (∀ j a, i ≤ j → j < i + n → g j a = g' j a) → itr g i n a = itr g' i n a := by
  intro n
  induction n with
  | zero => intro i a _; rfl
  | succ n ih =>
    intro i a h
    show itr g (i + 1) n (g i a) = itr g' (i + 1) n (g' i a)
    rw [h i a (Nat.le_refl _) (by omega)]
    exact ih (i + 1) _ (fun j b h1 h2 => h j b (by omega) (by omega))
theorem itr_add {α : Type} (g : Nat → α → α) : ∀ (m n i : Nat) (a : α), itr g i (m + n) a = itr g (i + m) n (itr g i m a) := by
  intro m
  induction m with
  | zero => intro n i a; rw [Nat.zero_add]; rfl
  | succ m ih =>
    intro n i a
    rw [show m + 1 + n = (m + n) + 1 by omega]
    show itr g (i + 1) (m + n) (g i a) = _
    rw [ih n (i + 1) (g i a), show i + 1 + m = i + (m + 1) by omega]
    rfl
/-- the first place from i on, of n, that has P -/
def fst1 (p : Nat → Prop) [DecidablePred p] : Nat → Nat → Option Nat
  | _, 0 => none
  | i, n + 1 => if p i then some i else fst1 p (i + 1) n
def o2 : Option Nat → Int32
  | none => -1
  | some k => nI k
theorem fst1_lp (F : Nat → pm_Rs) (p : Nat → Prop) [DecidablePred p] (N : Nat) (h : pm_Hp) (hs : ∀ i, i < N → F i = if p i then some (nI i, h) else F (i + 1)) (he : F N = some (-1, h)) : ∀ n i, i + n = N → F i = some (o2 (fst1 p i n), h) := by
  intro n
  induction n with
  | zero =>
    intro i hi
    have : i = N := by omega
    subst this
    exact he
  | succ n ih =>
    intro i hi
    rw [hs i (by omega)]
    unfold fst1
    by_cases hp : p i
    · rw [if_pos hp, if_pos hp]; rfl
    · rw [if_neg hp, if_neg hp]
      exact ih (i + 1) (by omega)
theorem fst1_some {p : Nat → Prop} [DecidablePred p] : ∀ {n i k : Nat}, fst1 p i n = some k → p k ∧ i ≤ k ∧ k < i + n := by
  intro n
  induction n with
  | zero => intro i k h; cases h
  | succ n ih =>
    intro i k h
    unfold fst1 at h
    by_cases hp : p i
    · rw [if_pos hp] at h
      cases h
      exact ⟨hp, Nat.le_refl _, by omega⟩
    · rw [if_neg hp] at h
      obtain ⟨h1, h2, h3⟩ := ih h
      exact ⟨h1, by omega, by omega⟩
theorem fst1_none {p : Nat → Prop} [DecidablePred p] : ∀ {n i : Nat}, fst1 p i n = none → ∀ k, i ≤ k → k < i + n → ¬ p k := by
  intro n
  induction n with
  | zero => intro i h k h1 h2; omega
  | succ n ih =>
    intro i h k h1 h2
    unfold fst1 at h
    by_cases hp : p i
    · rw [if_pos hp] at h; cases h
    · rw [if_neg hp] at h
      rcases Nat.lt_or_ge i k with g | g
      · exact ih h k (by omega) (by omega)
      · have : k = i := by omega
        subst this
        exact hp
theorem pm_up_s {h : pm_Hp} {k j : Nat} {v : Int32} : pm_up h k j v k j = v := if_pos ⟨rfl, rfl⟩
theorem pm_up_k {h : pm_Hp} {k j a b : Nat} {v : Int32} (e : a ≠ k) : pm_up h k j v a b = h a b := if_neg (fun q => e q.1)
theorem pm_up_j {h : pm_Hp} {k j a b : Nat} {v : Int32} (e : b ≠ j) : pm_up h k j v a b = h a b := if_neg (fun q => e q.2)
