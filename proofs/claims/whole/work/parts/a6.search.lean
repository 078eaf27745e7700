/-! THE SEARCH, as numbers: all plans in order, the first of the cheapest stays -/
abbrev Sr : Type := Bool × Nat × (Nat → Nat)
def sup (f : Nat → Nat) (i t : Nat) : Nat → Nat := fun k => if k = i then t else f k
theorem sup_s {f : Nat → Nat} {i t : Nat} : sup f i t i = t := if_pos rfl
theorem sup_o {f : Nat → Nat} {i t k : Nat} (h : k ≠ i) : sup f i t k = f k := if_neg h
theorem itr_id {α : Type} {g : Nat → α → α} : ∀ (n i : Nat) (s : α), (∀ t, i ≤ t → t < i + n → g t s = s) → itr g i n s = s := by
  intro n
  induction n with
  | zero => intro i s _; rfl
  | succ n ih =>
    intro i s h
    show itr g (i + 1) n (g i s) = s
    rw [h i (Nat.le_refl _) (by omega)]
    exact ih (i + 1) s (fun t h1 h2 => h t (by omega) (by omega))
section
variable (T : Nat) (cd : Nat → Nat → Prop) (co : Nat → Nat → Nat) (gt : Nat → Nat → Nat → Nat → Prop)
def vd (i : Nat) (f : Nat → Nat) (t : Nat) : Prop := cd i t ∧ ∀ j, j < i → gt j (f j) i t
noncomputable def exs : Nat → Nat → (Nat → Nat) → Nat → Sr → Sr
  | 0, _, f, c, s => if s.1 = true ∧ s.2.1 ≤ c then s else (true, c, f)
  | r + 1, i, f, c, s => itr (fun t s => ck (vd cd gt i f t) (exs r (i + 1) (sup f i t) (c + co i t) s) s) 0 T s
/-- every plan from here costs m at least -/
def lb : Nat → Nat → (Nat → Nat) → Nat → Nat → Prop
  | 0, _, _, c, m => m ≤ c
  | r + 1, i, f, c, m => ∀ t, t < T → vd cd gt i f t → lb r (i + 1) (sup f i t) (c + co i t) m
def sm (mm : Nat → Nat) : Nat → Nat → Nat
  | _, 0 => 0
  | i, r + 1 => mm i + sm mm (i + 1) r
end
section
variable {T : Nat} {cd : Nat → Nat → Prop} {co : Nat → Nat → Nat} {gt : Nat → Nat → Nat → Nat → Prop}
theorem exs_lb : ∀ (r i : Nat) (f : Nat → Nat) (c : Nat) (s : Sr), s.1 = true → lb T cd co gt r i f c s.2.1 → exs T cd co gt r i f c s = s := by
  intro r
  induction r with
  | zero => intro i f c s h1 h2; exact if_pos ⟨h1, h2⟩
  | succ r ih =>
    intro i f c s h1 h2
    refine itr_id T 0 s (fun t _ ht => ?_)
    by_cases g : vd cd gt i f t
    · rw [ck_t g]; exact ih _ _ _ s h1 (h2 t (by omega) g)
    · rw [ck_f g]
theorem exs_no : ∀ (r i : Nat) (f : Nat → Nat) (c : Nat) (s : Sr), (∀ m, lb T cd co gt r i f c m) → exs T cd co gt r i f c s = s := by
  intro r
  induction r with
  | zero => intro i f c s h; exact absurd (show c + 1 ≤ c from h (c + 1)) (by omega)
  | succ r ih =>
    intro i f c s h
    refine itr_id T 0 s (fun t _ ht => ?_)
    by_cases g : vd cd gt i f t
    · rw [ck_t g]; exact ih _ _ _ s (fun m => h m t (by omega) g)
    · rw [ck_f g]
theorem lb_mono : ∀ (r i : Nat) (f : Nat → Nat) (c m m' : Nat), m ≤ m' → lb T cd co gt r i f c m' → lb T cd co gt r i f c m := by
  intro r
  induction r with
  | zero => intro i f c m m' h a; exact Nat.le_trans h a
  | succ r ih => intro i f c m m' h a t ht g; exact ih _ _ _ _ _ h (a t ht g)
theorem lb_sum (mm : Nat → Nat) : ∀ (r i : Nat) (f : Nat → Nat) (c : Nat), (∀ j, i ≤ j → j < i + r → ∀ b, b < T → cd j b → (∀ k, k < i → gt k (f k) j b) → mm j ≤ co j b) → lb T cd co gt r i f c (c + sm mm i r) := by
  intro r
  induction r with
  | zero => intro i f c _; exact Nat.le_refl c
  | succ r ih =>
    intro i f c h t ht g
    have h0 := h i (Nat.le_refl _) (by omega) t ht g.1 g.2
    have := ih (i + 1) (sup f i t) (c + co i t) (fun j h1 h2 b hb c1 c2 => h j (by omega) (by omega) b hb c1 (fun k hk => by
      have := c2 k (by omega)
      rw [sup_o (by omega)] at this
      exact this))
    refine lb_mono _ _ _ _ _ _ ?_ this
    show c + (mm i + sm mm (i + 1) r) ≤ _
    omega
theorem sm_ge (mm : Nat → Nat) : ∀ (r i j : Nat), i ≤ j → j < i + r → mm j ≤ sm mm i r := by
  intro r
  induction r with
  | zero => intro i j h1 h2; omega
  | succ r ih =>
    intro i j h1 h2
    show mm j ≤ mm i + sm mm (i + 1) r
    by_cases e : j = i
    · rw [e]; omega
    · have := ih (i + 1) j (by omega) (by omega); omega
theorem lb_no {r i j : Nat} {f : Nat → Nat} {c : Nat} (h1 : i ≤ j) (h2 : j < i + r) (h : ∀ b, b < T → cd j b → ¬ ∀ k, k < i → gt k (f k) j b) (m : Nat) : lb T cd co gt r i f c m := by
  have a := lb_sum (T := T) (cd := cd) (co := co) (gt := gt) (fun x => if x = j then m else 0) r i f c (fun x q1 q2 b hb c1 c2 => by
    by_cases e : x = j
    · subst e; exact absurd c2 (h b hb c1)
    · show (if x = j then m else 0) ≤ _
      rw [if_neg e]; exact Nat.zero_le _)
  refine lb_mono _ _ _ _ _ _ ?_ a
  have := sm_ge (fun x => if x = j then m else 0) r i j h1 h2
  have e : (if j = j then m else 0) = m := if_pos rfl
  have : m ≤ sm (fun x => if x = j then m else 0) i r := by rw [e] at this; exact this
  omega
theorem sm_le {mm : Nat → Nat} {B : Nat} : ∀ (r i : Nat), (∀ j, i ≤ j → j < i + r → mm j ≤ B) → sm mm i r ≤ r * B := by
  intro r
  induction r with
  | zero => intro i _; exact Nat.zero_le _
  | succ r ih =>
    intro i h
    have h1 := h i (Nat.le_refl _) (by omega)
    have h2 := ih (i + 1) (fun j a b => h j (by omega) (by omega))
    show mm i + sm mm (i + 1) r ≤ (r + 1) * B
    rw [Nat.succ_mul]
    omega
/-- the least of what p has, at most B -/
noncomputable def mnf (p : Nat → Prop) (f : Nat → Nat) (B : Nat) : Nat → Nat
  | 0 => B
  | n + 1 => ck (p n) (min (mnf p f B n) (f n)) (mnf p f B n)
theorem mnf_le {p : Nat → Prop} {f : Nat → Nat} {B : Nat} : ∀ (n b : Nat), b < n → p b → mnf p f B n ≤ f b := by
  intro n
  induction n with
  | zero => intro b hb; omega
  | succ n ih =>
    intro b hb pb
    unfold mnf
    by_cases e : b = n
    · subst e; rw [ck_t pb]; omega
    · have := ih b (by omega) pb
      by_cases g : p n
      · rw [ck_t g]; omega
      · rw [ck_f g]; exact this
theorem mnf_B {p : Nat → Prop} {f : Nat → Nat} {B : Nat} : ∀ (n : Nat), mnf p f B n ≤ B := by
  intro n
  induction n with
  | zero => exact Nat.le_refl _
  | succ n ih =>
    unfold mnf
    by_cases g : p n
    · rw [ck_t g]; omega
    · rw [ck_f g]; exact ih
theorem mnf_ex {p : Nat → Prop} {f : Nat → Nat} {B C : Nat} (hf : ∀ b, f b ≤ C) : ∀ (n : Nat), (∃ b, b < n ∧ p b) → mnf p f B n ≤ C := by
  intro n ⟨b, hb, pb⟩
  exact Nat.le_trans (mnf_le n b hb pb) (hf b)
theorem mnf_none {p : Nat → Prop} {f : Nat → Nat} {B : Nat} : ∀ (n : Nat), (∀ b, b < n → ¬ p b) → mnf p f B n = B := by
  intro n
  induction n with
  | zero => intro _; rfl
  | succ n ih => intro h; unfold mnf; rw [ck_f (h n (by omega))]; exact ih (fun b hb => h b (by omega))
theorem mnf_cg {p q : Nat → Prop} {f g : Nat → Nat} {B : Nat} : ∀ (n : Nat), (∀ b, b < n → (p b ↔ q b)) → (∀ b, b < n → p b → f b = g b) → mnf p f B n = mnf q g B n := by
  intro n
  induction n with
  | zero => intro _ _; rfl
  | succ n ih =>
    intro h1 h2
    unfold mnf
    have e := ih (fun b hb => h1 b (by omega)) (fun b hb => h2 b (by omega))
    by_cases c : p n
    · rw [ck_t c, ck_t ((h1 n (by omega)).mp c), e, h2 n (by omega) c]
    · rw [ck_f c, ck_f (fun z => c ((h1 n (by omega)).mpr z)), e]
/-- another bound, where something has p -/
theorem mnf_BB {p : Nat → Prop} {f : Nat → Nat} {B B' C : Nat} (hf : ∀ b, f b ≤ C) (hB : C ≤ B) (hB' : C ≤ B') : ∀ (n : Nat), (∃ b, b < n ∧ p b) → mnf p f B n = mnf p f B' n := by
  intro n
  induction n with
  | zero => intro ⟨b, hb, _⟩; omega
  | succ n ih =>
    intro ⟨b, hb, pb⟩
    unfold mnf
    by_cases ex : ∃ b, b < n ∧ p b
    · rw [ih ex]
    · have no : ∀ b, b < n → ¬ p b := fun b hb z => ex ⟨b, hb, z⟩
      have e : b = n := by
        by_cases q : b = n
        · exact q
        · exact absurd pb (no b (by omega))
      subst e
      rw [ck_t pb, ck_t pb, mnf_none b no, mnf_none b no]
      have := hf b
      omega
/-- what is found: a plan, where there is one -/
def okS (cd : Nat → Nat → Prop) (gt : Nat → Nat → Nat → Nat → Prop) (T W : Nat) (s : Sr) : Prop := s.1 = true → ∀ i, i < W → s.2.2 i < T ∧ cd i (s.2.2 i) ∧ ∀ j, j < i → gt j (s.2.2 j) i (s.2.2 i)
theorem itr_pres {α : Type} {g : Nat → α → α} {P : α → Prop} : ∀ (n i : Nat) (s : α), (∀ t s, i ≤ t → t < i + n → P s → P (g t s)) → P s → P (itr g i n s) := by
  intro n
  induction n with
  | zero => intro i s _ h; exact h
  | succ n ih =>
    intro i s h hs
    exact ih (i + 1) _ (fun t s h1 h2 => h t s (by omega) (by omega)) (h i s (Nat.le_refl _) (by omega) hs)
theorem exs_ok {W : Nat} : ∀ (r i : Nat) (f : Nat → Nat) (c : Nat) (s : Sr), i + r = W → (∀ k, k < i → f k < T ∧ cd k (f k) ∧ ∀ j, j < k → gt j (f j) k (f k)) → okS cd gt T W s → okS cd gt T W (exs T cd co gt r i f c s) := by
  intro r
  induction r with
  | zero =>
    intro i f c s hi hf hs
    unfold exs
    by_cases g : s.1 = true ∧ s.2.1 ≤ c
    · rw [if_pos g]; exact hs
    · rw [if_neg g]; exact fun _ k hk => hf k (by omega)
  | succ r ih =>
    intro i f c s hi hf hs
    refine itr_pres T 0 s (fun t s _ ht hs => ?_) hs
    by_cases g : vd cd gt i f t
    · rw [ck_t g]
      refine ih (i + 1) (sup f i t) _ s (by omega) (fun k hk => ?_) hs
      by_cases e : k = i
      · subst e
        rw [sup_s]
        exact ⟨by omega, g.1, fun j hj => by rw [sup_o (by omega)]; exact g.2 j hj⟩
      · rw [sup_o e]
        obtain ⟨x1, x2, x3⟩ := hf k (by omega)
        exact ⟨x1, x2, fun j hj => by rw [sup_o (by omega)]; exact x3 j hj⟩
    · rw [ck_f g]; exact hs
/-- what it costs -/
def csS (co : Nat → Nat → Nat) (W : Nat) (s : Sr) : Prop := s.1 = true → s.2.1 = sm (fun i => co i (s.2.2 i)) 0 W
theorem sm_cg {f g : Nat → Nat} : ∀ (r i : Nat), (∀ j, i ≤ j → j < i + r → f j = g j) → sm f i r = sm g i r := by
  intro r
  induction r with
  | zero => intro i _; rfl
  | succ r ih =>
    intro i h
    show f i + sm f (i + 1) r = g i + sm g (i + 1) r
    rw [h i (Nat.le_refl _) (by omega), ih (i + 1) (fun j a b => h j (by omega) (by omega))]
theorem sm_app {f : Nat → Nat} : ∀ (r i q : Nat), sm f i (r + q) = sm f i r + sm f (i + r) q := by
  intro r
  induction r with
  | zero => intro i q; rw [Nat.zero_add, Nat.add_zero]; show sm f i q = 0 + sm f i q; omega
  | succ r ih =>
    intro i q
    rw [show r + 1 + q = (r + q) + 1 by omega]
    show f i + sm f (i + 1) (r + q) = f i + sm f (i + 1) r + sm f (i + (r + 1)) q
    rw [ih, show i + 1 + r = i + (r + 1) by omega]
    omega
theorem exs_cp {W : Nat} : ∀ (r i : Nat) (f : Nat → Nat) (c : Nat) (s : Sr), i + r = W → c = sm (fun k => co k (f k)) 0 i → csS co W s → csS co W (exs T cd co gt r i f c s) := by
  intro r
  induction r with
  | zero =>
    intro i f c s hi hc hs
    unfold exs
    by_cases g : s.1 = true ∧ s.2.1 ≤ c
    · rw [if_pos g]; exact hs
    · rw [if_neg g]
      intro _
      show c = sm (fun i => co i (f i)) 0 W
      rw [hc, show W = i by omega]
  | succ r ih =>
    intro i f c s hi hc hs
    refine itr_pres T 0 s (fun t s _ ht hs => ?_) hs
    by_cases g : vd cd gt i f t
    · rw [ck_t g]
      refine ih (i + 1) (sup f i t) _ s (by omega) ?_ hs
      rw [sm_app i 0 1, hc]
      congr 1
      · exact sm_cg i 0 (fun j a b => by show co j (f j) = co j (sup f i t j); rw [sup_o (by omega)])
      · show co i t = co (0 + i) (sup f i t (0 + i)) + 0
        rw [Nat.zero_add, sup_s, Nat.add_zero]
    · rw [ck_f g]; exact hs
end
