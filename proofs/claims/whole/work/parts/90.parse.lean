/-! READING, as numbers: c the tokens, v their numbers; a fault and its token, or the ops and the token behind -/
abbrev Rz : Type := (Nat × Nat) ⊕ (List Op × Nat)
def rb (x : Rz) (f : List Op → Nat → Rz) : Rz := match x with
  | .inl e => .inl e
  | .inr q => f q.1 q.2
def ap (l : List Op) (x : Rz) : Rz := rb x (fun r k => .inr (l ++ r, k))
theorem rb_l {e : Nat × Nat} {f : List Op → Nat → Rz} : rb (.inl e) f = .inl e := rfl
theorem rb_r {l : List Op} {k : Nat} {f : List Op → Nat → Rz} : rb (.inr (l, k)) f = f l k := rfl
/-- not out of fuel -/
def nof (x : Rz) : Prop := match x with
  | .inl e => e.1 ≠ 9
  | .inr _ => True
def ext (x y : Rz) : Prop := nof x → y = x
theorem ext.rf {x : Rz} : ext x x := fun _ => rfl
theorem ext.rb {x y : Rz} {f g : List Op → Nat → Rz} (a : ext x y) (b : ∀ l k, ext (f l k) (g l k)) : ext (rb x f) (rb y g) := by
  intro h
  cases x with
  | inl e => rw [a h]; rfl
  | inr q => rw [a trivial]; exact b q.1 q.2 h
theorem ext.ap {x y : Rz} {l : List Op} (a : ext x y) : ext (ap l x) (ap l y) := ext.rb a (fun _ _ => ext.rf)
theorem ext.if_ {p : Prop} [Decidable p] {x y x' y' : Rz} (a : ext x x') (b : ext y y') : ext (if p then x else y) (if p then x' else y') := by
  by_cases h : p
  · rw [if_pos h, if_pos h]; exact a
  · rw [if_neg h, if_neg h]; exact b
section
variable (c v : Nat → Nat)
def fcd (t : Nat) : Nat := if t = 216 then 9 else t - 208
def pU (k : Nat) : Rz := if c k = 2 then .inr ([(0, nI (v k))], k + 1) else if 209 ≤ c k ∧ c k ≤ 216 then .inr ([(fcd (c k), 0)], k + 1) else if c k = 203 then .inr ([(8, 0)], k + 1) else .inl (1, k)
/-- modes: 0 condition, 1 and-loop, 2 or-loop, 3 either, 4 product-loop, 5 product, 6 sum-loop, 7 sum -/
def pX : Nat → Nat → Nat → Nat → Rz
  | 0, _, _, k => .inl (9, k)
  | f + 1, 0, o, k => if c k = 208 then (if 8 ≤ o then .inl (3, k) else rb (pX f 0 (o + 1) (k + 1)) (fun l k1 => .inr (l ++ [(30, 0)], k1))) else if c k = 40 then (if 8 ≤ o then .inl (3, k) else rb (pX f 3 (o + 1) (k + 1)) (fun l k1 => if c k1 = 41 then .inr (l, k1 + 1) else .inl (1, k1))) else rb (pX f 7 o k) (fun l k1 => if c k1 = 60 ∨ c k1 = 61 ∨ c k1 = 62 then rb (pX f 7 o (k1 + 1)) (fun r k2 => .inr (l ++ (r ++ [(c k1 - 33, 0)]), k2)) else .inl (1, k1))
  | f + 1, 1, o, k => if c k = 207 then rb (pX f 0 o (k + 1)) (fun l k1 => ap (l ++ [(31, 0)]) (pX f 1 o k1)) else .inr ([], k)
  | f + 1, 2, o, k => if c k = 206 then rb (pX f 0 o (k + 1)) (fun l k1 => rb (pX f 1 o k1) (fun l2 k2 => ap (l ++ (l2 ++ [(32, 0)])) (pX f 2 o k2))) else .inr ([], k)
  | f + 1, 3, o, k => rb (pX f 0 o k) (fun l k1 => rb (pX f 1 o k1) (fun l2 k2 => ap (l ++ l2) (pX f 2 o k2)))
  | f + 1, 4, o, k => if c k = 42 then rb (pU c v (k + 1)) (fun u k1 => ap (u ++ [(25, 0)]) (pX f 4 o k1)) else if c k = 47 then (if c (k + 1) = 2 then (if v (k + 1) = 0 then .inl (2, k + 1) else ap [(26, nI (v (k + 1)))] (pX f 4 o (k + 2))) else .inl (1, k + 1)) else .inr ([], k)
  | f + 1, 5, o, k => rb (pU c v k) (fun u k1 => ap u (pX f 4 o k1))
  | f + 1, 6, o, k => if c k = 43 ∨ c k = 45 then rb (pX f 5 o (k + 1)) (fun p k1 => ap (p ++ [(if c k = 43 then 23 else 24, 0)]) (pX f 6 o k1)) else .inr ([], k)
  | f + 1, _ + 7, o, k => rb (pX f 5 o k) (fun p k1 => ap p (pX f 6 o k1))
theorem pX_mono : ∀ (f m o k : Nat), ext (pX c v f m o k) (pX c v (f + 1) m o k) := by
  intro f
  induction f with
  | zero => intro m o k h; exact absurd rfl h
  | succ f ih =>
    intro m o k
    match m with
    | 0 => exact ext.if_ (ext.if_ ext.rf (ext.rb (ih _ _ _) (fun _ _ => ext.rf))) (ext.if_ (ext.if_ ext.rf (ext.rb (ih _ _ _) (fun _ _ => ext.rf))) (ext.rb (ih _ _ _) (fun _ _ => ext.if_ (ext.rb (ih _ _ _) (fun _ _ => ext.rf)) ext.rf)))
    | 1 => exact ext.if_ (ext.rb (ih _ _ _) (fun _ _ => (ih _ _ _).ap)) ext.rf
    | 2 => exact ext.if_ (ext.rb (ih _ _ _) (fun _ _ => ext.rb (ih _ _ _) (fun _ _ => (ih _ _ _).ap))) ext.rf
    | 3 => exact ext.rb (ih _ _ _) (fun _ _ => ext.rb (ih _ _ _) (fun _ _ => (ih _ _ _).ap))
    | 4 => exact ext.if_ (ext.rb ext.rf (fun _ _ => (ih _ _ _).ap)) (ext.if_ (ext.if_ (ext.if_ ext.rf (ih _ _ _).ap) ext.rf) ext.rf)
    | 5 => exact ext.rb ext.rf (fun _ _ => (ih _ _ _).ap)
    | 6 => exact ext.if_ (ext.rb (ih _ _ _) (fun _ _ => (ih _ _ _).ap)) ext.rf
    | m + 7 => exact ext.rb (ih _ _ _) (fun _ _ => (ih _ _ _).ap)
theorem pX_le {f g m o k : Nat} (h : f ≤ g) : ext (pX c v f m o k) (pX c v g m o k) := by
  obtain ⟨d, rfl⟩ := Nat.exists_eq_add_of_le h
  clear h
  induction d with
  | zero => exact ext.rf
  | succ d ih =>
    intro hn
    have a := ih hn
    rw [show f + (d + 1) = f + d + 1 by omega, pX_mono c v (f + d) m o k (by rw [a]; exact hn), a]
/-- what is read -/
def PX (m o k : Nat) (R : Rz) : Prop := ∃ f, pX c v f m o k = R ∧ nof R
end
section
variable {c v : Nat → Nat}
theorem PX.det {m o k : Nat} {R S : Rz} (a : PX c v m o k R) (b : PX c v m o k S) : R = S := by
  obtain ⟨f, a1, a2⟩ := a
  obtain ⟨g, b1, b2⟩ := b
  rcases Nat.le_total f g with h | h
  · have := pX_le c v (m := m) (o := o) (k := k) h (by rw [a1]; exact a2)
    rw [a1, b1] at this
    exact this.symm
  · have := pX_le c v (m := m) (o := o) (k := k) h (by rw [b1]; exact b2)
    rw [a1, b1] at this
    exact this
theorem PX.up {m o k f : Nat} {R : Rz} (a : PX c v m o k R) : ∃ g, f ≤ g ∧ ∀ g', g ≤ g' → pX c v g' m o k = R := by
  obtain ⟨g, a1, a2⟩ := a
  refine ⟨max f g, by omega, fun g' hg => ?_⟩
  have := pX_le c v (m := m) (o := o) (k := k) (show g ≤ g' by omega) (by rw [a1]; exact a2)
  rw [this, a1]
theorem nof_r {q : List Op × Nat} : nof (.inr q) := trivial
theorem nof_ap {l : List Op} {R : Rz} (h : nof R) : nof (ap l R) := by
  cases R with
  | inl e => exact h
  | inr q => exact trivial
/-- a product-loop's end -/
theorem PX.p4e {o k : Nat} (h1 : c k ≠ 42) (h2 : c k ≠ 47) : PX c v 4 o k (.inr ([], k)) := ⟨1, by rw [pX, if_neg h1, if_neg h2], nof_r⟩
theorem PX.p4f {o k e j : Nat} (h1 : c k = 42) (u : pU c v (k + 1) = .inl (e, j)) (he : e ≠ 9) : PX c v 4 o k (.inl (e, j)) := ⟨1, by rw [pX, if_pos h1, u]; rfl, he⟩
theorem PX.p4s {o k k1 : Nat} {l : List Op} {R : Rz} (h1 : c k = 42) (u : pU c v (k + 1) = .inr (l, k1)) (a : PX c v 4 o k1 R) : PX c v 4 o k (ap (l ++ [(25, 0)]) R) := by
  obtain ⟨f, a1, a2⟩ := a
  exact ⟨f + 1, by rw [pX, if_pos h1, u, rb_r, a1], nof_ap a2⟩
theorem PX.p4d1 {o k : Nat} (h1 : c k = 47) (h2 : c (k + 1) ≠ 2) : PX c v 4 o k (.inl (1, k + 1)) := ⟨1, by rw [pX, if_neg (by omega), if_pos h1, if_neg h2], by show 1 ≠ 9; omega⟩
theorem PX.p4d2 {o k : Nat} (h1 : c k = 47) (h2 : c (k + 1) = 2) (h3 : v (k + 1) = 0) : PX c v 4 o k (.inl (2, k + 1)) := ⟨1, by rw [pX, if_neg (by omega), if_pos h1, if_pos h2, if_pos h3], by show 2 ≠ 9; omega⟩
theorem PX.p4d {o k : Nat} {R : Rz} (h1 : c k = 47) (h2 : c (k + 1) = 2) (h3 : v (k + 1) ≠ 0) (a : PX c v 4 o (k + 2) R) : PX c v 4 o k (ap [(26, nI (v (k + 1)))] R) := by
  obtain ⟨f, a1, a2⟩ := a
  exact ⟨f + 1, by rw [pX, if_neg (by omega), if_pos h1, if_pos h2, if_neg h3, a1], nof_ap a2⟩
theorem PX.p5f {o k e j : Nat} (u : pU c v k = .inl (e, j)) (he : e ≠ 9) : PX c v 5 o k (.inl (e, j)) := ⟨1, by rw [pX, u]; rfl, he⟩
theorem PX.p5 {o k k1 : Nat} {l : List Op} {R : Rz} (u : pU c v k = .inr (l, k1)) (a : PX c v 4 o k1 R) : PX c v 5 o k (ap l R) := by
  obtain ⟨f, a1, a2⟩ := a
  exact ⟨f + 1, by rw [pX, u, rb_r, a1], nof_ap a2⟩
theorem PX.p6e {o k : Nat} (h1 : c k ≠ 43) (h2 : c k ≠ 45) : PX c v 6 o k (.inr ([], k)) := ⟨1, by rw [pX, if_neg (by omega)], nof_r⟩
theorem PX.p6f {o k : Nat} {e : Nat × Nat} (h1 : c k = 43 ∨ c k = 45) (a : PX c v 5 o (k + 1) (.inl e)) : PX c v 6 o k (.inl e) := by
  obtain ⟨f, a1, a2⟩ := a
  exact ⟨f + 1, by rw [pX, if_pos h1, a1]; rfl, a2⟩
theorem PX.p6s {o k k1 : Nat} {l : List Op} {R : Rz} (h1 : c k = 43 ∨ c k = 45) (a : PX c v 5 o (k + 1) (.inr (l, k1))) (b : PX c v 6 o k1 R) : PX c v 6 o k (ap (l ++ [(if c k = 43 then 23 else 24, 0)]) R) := by
  obtain ⟨f, -, a2⟩ := a.up (f := 0)
  obtain ⟨g, b1, b2⟩ := b.up (f := f)
  have nR : nof R := b.choose_spec.2
  exact ⟨g + 1, by rw [pX, if_pos h1, a2 g b1, rb_r, b2 g (Nat.le_refl _)], nof_ap nR⟩
theorem PX.p7f {o k : Nat} {e : Nat × Nat} (a : PX c v 5 o k (.inl e)) : PX c v 7 o k (.inl e) := by
  obtain ⟨f, a1, a2⟩ := a
  exact ⟨f + 1, by rw [pX, a1]; rfl, a2⟩
theorem PX.p7 {o k k1 : Nat} {l : List Op} {R : Rz} (a : PX c v 5 o k (.inr (l, k1))) (b : PX c v 6 o k1 R) : PX c v 7 o k (ap l R) := by
  obtain ⟨f, -, a2⟩ := a.up (f := 0)
  obtain ⟨g, b1, b2⟩ := b.up (f := f)
  have nR : nof R := b.choose_spec.2
  exact ⟨g + 1, by rw [pX, a2 g b1, rb_r, b2 g (Nat.le_refl _)], nof_ap nR⟩
theorem PX.p1e {o k : Nat} (h1 : c k ≠ 207) : PX c v 1 o k (.inr ([], k)) := ⟨1, by rw [pX, if_neg h1], nof_r⟩
theorem PX.p1f {o k : Nat} {e : Nat × Nat} (h1 : c k = 207) (a : PX c v 0 o (k + 1) (.inl e)) : PX c v 1 o k (.inl e) := by
  obtain ⟨f, a1, a2⟩ := a
  exact ⟨f + 1, by rw [pX, if_pos h1, a1]; rfl, a2⟩
theorem PX.p1s {o k k1 : Nat} {l : List Op} {R : Rz} (h1 : c k = 207) (a : PX c v 0 o (k + 1) (.inr (l, k1))) (b : PX c v 1 o k1 R) : PX c v 1 o k (ap (l ++ [(31, 0)]) R) := by
  obtain ⟨f, -, a2⟩ := a.up (f := 0)
  obtain ⟨g, b1, b2⟩ := b.up (f := f)
  have nR : nof R := b.choose_spec.2
  exact ⟨g + 1, by rw [pX, if_pos h1, a2 g b1, rb_r, b2 g (Nat.le_refl _)], nof_ap nR⟩
theorem PX.p2e {o k : Nat} (h1 : c k ≠ 206) : PX c v 2 o k (.inr ([], k)) := ⟨1, by rw [pX, if_neg h1], nof_r⟩
theorem PX.p2f {o k : Nat} {e : Nat × Nat} (h1 : c k = 206) (a : PX c v 0 o (k + 1) (.inl e)) : PX c v 2 o k (.inl e) := by
  obtain ⟨f, a1, a2⟩ := a
  exact ⟨f + 1, by rw [pX, if_pos h1, a1]; rfl, a2⟩
theorem PX.p2g {o k k1 : Nat} {l : List Op} {e : Nat × Nat} (h1 : c k = 206) (a : PX c v 0 o (k + 1) (.inr (l, k1))) (b : PX c v 1 o k1 (.inl e)) : PX c v 2 o k (.inl e) := by
  obtain ⟨f, -, a2⟩ := a.up (f := 0)
  obtain ⟨g, b1, b2⟩ := b.up (f := f)
  have nR := b.choose_spec.2
  exact ⟨g + 1, by rw [pX, if_pos h1, a2 g b1, rb_r, b2 g (Nat.le_refl _)]; rfl, nR⟩
theorem PX.p2s {o k k1 k2 : Nat} {l l2 : List Op} {R : Rz} (h1 : c k = 206) (a : PX c v 0 o (k + 1) (.inr (l, k1))) (b : PX c v 1 o k1 (.inr (l2, k2))) (d : PX c v 2 o k2 R) : PX c v 2 o k (ap (l ++ (l2 ++ [(32, 0)])) R) := by
  obtain ⟨f, -, a2⟩ := a.up (f := 0)
  obtain ⟨g, b1, b2⟩ := b.up (f := f)
  obtain ⟨q, d1, d2⟩ := d.up (f := g)
  have nR : nof R := d.choose_spec.2
  exact ⟨q + 1, by rw [pX, if_pos h1, a2 q (by omega), rb_r, b2 q d1, rb_r, d2 q (Nat.le_refl _)], nof_ap nR⟩
theorem PX.p3f {o k : Nat} {e : Nat × Nat} (a : PX c v 0 o k (.inl e)) : PX c v 3 o k (.inl e) := by
  obtain ⟨f, a1, a2⟩ := a
  exact ⟨f + 1, by rw [pX, a1]; rfl, a2⟩
theorem PX.p3g {o k k1 : Nat} {l : List Op} {e : Nat × Nat} (a : PX c v 0 o k (.inr (l, k1))) (b : PX c v 1 o k1 (.inl e)) : PX c v 3 o k (.inl e) := by
  obtain ⟨f, -, a2⟩ := a.up (f := 0)
  obtain ⟨g, b1, b2⟩ := b.up (f := f)
  have nR := b.choose_spec.2
  exact ⟨g + 1, by rw [pX, a2 g b1, rb_r, b2 g (Nat.le_refl _)]; rfl, nR⟩
theorem PX.p3 {o k k1 k2 : Nat} {l l2 : List Op} {R : Rz} (a : PX c v 0 o k (.inr (l, k1))) (b : PX c v 1 o k1 (.inr (l2, k2))) (d : PX c v 2 o k2 R) : PX c v 3 o k (ap (l ++ l2) R) := by
  obtain ⟨f, -, a2⟩ := a.up (f := 0)
  obtain ⟨g, b1, b2⟩ := b.up (f := f)
  obtain ⟨q, d1, d2⟩ := d.up (f := g)
  have nR : nof R := d.choose_spec.2
  exact ⟨q + 1, by rw [pX, a2 q (by omega), rb_r, b2 q d1, rb_r, d2 q (Nat.le_refl _)], nof_ap nR⟩
theorem PX.p0m {o k : Nat} (h1 : c k = 208 ∨ c k = 40) (h2 : 8 ≤ o) : PX c v 0 o k (.inl (3, k)) := by
  refine ⟨1, ?_, by show 3 ≠ 9; omega⟩
  rcases h1 with h1 | h1
  · rw [pX, if_pos h1, if_pos h2]
  · rw [pX, if_neg (by omega), if_pos h1, if_pos h2]
theorem PX.p0n {o k : Nat} {R : Rz} (h1 : c k = 208) (h2 : ¬ 8 ≤ o) (a : PX c v 0 (o + 1) (k + 1) R) : PX c v 0 o k (rb R (fun l k1 => .inr (l ++ [(30, 0)], k1))) := by
  obtain ⟨f, a1, a2⟩ := a
  refine ⟨f + 1, by rw [pX, if_pos h1, if_neg h2, a1], ?_⟩
  cases R with
  | inl e => exact a2
  | inr q => exact trivial
theorem PX.p0b {o k : Nat} {R : Rz} (h1 : c k = 40) (h2 : ¬ 8 ≤ o) (a : PX c v 3 (o + 1) (k + 1) R) : PX c v 0 o k (rb R (fun l k1 => if c k1 = 41 then .inr (l, k1 + 1) else .inl (1, k1))) := by
  obtain ⟨f, a1, a2⟩ := a
  refine ⟨f + 1, by rw [pX, if_neg (by omega), if_pos h1, if_neg h2, a1], ?_⟩
  cases R with
  | inl e => exact a2
  | inr q =>
    show nof (if c q.2 = 41 then .inr (q.1, q.2 + 1) else .inl (1, q.2))
    by_cases g : c q.2 = 41
    · rw [if_pos g]; exact trivial
    · rw [if_neg g]; show 1 ≠ 9; omega
theorem PX.p0f {o k : Nat} {e : Nat × Nat} (h1 : c k ≠ 208) (h2 : c k ≠ 40) (a : PX c v 7 o k (.inl e)) : PX c v 0 o k (.inl e) := by
  obtain ⟨f, a1, a2⟩ := a
  exact ⟨f + 1, by rw [pX, if_neg h1, if_neg h2, a1]; rfl, a2⟩
theorem PX.p0g {o k k1 : Nat} {l : List Op} (h1 : c k ≠ 208) (h2 : c k ≠ 40) (a : PX c v 7 o k (.inr (l, k1))) (h3 : ¬ (c k1 = 60 ∨ c k1 = 61 ∨ c k1 = 62)) : PX c v 0 o k (.inl (1, k1)) := by
  obtain ⟨f, a1, a2⟩ := a
  exact ⟨f + 1, by rw [pX, if_neg h1, if_neg h2, a1, rb_r, if_neg h3], by show 1 ≠ 9; omega⟩
theorem PX.p0s {o k k1 : Nat} {l : List Op} {R : Rz} (h1 : c k ≠ 208) (h2 : c k ≠ 40) (a : PX c v 7 o k (.inr (l, k1))) (h3 : c k1 = 60 ∨ c k1 = 61 ∨ c k1 = 62) (b : PX c v 7 o (k1 + 1) R) : PX c v 0 o k (rb R (fun r k2 => .inr (l ++ (r ++ [(c k1 - 33, 0)]), k2))) := by
  obtain ⟨f, -, a2⟩ := a.up (f := 0)
  obtain ⟨g, b1, b2⟩ := b.up (f := f)
  have nR : nof R := b.choose_spec.2
  refine ⟨g + 1, by rw [pX, if_neg h1, if_neg h2, a2 g b1, rb_r, if_pos h3, b2 g (Nat.le_refl _)], ?_⟩
  cases R with
  | inl e => exact nR
  | inr q => exact trivial
end
