/-! what is read runs: heights and truths of the stack -/
theorem okL_app : ∀ (l r : List Op) (s : (Nat → Bool) × Nat), okL l s → okL r (tyL l s) → okL (l ++ r) s := by
  intro l
  induction l with
  | nil => intro r s _ h; exact h
  | cons o l ih => intro r s h1 h2; exact ⟨h1.1, ih r _ h1.2 h2⟩
theorem tyL_app : ∀ (l r : List Op) (s : (Nat → Bool) × Nat), tyL (l ++ r) s = tyL r (tyL l s) := by
  intro l
  induction l with
  | nil => intro r s; rfl
  | cons o l ih => intro r s; exact ih r _
theorem cln_app : ∀ (l r : List Op), cln (l ++ r) = cln l + cln r := by
  intro l
  induction l with
  | nil => intro r; show cln r = 0 + cln r; omega
  | cons o l ih => intro r; show eln o + cln (l ++ r) = eln o + cln l + cln r; rw [ih]; omega
theorem eln_ge (o : Op) : 1 ≤ eln o ∧ eln o ≤ 2 := by
  unfold eln
  by_cases h : o.1 = 26
  · rw [if_pos h]; omega
  · rw [if_neg h]; omega
theorem cln_ge : ∀ (l : List Op), l.length ≤ cln l := by
  intro l
  induction l with
  | nil => exact Nat.le_refl _
  | cons o l ih => have := (eln_ge o).1; show l.length + 1 ≤ eln o + cln l; omega
def GV (B : Nat) (l : List Op) : Prop := ∀ (ty : Nat → Bool) (n : Nat), n ≤ B → okL l (ty, n) ∧ (tyL l (ty, n)).2 = n + 1 ∧ ∀ i, i < n → (tyL l (ty, n)).1 i = ty i
def GL (B : Nat) (l : List Op) : Prop := ∀ (ty : Nat → Bool) (n : Nat), n ≤ B → okL l (ty, n + 1) ∧ (tyL l (ty, n + 1)).2 = n + 1 ∧ ∀ i, i < n → (tyL l (ty, n + 1)).1 i = ty i
def TV (B : Nat) (l : List Op) : Prop := ∀ (ty : Nat → Bool) (n : Nat), n ≤ B → okL l (ty, n) ∧ (tyL l (ty, n)).2 = n + 1 ∧ (∀ i, i < n → (tyL l (ty, n)).1 i = ty i) ∧ (tyL l (ty, n)).1 n = true
def TL (B : Nat) (l : List Op) : Prop := ∀ (ty : Nat → Bool) (n : Nat), n ≤ B → ty n = true → okL l (ty, n + 1) ∧ (tyL l (ty, n + 1)).2 = n + 1 ∧ (∀ i, i < n → (tyL l (ty, n + 1)).1 i = ty i) ∧ (tyL l (ty, n + 1)).1 n = true
theorem pr_eta {s : (Nat → Bool) × Nat} {n : Nat} (h : s.2 = n) : s = (s.1, n) := by rw [← h]
theorem GV.le {A B : Nat} {l : List Op} (h : A ≤ B) (a : GV B l) : GV A l := fun ty n hn => a ty n (by omega)
theorem GL.le {A B : Nat} {l : List Op} (h : A ≤ B) (a : GL B l) : GL A l := fun ty n hn => a ty n (by omega)
theorem TV.le {A B : Nat} {l : List Op} (h : A ≤ B) (a : TV B l) : TV A l := fun ty n hn => a ty n (by omega)
theorem TL.le {A B : Nat} {l : List Op} (h : A ≤ B) (a : TL B l) : TL A l := fun ty n hn => a ty n (by omega)
theorem GL.nil {B : Nat} : GL B [] := fun _ _ _ => ⟨trivial, rfl, fun _ _ => rfl⟩
theorem TL.nil {B : Nat} : TL B [] := fun _ _ _ h => ⟨trivial, rfl, fun _ _ => rfl, h⟩
theorem GV.app {B : Nat} {l r : List Op} (a : GV B l) (b : GL B r) : GV B (l ++ r) := fun ty n hn => by
  obtain ⟨a1, a2, a3⟩ := a ty n hn
  have e := pr_eta a2
  obtain ⟨b1, b2, b3⟩ := b (tyL l (ty, n)).1 n hn
  rw [← e] at b1 b2 b3
  rw [tyL_app]
  exact ⟨okL_app l r _ a1 b1, b2, fun i hi => (b3 i hi).trans (a3 i hi)⟩
theorem GL.app {B : Nat} {l r : List Op} (a : GL B l) (b : GL B r) : GL B (l ++ r) := fun ty n hn => by
  obtain ⟨a1, a2, a3⟩ := a ty n hn
  have e := pr_eta a2
  obtain ⟨b1, b2, b3⟩ := b (tyL l (ty, n + 1)).1 n hn
  rw [← e] at b1 b2 b3
  rw [tyL_app]
  exact ⟨okL_app l r _ a1 b1, b2, fun i hi => (b3 i hi).trans (a3 i hi)⟩
theorem TV.app {B : Nat} {l r : List Op} (a : TV B l) (b : TL B r) : TV B (l ++ r) := fun ty n hn => by
  obtain ⟨a1, a2, a3, a4⟩ := a ty n hn
  have e := pr_eta a2
  obtain ⟨b1, b2, b3, b4⟩ := b (tyL l (ty, n)).1 n hn a4
  rw [← e] at b1 b2 b3 b4
  rw [tyL_app]
  exact ⟨okL_app l r _ a1 b1, b2, fun i hi => (b3 i hi).trans (a3 i hi), b4⟩
theorem TL.app {B : Nat} {l r : List Op} (a : TL B l) (b : TL B r) : TL B (l ++ r) := fun ty n hn ht => by
  obtain ⟨a1, a2, a3, a4⟩ := a ty n hn ht
  have e := pr_eta a2
  obtain ⟨b1, b2, b3, b4⟩ := b (tyL l (ty, n + 1)).1 n hn a4
  rw [← e] at b1 b2 b3 b4
  rw [tyL_app]
  exact ⟨okL_app l r _ a1 b1, b2, fun i hi => (b3 i hi).trans (a3 i hi), b4⟩
/-- a number or fact -/
theorem GV.unit {o : Op} (h : (o.1 = 0 ∧ ∃ k, k ≤ 9999 ∧ o.2 = nI k) ∨ (1 ≤ o.1 ∧ o.1 ≤ 9)) : GV 21 [o] := fun ty n hn => by
  have le : o.1 ≤ 9 := by omega
  have e : tyL [o] (ty, n) = (fun i => if i = n then false else ty i, n + 1) := by
    show tyO o (ty, n) = _
    unfold tyO
    rw [if_pos le]
  rw [e]
  refine ⟨⟨?_, trivial⟩, rfl, fun i hi => if_neg (by omega)⟩
  rcases h with ⟨h1, h2⟩ | h
  · exact Or.inl ⟨h1, h2, by show n < 22; omega⟩
  · exact Or.inr (Or.inl ⟨h.1, h.2, by show n < 22; omega⟩)
/-- a second one, and what joins them -/
theorem GL.bin {B q : Nat} {l : List Op} (hB : B ≤ 19) (hq : 23 ≤ q ∧ q ≤ 25) (a : GV (B + 1) l) : GL B (l ++ [(q, 0)]) := fun ty n hn => by
  obtain ⟨a1, a2, a3⟩ := a ty (n + 1) (by omega)
  have e := pr_eta a2
  have e2 : tyL [((q, 0) : Op)] (tyL l (ty, n + 1)) = (fun i => if i = n then false else (tyL l (ty, n + 1)).1 i, n + 1) := by
    rw [e]
    show tyO (q, 0) (_, n + 1 + 1) = _
    unfold tyO
    rw [if_neg (by show ¬ q ≤ 9; omega), if_neg (by show ¬ q = 26; omega), if_neg (by show ¬ q = 30; omega), if_pos (by show q ≤ 25; omega)]
    rfl
  rw [tyL_app, e2]
  refine ⟨okL_app l _ _ a1 ⟨?_, trivial⟩, rfl, fun i hi => ?_⟩
  · rw [a2]
    exact Or.inr (Or.inr (Or.inr (Or.inl ⟨hq.1, hq.2, by omega, by omega⟩)))
  · show (if i = n then false else _) = _
    rw [if_neg (by omega)]; exact a3 i (by omega)
theorem GL.bin20 {l : List Op} {q : Nat} (hq : 23 ≤ q ∧ q ≤ 25) (a : GV 21 l) : GL 20 (l ++ [(q, 0)]) := fun ty n hn => by
  obtain ⟨a1, a2, a3⟩ := a ty (n + 1) (by omega)
  have e := pr_eta a2
  have e2 : tyL [((q, 0) : Op)] (tyL l (ty, n + 1)) = (fun i => if i = n then false else (tyL l (ty, n + 1)).1 i, n + 1) := by
    rw [e]
    show tyO (q, 0) (_, n + 1 + 1) = _
    unfold tyO
    rw [if_neg (by show ¬ q ≤ 9; omega), if_neg (by show ¬ q = 26; omega), if_neg (by show ¬ q = 30; omega), if_pos (by show q ≤ 25; omega)]
    rfl
  rw [tyL_app, e2]
  refine ⟨okL_app l _ _ a1 ⟨?_, trivial⟩, rfl, fun i hi => ?_⟩
  · rw [a2]
    exact Or.inr (Or.inr (Or.inr (Or.inl ⟨hq.1, hq.2, by omega, by omega⟩)))
  · show (if i = n then false else _) = _
    rw [if_neg (by omega)]; exact a3 i (by omega)
theorem GL.part {x : Nat} (h1 : 1 ≤ x) (h2 : x ≤ 9999) : GL 20 [(26, nI x)] := fun ty n hn => by
  have e : tyL [((26, nI x) : Op)] (ty, n + 1) = (fun i => if i = n then false else ty i, n + 1) := rfl
  rw [e]
  exact ⟨⟨Or.inr (Or.inr (Or.inl ⟨rfl, ⟨x, h1, h2, rfl⟩, by show 1 ≤ n + 1; omega, by show n + 1 < 23; omega⟩)), trivial⟩, rfl, fun i hi => if_neg (by omega)⟩
theorem TV.cmp {l r : List Op} {q : Nat} (hq : 27 ≤ q ∧ q ≤ 29) (a : GV 19 l) (b : GV 19 r) : TV 18 (l ++ (r ++ [(q, 0)])) := fun ty n hn => by
  obtain ⟨a1, a2, a3⟩ := a ty n (by omega)
  have e := pr_eta a2
  obtain ⟨b1, b2, b3⟩ := b (tyL l (ty, n)).1 (n + 1) (by omega)
  rw [← e] at b1 b2 b3
  have f := pr_eta b2
  have e2 : tyL [((q, 0) : Op)] (tyL r (tyL l (ty, n))) = (fun i => if i = n then true else (tyL r (tyL l (ty, n))).1 i, n + 1) := by
    rw [f]
    show tyO (q, 0) (_, n + 1 + 1) = _
    unfold tyO
    rw [if_neg (by show ¬ q ≤ 9; omega), if_neg (by show ¬ q = 26; omega), if_neg (by show ¬ q = 30; omega), if_neg (by show ¬ q ≤ 25; omega)]
    rfl
  rw [tyL_app, tyL_app, e2]
  refine ⟨okL_app l _ _ a1 (okL_app r _ _ b1 ⟨?_, trivial⟩), rfl, fun i hi => ?_, ?_⟩
  · rw [b2]
    exact Or.inr (Or.inr (Or.inr (Or.inr (Or.inl ⟨hq.1, hq.2, by omega, by omega⟩))))
  · show (if i = n then true else _) = _
    rw [if_neg (by omega), b3 i (by omega)]; exact a3 i hi
  · show (if n = n then true else _) = _
    rw [if_pos rfl]
theorem TV.not {B : Nat} {l : List Op} (hB : B ≤ 18) (a : TV B l) : TV B (l ++ [(30, 0)]) := fun ty n hn => by
  obtain ⟨a1, a2, a3, a4⟩ := a ty n hn
  have e2 : tyL [((30, 0) : Op)] (tyL l (ty, n)) = tyL l (ty, n) := rfl
  rw [tyL_app, e2]
  refine ⟨okL_app l _ _ a1 ⟨?_, trivial⟩, a2, a3, a4⟩
  rw [a2]
  exact Or.inr (Or.inr (Or.inr (Or.inr (Or.inr (Or.inl ⟨rfl, by omega, by omega, a4⟩)))))
theorem TL.bin {B q : Nat} {l : List Op} (hB : B ≤ 18) (hq : 31 ≤ q ∧ q ≤ 32) (a : TV (B + 1) l) : TL B (l ++ [(q, 0)]) := fun ty n hn ht => by
  obtain ⟨a1, a2, a3, a4⟩ := a ty (n + 1) (by omega)
  have e := pr_eta a2
  have e2 : tyL [((q, 0) : Op)] (tyL l (ty, n + 1)) = (fun i => if i = n then true else (tyL l (ty, n + 1)).1 i, n + 1) := by
    rw [e]
    show tyO (q, 0) (_, n + 1 + 1) = _
    unfold tyO
    rw [if_neg (by show ¬ q ≤ 9; omega), if_neg (by show ¬ q = 26; omega), if_neg (by show ¬ q = 30; omega), if_neg (by show ¬ q ≤ 25; omega)]
    rfl
  rw [tyL_app, e2]
  refine ⟨okL_app l _ _ a1 ⟨?_, trivial⟩, rfl, fun i hi => ?_, ?_⟩
  · rw [a2]
    refine Or.inr (Or.inr (Or.inr (Or.inr (Or.inr (Or.inr ⟨hq.1, hq.2, by omega, by omega, ?_, ?_⟩)))))
    · exact a4
    · show (tyL l (ty, n + 1)).1 n = true
      rw [a3 n (by omega)]; exact ht
  · show (if i = n then true else _) = _
    rw [if_neg (by omega)]; exact a3 i (by omega)
  · show (if n = n then true else _) = _
    rw [if_pos rfl]
theorem rb_inv {x : Rz} {f : List Op → Nat → Rz} {q : List Op × Nat} (h : rb x f = .inr q) : ∃ l k, x = .inr (l, k) ∧ f l k = .inr q := by
  cases x with
  | inl e => cases h
  | inr p => exact ⟨p.1, p.2, rfl, h⟩
theorem ap_inv {l l' : List Op} {x : Rz} {k : Nat} (h : ap l x = .inr (l', k)) : ∃ r, x = .inr (r, k) ∧ l' = l ++ r := by
  obtain ⟨r, k', e1, e2⟩ := rb_inv h
  have e3 := Sum.inr.inj e2
  rw [Prod.mk.injEq] at e3
  exact ⟨r, by rw [e1, e3.2], e3.1.symm⟩
section
variable {c v : Nat → Nat}
theorem pU_inv {k k' : Nat} {l : List Op} (hv : ∀ k, c k = 2 → v k ≤ 9999) (h : pU c v k = .inr (l, k')) : k' = k + 1 ∧ c k ≠ 0 ∧ GV 21 l ∧ cln l = 1 := by
  unfold pU at h
  by_cases g1 : c k = 2
  · rw [if_pos g1] at h
    cases h
    exact ⟨rfl, by omega, GV.unit (Or.inl ⟨rfl, v k, hv k g1, rfl⟩), rfl⟩
  · rw [if_neg g1] at h
    by_cases g2 : 209 ≤ c k ∧ c k ≤ 216
    · rw [if_pos g2] at h
      cases h
      have : 1 ≤ fcd (c k) ∧ fcd (c k) ≤ 9 := by
        unfold fcd
        by_cases g : c k = 216
        · rw [if_pos g]; omega
        · rw [if_neg g]; omega
      refine ⟨rfl, by omega, GV.unit (Or.inr this), ?_⟩
      show eln (fcd (c k), 0) + 0 = 1
      unfold eln
      rw [if_neg (by show ¬ fcd (c k) = 26; omega)]
    · rw [if_neg g2] at h
      by_cases g3 : c k = 203
      · rw [if_pos g3] at h
        cases h
        exact ⟨rfl, by omega, GV.unit (Or.inr ⟨by show 1 ≤ 8; omega, by show 8 ≤ 9; omega⟩), rfl⟩
      · rw [if_neg g3] at h
        cases h
def Gq (m o : Nat) (l : List Op) : Prop := match m with
  | 0 => TV (2 + 2 * o) l
  | 1 => TL (1 + 2 * o) l
  | 2 => TL (2 * o) l
  | 3 => TV (2 * o) l
  | 4 => GL 20 l
  | 5 => GV 20 l
  | 6 => GL 19 l
  | _ => GV 19 l
theorem pX_ok {K : Nat} (hv : ∀ k, c k = 2 → v k ≤ 9999) (hK : ∀ k, c k ≠ 0 → k < K) : ∀ (f m o k k' : Nat) (l : List Op), m ≤ 7 → o ≤ 8 → pX c v f m o k = .inr (l, k') → Gq m o l ∧ k ≤ k' ∧ cln l ≤ k' - k ∧ (k ≤ K → k' ≤ K) := by
  intro f
  induction f with
  | zero => intro m o k k' l _ _ h; cases h
  | succ f ih =>
    intro m o k k' l hm ho h
    have : m = 0 ∨ m = 1 ∨ m = 2 ∨ m = 3 ∨ m = 4 ∨ m = 5 ∨ m = 6 ∨ m = 7 := by omega
    rcases this with rfl | rfl | rfl | rfl | rfl | rfl | rfl | rfl
    · rw [pX] at h
      by_cases g1 : c k = 208
      · rw [if_pos g1] at h
        have kK := hK k (by omega)
        by_cases g2 : 8 ≤ o
        · rw [if_pos g2] at h; cases h
        · rw [if_neg g2] at h
          obtain ⟨l1, k1, e1, e2⟩ := rb_inv h
          cases e2
          obtain ⟨a1, a2, a3, a4⟩ := ih 0 (o + 1) (k + 1) k' l1 (by omega) (by omega) e1
          refine ⟨TV.not (by omega) (TV.le (by omega) a1), by omega, ?_, fun _ => a4 (by omega)⟩
          rw [cln_app]
          show cln l1 + 1 ≤ _
          omega
      · rw [if_neg g1] at h
        by_cases g2 : c k = 40
        · rw [if_pos g2] at h
          have kK := hK k (by omega)
          by_cases g3 : 8 ≤ o
          · rw [if_pos g3] at h; cases h
          · rw [if_neg g3] at h
            obtain ⟨l1, k1, e1, e2⟩ := rb_inv h
            by_cases g4 : c k1 = 41
            · rw [if_pos g4] at e2
              cases e2
              have k1K := hK k1 (by omega)
              obtain ⟨a1, a2, a3, a4⟩ := ih 3 (o + 1) (k + 1) k1 l (by omega) (by omega) e1
              exact ⟨TV.le (show 2 + 2 * o ≤ 2 * (o + 1) by omega) a1, by omega, by omega, fun _ => by omega⟩
            · rw [if_neg g4] at e2; cases e2
        · rw [if_neg g2] at h
          obtain ⟨l1, k1, e1, e2⟩ := rb_inv h
          by_cases g4 : c k1 = 60 ∨ c k1 = 61 ∨ c k1 = 62
          · rw [if_pos g4] at e2
            have k1K := hK k1 (by omega)
            obtain ⟨l2, k2, e3, e4⟩ := rb_inv e2
            cases e4
            obtain ⟨a1, a2, a3, a4⟩ := ih 7 o k k1 l1 (by omega) ho e1
            obtain ⟨b1, b2, b3, b4⟩ := ih 7 o (k1 + 1) k' l2 (by omega) ho e3
            refine ⟨TV.le (show 2 + 2 * o ≤ 18 by omega) (TV.cmp (by omega) a1 b1), by omega, ?_, fun _ => b4 (by omega)⟩
            rw [cln_app, cln_app]
            have : cln [((c k1 - 33, 0) : Op)] = 1 := by
              show eln (c k1 - 33, 0) + 0 = 1
              unfold eln
              rw [if_neg (by show ¬ c k1 - 33 = 26; omega)]
            omega
          · rw [if_neg g4] at e2; cases e2
    · rw [pX] at h
      by_cases g1 : c k = 207
      · rw [if_pos g1] at h
        have kK := hK k (by omega)
        obtain ⟨l1, k1, e1, e2⟩ := rb_inv h
        obtain ⟨l2, e3, rfl⟩ := ap_inv e2
        obtain ⟨a1, a2, a3, a4⟩ := ih 0 o (k + 1) k1 l1 (by omega) ho e1
        obtain ⟨b1, b2, b3, b4⟩ := ih 1 o k1 k' l2 (by omega) ho e3
        refine ⟨TL.app (TL.bin (show 1 + 2 * o ≤ 18 by omega) (by omega) (TV.le (by omega) a1)) b1, by omega, ?_, fun _ => b4 (a4 (by omega))⟩
        rw [cln_app, cln_app]
        show cln l1 + 1 + cln l2 ≤ _
        omega
      · rw [if_neg g1] at h
        cases h
        exact ⟨TL.nil, Nat.le_refl _, by show 0 ≤ _; omega, fun z => z⟩
    · rw [pX] at h
      by_cases g1 : c k = 206
      · rw [if_pos g1] at h
        have kK := hK k (by omega)
        obtain ⟨l1, k1, e1, e2⟩ := rb_inv h
        obtain ⟨l2, k2, e3, e4⟩ := rb_inv e2
        obtain ⟨l3, e5, rfl⟩ := ap_inv e4
        obtain ⟨a1, a2, a3, a4⟩ := ih 0 o (k + 1) k1 l1 (by omega) ho e1
        obtain ⟨b1, b2, b3, b4⟩ := ih 1 o k1 k2 l2 (by omega) ho e3
        obtain ⟨d1, d2, d3, d4⟩ := ih 2 o k2 k' l3 (by omega) ho e5
        refine ⟨TL.app ?_ d1, by omega, ?_, fun _ => d4 (b4 (a4 (by omega)))⟩
        · rw [← List.append_assoc]
          exact TL.bin (show 2 * o ≤ 18 by omega) (by omega) (TV.app (TV.le (by omega) a1) (TL.le (by omega) b1))
        · rw [cln_app, cln_app, cln_app]
          show cln l1 + (cln l2 + 1) + cln l3 ≤ _
          omega
      · rw [if_neg g1] at h
        cases h
        exact ⟨TL.nil, Nat.le_refl _, by show 0 ≤ _; omega, fun z => z⟩
    · rw [pX] at h
      obtain ⟨l1, k1, e1, e2⟩ := rb_inv h
      obtain ⟨l2, k2, e3, e4⟩ := rb_inv e2
      obtain ⟨l3, e5, rfl⟩ := ap_inv e4
      obtain ⟨a1, a2, a3, a4⟩ := ih 0 o k k1 l1 (by omega) ho e1
      obtain ⟨b1, b2, b3, b4⟩ := ih 1 o k1 k2 l2 (by omega) ho e3
      obtain ⟨d1, d2, d3, d4⟩ := ih 2 o k2 k' l3 (by omega) ho e5
      refine ⟨TV.app (TV.app (TV.le (show 2 * o ≤ 2 + 2 * o by omega) a1) (TL.le (by omega) b1)) d1, by omega, ?_, fun z => d4 (b4 (a4 z))⟩
      rw [cln_app, cln_app]
      omega
    · rw [pX] at h
      by_cases g1 : c k = 42
      · rw [if_pos g1] at h
        have kK := hK k (by omega)
        obtain ⟨l1, k1, e1, e2⟩ := rb_inv h
        obtain ⟨l2, e3, rfl⟩ := ap_inv e2
        obtain ⟨u1, u2, u3, u4⟩ := pU_inv hv e1
        have k2K := hK (k + 1) u2
        obtain ⟨b1, b2, b3, b4⟩ := ih 4 o k1 k' l2 (by omega) ho e3
        refine ⟨GL.app (GL.bin20 (by omega) u3) b1, by omega, ?_, fun _ => b4 (by omega)⟩
        rw [cln_app, cln_app]
        show cln l1 + 1 + cln l2 ≤ _
        omega
      · rw [if_neg g1] at h
        by_cases g2 : c k = 47
        · rw [if_pos g2] at h
          have kK := hK k (by omega)
          by_cases g3 : c (k + 1) = 2
          · rw [if_pos g3] at h
            have k2K := hK (k + 1) (by omega)
            by_cases g4 : v (k + 1) = 0
            · rw [if_pos g4] at h; cases h
            · rw [if_neg g4] at h
              obtain ⟨l2, e3, rfl⟩ := ap_inv h
              obtain ⟨b1, b2, b3, b4⟩ := ih 4 o (k + 2) k' l2 (by omega) ho e3
              refine ⟨GL.app (GL.part (by omega) (hv _ g3)) b1, by omega, ?_, fun _ => b4 (by omega)⟩
              rw [cln_app]
              show 2 + cln l2 ≤ _
              omega
          · rw [if_neg g3] at h; cases h
        · rw [if_neg g2] at h
          cases h
          exact ⟨GL.nil, Nat.le_refl _, by show 0 ≤ _; omega, fun z => z⟩
    · rw [pX] at h
      obtain ⟨l1, k1, e1, e2⟩ := rb_inv h
      obtain ⟨l2, e3, rfl⟩ := ap_inv e2
      obtain ⟨u1, u2, u3, u4⟩ := pU_inv hv e1
      have kK := hK k u2
      obtain ⟨b1, b2, b3, b4⟩ := ih 4 o k1 k' l2 (by omega) ho e3
      refine ⟨GV.app (GV.le (by omega) u3) b1, by omega, ?_, fun _ => b4 (by omega)⟩
      rw [cln_app]
      omega
    · rw [pX] at h
      by_cases g1 : c k = 43 ∨ c k = 45
      · rw [if_pos g1] at h
        have kK := hK k (by omega)
        obtain ⟨l1, k1, e1, e2⟩ := rb_inv h
        obtain ⟨l2, e3, rfl⟩ := ap_inv e2
        obtain ⟨a1, a2, a3, a4⟩ := ih 5 o (k + 1) k1 l1 (by omega) ho e1
        obtain ⟨b1, b2, b3, b4⟩ := ih 6 o k1 k' l2 (by omega) ho e3
        refine ⟨GL.app (GL.bin (by omega) ?_ a1) b1, by omega, ?_, fun _ => b4 (a4 (by omega))⟩
        · by_cases g : c k = 43
          · rw [if_pos g]; omega
          · rw [if_neg g]; omega
        · rw [cln_app, cln_app]
          have : cln [(((if c k = 43 then 23 else 24), 0) : Op)] = 1 := by
            by_cases g : c k = 43
            · rw [if_pos g]; rfl
            · rw [if_neg g]; rfl
          omega
      · rw [if_neg g1] at h
        cases h
        exact ⟨GL.nil, Nat.le_refl _, by show 0 ≤ _; omega, fun z => z⟩
    · rw [pX] at h
      obtain ⟨l1, k1, e1, e2⟩ := rb_inv h
      obtain ⟨l2, e3, rfl⟩ := ap_inv e2
      obtain ⟨a1, a2, a3, a4⟩ := ih 5 o k k1 l1 (by omega) ho e1
      obtain ⟨b1, b2, b3, b4⟩ := ih 6 o k1 k' l2 (by omega) ho e3
      refine ⟨GV.app (GV.le (by omega) a1) b1, by omega, ?_, fun z => b4 (a4 z)⟩
      rw [cln_app]
      omega
theorem PX.ok {K m o k k' : Nat} {l : List Op} (hv : ∀ k, c k = 2 → v k ≤ 9999) (hK : ∀ k, c k ≠ 0 → k < K) (hm : m ≤ 7) (ho : o ≤ 8) (a : PX c v m o k (.inr (l, k'))) : Gq m o l ∧ k ≤ k' ∧ cln l ≤ k' - k ∧ (k ≤ K → k' ≤ K) := by
  obtain ⟨f, a1, -⟩ := a
  exact pX_ok hv hK f m o k k' l hm ho a1
end
