/-! CALLS THAT CHANGE -/
def IV0 (h : pm_Hp) : Prop := (∃ T R A n0 n1 q N M L0 L1, FS T R A n0 n1 q N M L0 L1 h ∧ ∃ c nx, KR T R A c nx h) ∧ IM h
/-- what no such call touches: the tapes and what is read -/
def rest (h h' : pm_Hp) : Prop := (∀ k, 133 ≤ k → k ≤ 149 → h' k = h k) ∧ (∀ k, 173 ≤ k → (k ≤ 177 ∨ 185 ≤ k) → h' k = h k) ∧ ∀ j, j ≠ 3 → j ≠ 4 → h' 169 j = h 169 j
theorem rest.rf {h : pm_Hp} : rest h h := ⟨fun _ _ _ => rfl, fun _ _ _ => rfl, fun _ _ _ => rfl⟩
theorem rest.tr {h h' h'' : pm_Hp} (a : rest h h') (b : rest h' h'') : rest h h'' := ⟨fun k x y => (b.1 k x y).trans (a.1 k x y), fun k x y => (b.2.1 k x y).trans (a.2.1 k x y), fun k x y => (b.2.2 k x y).trans (a.2.2 k x y)⟩
def MU (d c m : Nat) (a : List Value) (h : pm_Hp) : Prop := ∃ r h1 h2, pm_ev d c (.ref 0 :: a) h = some (r, h1) ∧ pm_ev d m (.ref 169 :: a) h1 = some (r, h2) ∧ rest h h2 ∧ (eqi SCR h h2 ∨ (h2 150 0 = 0 ∧ IV0 h2))
theorem MU.no {d c m : Nat} {a : List Value} {h : pm_Hp} {r : Int32} (e1 : pm_ev d c (.ref 0 :: a) h = some (r, h)) (e2 : pm_ev d m (.ref 169 :: a) h = some (r, h)) : MU d c m a h := ⟨r, h, h, e1, e2, rest.rf, Or.inl eqi.rf⟩
theorem ih_h {h : pm_Hp} {k x : Nat} (h1 : 1 ≤ k) (h2 : k ≤ 36) : ih h k x = h (k + 38) x := if_pos ⟨h1, h2⟩
theorem ih_w {h : pm_Hp} {x : Nat} : ih h 170 x = h 171 x := by
  unfold ih
  rw [if_neg (by omega), if_pos rfl]
theorem cel_k {k j : Nat} (hc : cel k j = true) : (1 ≤ k ∧ k ≤ 36) ∨ (k = 170 ∧ j < 2684) := by
  by_cases g : 1 ≤ k ∧ k ≤ 36
  · exact Or.inl g
  · by_cases e : k = 170
    · subst e
      exact Or.inr ⟨rfl, of_decide_eq_true (show decide (j < 2684) = true from hc)⟩
    · unfold cel at hc
      rw [if_neg e, if_neg (by omega), if_neg (by omega), if_neg (by omega), if_neg (by omega), if_neg (by omega), if_neg (by omega), if_neg (by omega), if_neg (by omega), if_neg (by omega), if_neg (by omega), if_neg (by omega), if_neg (by omega), if_neg (by omega)] at hc
      cases hc
theorem IM.ag {h h' : pm_Hp} (e : ∀ k, 39 ≤ k → k ≤ 74 → h' k = h k) (e1 : h' 171 = h 171) (e2 : h' 0 7 = h 0 7) (e3 : h' 169 4 = h 169 4) (a : IM h) : IM h' := by
  unfold IM at a ⊢
  rw [e2, e3]
  rcases a with a | ⟨a1, a2, T, R, A, n0, n1, q, N, M, L0, L1, F⟩
  · exact Or.inl a
  · refine Or.inr ⟨a1, a2, T, R, A, n0, n1, q, N, M, L0, L1, F.ag (fun k j hc => ?_)⟩
    rcases cel_k hc with ⟨h1, h2⟩ | ⟨rfl, -⟩
    · rw [ih_h h1 h2, ih_h h1 h2, e _ (by omega) (by omega)]
    · rw [ih_w, ih_w, e1]
/-- acts forgotten -/
theorem KR.no {T R A nx : Nat} {h : pm_Hp} (hn : nx < 6) (e1 : h 77 1 = nI nx) (e2 : h 77 2 = 0) (e3 : h 169 3 = 0) : KR T R A 0 nx h := ⟨by omega, hn, e1, e2, e3, fun x hx => absurd hx (Nat.not_lt_zero x)⟩
theorem m_imgL {d : Nat} {v : Int32} (hv : ¬ v = 0) (h : pm_Hp) : ∃ h', pm_rn d kX10_image 15 [.ref 169, .int v, .int 0] [] h = some (1, h') ∧ (∀ k, k ≠ 171 → k ≠ 169 → h' k = h k) ∧ (∀ j, j ≠ 4 → h' 169 j = h 169 j) ∧ h' 169 4 = 1 ∧ ∀ x, x < 2684 → h' 171 x = h 170 x := by
  have key : ∀ (n i : Nat) (g : pm_Hp), i + n = 2684 → (∀ k, k ≠ 171 → g k = h k) → (∀ x, x < i → g 171 x = h 170 x) → ∃ h', pm_rn d kX10_image 15 [.ref 169, .int v, .int (nI i)] [] g = some (1, h') ∧ (∀ k, k ≠ 171 → k ≠ 169 → h' k = h k) ∧ (∀ j, j ≠ 4 → h' 169 j = h 169 j) ∧ h' 169 4 = 1 ∧ ∀ x, x < 2684 → h' 171 x = h 170 x := by
    intro n
    induction n with
    | zero =>
      intro i g hi g1 g2
      have hi : i = 2684 := by omega
      subst hi
      rw [b_X10_image_15, if_neg (nI_nlt (by omega) (by omega)), if_neg hv]
      refine ⟨_, rfl, fun k h1 h2 => ?_, fun j hj => ?_, pm_up_s, fun x hx => ?_⟩
      · rw [pm_up_n h2]; exact g1 k h1
      · rw [pm_up_j hj, g1 169 (by decide)]
      · rw [pm_up_k (by decide)]; exact g2 x hx
    | succ n ih =>
      intro i g hi g1 g2
      rw [b_X10_image_15, if_pos (nI_lt (by omega) (by omega)), if_neg hv, pm_at_c (by omega) (by omega), pm_at_c (by omega) (by omega), nI_1, g1 170 (by decide)]
      refine ih (i + 1) _ (by omega) (fun k hk => by rw [pm_up_n hk]; exact g1 k hk) (fun x hx => ?_)
      by_cases e : x = i
      · subst e; rw [pm_up_s]
      · rw [pm_up_j e]; exact g2 x (by omega)
  exact key 2684 0 h (by omega) (fun _ _ => rfl) (fun x hx => absurd hx (Nat.not_lt_zero x))
theorem m_imgR {d : Nat} (hd : 1 ≤ d) (h : pm_Hp) : ∃ h', pm_rn d kX10_image 15 [.ref 169, .int 0, .int 0] [] h = some (1, h') ∧ (∀ k, k ≠ 170 → k ≠ 169 → h' k = h k) ∧ (∀ j, j ≠ 3 → j ≠ 4 → h' 169 j = h 169 j) ∧ (h' 169 3 = 0 ∧ h' 169 4 = 1) ∧ ∀ x, x < 2684 → h' 170 x = h 171 x := by
  have key : ∀ (n i : Nat) (g : pm_Hp), i + n = 2684 → (∀ k, k ≠ 170 → g k = h k) → (∀ x, x < i → g 170 x = h 171 x) → ∃ h', pm_rn d kX10_image 15 [.ref 169, .int 0, .int (nI i)] [] g = some (1, h') ∧ (∀ k, k ≠ 170 → k ≠ 169 → h' k = h k) ∧ (∀ j, j ≠ 3 → j ≠ 4 → h' 169 j = h 169 j) ∧ (h' 169 3 = 0 ∧ h' 169 4 = 1) ∧ ∀ x, x < 2684 → h' 170 x = h 171 x := by
    intro n
    induction n with
    | zero =>
      intro i g hi g1 g2
      have hi : i = 2684 := by omega
      subst hi
      rw [b_X10_image_15, if_neg (nI_nlt (by omega) (by omega)), if_pos rfl, m_forgets hd, pm_bd_s]
      refine ⟨_, rfl, fun k h1 h2 => ?_, fun j h1 h2 => ?_, ⟨?_, pm_up_s⟩, fun x hx => ?_⟩
      · rw [pm_up_n h2, pm_up_n h2]; exact g1 k h1
      · rw [pm_up_j h2, pm_up_j h1, g1 169 (by decide)]
      · rw [pm_up_j (by decide), pm_up_s]
      · rw [pm_up_k (by decide), pm_up_k (by decide)]; exact g2 x hx
    | succ n ih =>
      intro i g hi g1 g2
      rw [b_X10_image_15, if_pos (nI_lt (by omega) (by omega)), if_pos rfl, pm_at_c (by omega) (by omega), pm_at_c (by omega) (by omega), nI_1, g1 171 (by decide)]
      refine ih (i + 1) _ (by omega) (fun k hk => by rw [pm_up_n hk]; exact g1 k hk) (fun x hx => ?_)
      by_cases e : x = i
      · subst e; rw [pm_up_s]
      · rw [pm_up_j e]; exact g2 x (by omega)
  exact key 2684 0 h (by omega) (fun _ _ => rfl) (fun x hx => absurd hx (Nat.not_lt_zero x))
