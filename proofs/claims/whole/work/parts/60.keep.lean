/-- the model's rows after keeping: the newest last -/
def kpM (c : Nat) (h h' : pm_Hp) : Prop := (∀ k, k ≠ 172 → k ≠ 169 → h' k = h k) ∧ (∀ j, j ≠ 3 → h' 169 j = h 169 j) ∧ (if c = 6 then h' 169 3 = nI 6 ∧ (∀ x, x < 324 → h' 172 (1620 + x) = h 170 x) ∧ ∀ x, x < 1620 → h' 172 x = h 172 (x + 324) else h' 169 3 = nI (c + 1) ∧ (∀ x, x < 324 → h' 172 (324 * c + x) = h 170 x) ∧ ∀ x, x < 324 * c → h' 172 x = h 172 x)
theorem m_kpL {d c : Nat} (hc : c ≤ 5) (h : pm_Hp) (hk : h 169 3 = nI c) : ∃ h', pm_rn d kX10_keeps 52 [.ref 169, .int 0] [] h = some (0, h') ∧ (∀ k, k ≠ 172 → k ≠ 169 → h' k = h k) ∧ (∀ j, j ≠ 3 → h' 169 j = h 169 j) ∧ h' 169 3 = nI (c + 1) ∧ (∀ x, x < 324 → h' 172 (324 * c + x) = h 170 x) ∧ ∀ x, x < 324 * c → h' 172 x = h 172 x := by
  have key : ∀ (n i : Nat) (g : pm_Hp), i + n = 324 → (∀ k, k ≠ 172 → g k = h k) → (∀ x, x < i → g 172 (324 * c + x) = h 170 x) → (∀ x, x < 324 * c → g 172 x = h 172 x) → ∃ h', pm_rn d kX10_keeps 52 [.ref 169, .int (nI i)] [] g = some (0, h') ∧ (∀ k, k ≠ 172 → k ≠ 169 → h' k = h k) ∧ (∀ j, j ≠ 3 → h' 169 j = h 169 j) ∧ h' 169 3 = nI (c + 1) ∧ (∀ x, x < 324 → h' 172 (324 * c + x) = h 170 x) ∧ ∀ x, x < 324 * c → h' 172 x = h 172 x := by
    intro n
    induction n with
    | zero =>
      intro i g hi g1 g2 g3
      have hi : i = 324 := by omega
      subst hi
      rw [b_X10_keeps_52, if_neg (nI_nlt (by omega) (by omega)), g1 169 (by decide), hk, nI_1]
      refine ⟨_, rfl, fun k h1 h2 => ?_, fun j hj => ?_, pm_up_s, fun x hx => ?_, fun x hx => ?_⟩
      · rw [pm_up_n h2]; exact g1 k h1
      · rw [pm_up_j hj, g1 169 (by decide)]
      · rw [pm_up_k (by decide)]; exact g2 x hx
      · rw [pm_up_k (by decide)]; exact g3 x hx
    | succ n ih =>
      intro i g hi g1 g2 g3
      rw [b_X10_keeps_52, if_pos (nI_lt (by omega) (by omega)), pm_at_c (by omega) (by omega), g1 169 (by decide), hk, pm_at_n (j := 324 * c + i) (by rw [pk_mul, nI_add]) (by omega) (by omega), nI_1, g1 170 (by decide)]
      refine ih (i + 1) _ (by omega) (fun k hk2 => by rw [pm_up_n hk2]; exact g1 k hk2) (fun x hx => ?_) (fun x hx => by rw [pm_up_j (by omega)]; exact g3 x hx)
      by_cases e : x = i
      · subst e; rw [pm_up_s]
      · rw [pm_up_j (by omega)]; exact g2 x (by omega)
  exact key 324 0 h (by omega) (fun _ _ => rfl) (fun x hx => absurd hx (Nat.not_lt_zero x)) (fun _ _ => rfl)
theorem m_keeps {d c : Nat} (hd : 1 ≤ d) (hc : c ≤ 6) (h : pm_Hp) (hk : h 169 3 = nI c) : ∃ h', pm_ev d 228 [.ref 169] h = some (0, h') ∧ kpM c h h' := by
  obtain ⟨d, rfl, -⟩ := dpos hd
  rw [e_X10_keeps, hk, nI_ite (by omega) (by omega)]
  unfold kpM
  by_cases c6 : c = 6
  · subst c6
    rw [if_pos rfl]
    have key : ∀ (n i : Nat) (g : pm_Hp), i + n = 1620 → (∀ k, k ≠ 172 → g k = h k) → (∀ x, x < i → g 172 x = h 172 (x + 324)) → (∀ x, i ≤ x → g 172 x = h 172 x) → ∃ h', pm_rn d kX10_keeps 11 [.ref 169, .int (nI i)] [] g = some (0, h') ∧ (∀ k, k ≠ 172 → k ≠ 169 → h' k = h k) ∧ (∀ j, j ≠ 3 → h' 169 j = h 169 j) ∧ (h' 169 3 = nI 6 ∧ (∀ x, x < 324 → h' 172 (1620 + x) = h 170 x) ∧ ∀ x, x < 1620 → h' 172 x = h 172 (x + 324)) := by
      intro n
      induction n with
      | zero =>
        intro i g hi g1 g2 g3
        have hi : i = 1620 := by omega
        subst hi
        rw [b_X10_keeps_11, if_neg (nI_nlt (by omega) (by omega)), g1 169 (by decide), hk, show nI 6 - 1 = nI 5 by decide]
        obtain ⟨h', f1, f2, f3, f4, f5, f6⟩ := m_kpL (d := d) (c := 5) (by omega) (pm_up g 169 3 (nI 5)) pm_up_s
        refine ⟨h', f1, fun k h1 h2 => ?_, fun j hj => ?_, f4, fun x hx => ?_, fun x hx => ?_⟩
        · rw [f2 k h1 h2, pm_up_n h2]; exact g1 k h1
        · rw [f3 j hj, pm_up_j hj, g1 169 (by decide)]
        · have := f5 x hx
          rw [pm_up_k (by decide), g1 170 (by decide)] at this
          exact this
        · rw [f6 x (by omega), pm_up_k (by decide)]; exact g2 x hx
      | succ n ih =>
        intro i g hi g1 g2 g3
        rw [b_X10_keeps_11, if_pos (nI_lt (by omega) (by omega)), pm_at_n (j := i + 324) (by rw [nI_add]) (by omega) (by omega), pm_at_c (by omega) (by omega), nI_1, g3 (i + 324) (by omega)]
        refine ih (i + 1) _ (by omega) (fun k hk2 => by rw [pm_up_n hk2]; exact g1 k hk2) (fun x hx => ?_) (fun x hx => by rw [pm_up_j (by omega)]; exact g3 x (by omega))
        by_cases e : x = i
        · subst e; rw [pm_up_s]
        · rw [pm_up_j e]; exact g2 x (by omega)
    obtain ⟨h', e⟩ := key 1620 0 h (by omega) (fun _ _ => rfl) (fun x hx => absurd hx (Nat.not_lt_zero x)) (fun _ _ => rfl)
    refine ⟨h', e.1, e.2.1, e.2.2.1, ?_⟩
    rw [if_pos rfl]
    exact e.2.2.2
  · rw [if_neg c6]
    obtain ⟨h', e⟩ := m_kpL (d := d) (by omega) h hk
    refine ⟨h', e.1, e.2.1, e.2.2.1, ?_⟩
    rw [if_neg c6]
    exact e.2.2.2
