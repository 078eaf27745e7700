/-! TEXTS -/
theorem kwi_lt (w : List Nat) : ∀ (l : List (List Nat)) (j : Nat), 1 ≤ j → kwi w l j < j + l.length + 1 := by
  intro l
  induction l with
  | nil => intro j hj; show 1 < j + 0 + 1; omega
  | cons x l ih =>
    intro j hj
    unfold kwi
    have el : (x :: l).length = l.length + 1 := rfl
    by_cases e : w = x
    · rw [if_pos e]; omega
    · rw [if_neg e]
      have := ih (j + 1) (by omega)
      omega
theorem tkF_bd {tp : Nat → Nat} {n p : Nat} (hb : ∀ i, tp i < 256) (hp : p ≤ n) : (tkF tp n p).1 < 300 ∧ (tkF tp n p).2.1 ≤ n ∧ (tkF tp n p).2.2.1 ≤ 9999 ∧ (tkF tp n p).2.2.2 ≤ n := by
  unfold tkF
  by_cases g : rnE isSp tp n p < n
  · rw [if_pos g]
    generalize rnE isSp tp n p = q at g
    obtain ⟨a1, a2, a3⟩ := tkA_nx (tp := tp) g
    refine ⟨?_, by rw [a3]; omega, ?_, a2⟩
    · unfold tkA
      by_cases c1 : isL (tp q)
      · rw [if_pos c1]
        have := kwi_lt (wbs tp q (rnE isL tp n q - q)) kwl 200 (by omega)
        rw [show kwl.length = 24 from rfl] at this
        show kwi _ kwl 200 < 300
        omega
      · rw [if_neg c1]
        by_cases c2 : isD (tp q)
        · rw [if_pos c2]
          show (if rnE isD tp n q - q ≤ 4 then 2 else 1) < 300
          by_cases c3 : rnE isD tp n q - q ≤ 4
          · rw [if_pos c3]; omega
          · rw [if_neg c3]; omega
        · rw [if_neg c2]
          show (if isSg (tp q) then tp q else 1) < 300
          have := hb q
          by_cases c3 : isSg (tp q)
          · rw [if_pos c3]; omega
          · rw [if_neg c3]; omega
    · unfold tkA
      by_cases c1 : isL (tp q)
      · rw [if_pos c1]; exact Nat.zero_le _
      · rw [if_neg c1]
        by_cases c2 : isD (tp q)
        · rw [if_pos c2]
          refine nm_9999 (by omega) (fun x hx => ?_)
          exact rne_all (q := isD) (tp := tp) (n := n) (n - q) q (q + x) (by omega) (by have : rnE isD tp n q = rne isD tp n (n - q) q := rfl; omega)
        · rw [if_neg c2]; exact Nat.zero_le _
  · rw [if_neg g]
    exact ⟨by show 0 < 300; omega, Nat.le_refl _, Nat.zero_le _, Nat.le_refl _⟩
theorem tks_bd {tp : Nat → Nat} {n : Nat} (hb : ∀ i, tp i < 256) : ∀ k, (tks tp n k).1 < 300 ∧ (tks tp n k).2.1 ≤ n ∧ (tks tp n k).2.2.1 ≤ 9999 ∧ (tks tp n k).2.2.2 ≤ n := by
  intro k
  induction k with
  | zero => exact tkF_bd hb (Nat.zero_le _)
  | succ k ih => exact tkF_bd hb ih.2.2.2
theorem ke_of {tp : Nat → Nat} {n K : Nat} (hb : ∀ i, tp i < 256) (hn : n ≤ 400) (h1 : K ≤ 400) (h2 : ∀ x, x < K → (tks tp n x).1 ≠ 0) (h3 : tks tp n K = (0, n, 0, n)) : KE tp n K := by
  have ge : ∀ j, tks tp n (K + j) = (0, n, 0, n) := by
    intro j
    induction j with
    | zero => exact h3
    | succ j ih =>
      show tkF tp n (tks tp n (K + j)).2.2.2 = _
      rw [ih]
      exact tkF_end (Nat.le_refl _)
  refine ⟨h1, by show (tks tp n K).1 = 0; rw [h3], fun k hk => ?_, fun k => (tks_bd hb k).1, fun k _ => (tks_bd hb k).2.2.1, fun k => ⟨(tks_bd hb k).2.2.1, by have := (tks_bd (n := n) hb k).2.1; show (tks tp n k).2.1 ≤ 400; omega⟩⟩
  by_cases g : k < K
  · exact g
  · exfalso
    apply hk
    show (tks tp n k).1 = 0
    rw [show k = K + (k - K) by omega, ge]
/-- the model puts a law -/
def inLw (k x : Nat) : Prop := x = 329 + k ∨ (876 + 16 * k ≤ x ∧ x < 892 + 16 * k) ∨ (908 + 16 * k ≤ x ∧ x < 924 + 16 * k) ∨ (940 + 16 * k ≤ x ∧ x < 956 + 16 * k) ∨ (972 + 16 * k ≤ x ∧ x < 988 + 16 * k) ∨ (1004 + 820 * k ≤ x ∧ x < 1824 + 820 * k)
def putL (k L s : Nat) (h h' : pm_Hp) : Prop := (∀ a, a ≠ 170 → h' a = h a) ∧ (∀ x, ¬ inLw k x → h' 170 x = h 170 x) ∧ h' 170 (329 + k) = nI L ∧ (∀ j, j < L → h' 170 (876 + 16 * k + j) = h 173 (4 * j) ∧ h' 170 (908 + 16 * k + j) = h 173 (4 * j + 1) ∧ h' 170 (940 + 16 * k + j) = h 173 (4 * j + 2) ∧ h' 170 (972 + 16 * k + j) = h 173 (4 * j + 3)) ∧ ∀ j, j < 2 * s → h' 170 (1004 + 820 * k + j) = h 174 j
theorem m_putsLaw {d k L s : Nat} {h : pm_Hp} (hd : 1 ≤ d) (hk : k < 2) (hL : L ≤ 16) (hs : s ≤ 410) (e14 : h 169 14 = nI L) (e15 : h 169 15 = nI s) : ∃ h', pm_ev d 204 [.ref 169, .int (nI k)] h = some (nI L, h') ∧ putL k L s h h' := by
  obtain ⟨d, rfl, -⟩ := dpos hd
  have hk2 : k = 0 ∨ k = 1 := by omega
  have st : ∀ (m i : Nat) (g : pm_Hp), i + m = 2 * s → (∀ a, a ≠ 170 → g a = h a) → (∀ x, ¬ inLw k x → g 170 x = h 170 x) → g 170 (329 + k) = nI L → (∀ j, j < L → g 170 (876 + 16 * k + j) = h 173 (4 * j) ∧ g 170 (908 + 16 * k + j) = h 173 (4 * j + 1) ∧ g 170 (940 + 16 * k + j) = h 173 (4 * j + 2) ∧ g 170 (972 + 16 * k + j) = h 173 (4 * j + 3)) → (∀ j, j < i → g 170 (1004 + 820 * k + j) = h 174 j) → ∃ h', pm_rn d kX10_putsLaw 130 [.ref 169, .int (nI k), .int (nI i)] [] g = some (nI L, h') ∧ putL k L s h h' := by
    intro m
    induction m with
    | zero =>
      intro i g hi g1 g2 g3 g4 g5
      rw [b_X10_putsLaw_130, g1 169 (by omega), e15, e14, pk_mul, if_neg (nI_nlt (by omega) (by omega))]
      exact ⟨g, rfl, g1, g2, g3, g4, fun j hj => g5 j (by omega)⟩
    | succ m ih =>
      intro i g hi g1 g2 g3 g4 g5
      rw [b_X10_putsLaw_130, g1 169 (by omega), e15, pk_mul, if_pos (nI_lt (by omega) (by omega)), pm_at_c (by omega) (by omega), pk_mul, nI_add, nI_add, pm_at_c (by omega) (by omega), nI_1, g1 174 (by omega)]
      refine ih (i + 1) _ (by omega) (fun a ha => by rw [pm_up_n ha]; exact g1 a ha) (fun x hx => ?_) (by rw [pm_up_j (by omega)]; exact g3) (fun j hj => ?_) (fun j hj => ?_)
      · unfold inLw at hx
        rw [pm_up_j (by omega)]
        exact g2 x (by unfold inLw; exact hx)
      · rw [pm_up_j (by omega), pm_up_j (by omega), pm_up_j (by omega), pm_up_j (by omega)]; exact g4 j hj
      · by_cases ej : j = i
        · rw [ej, pm_up_s]
        · rw [pm_up_j (by omega)]; exact g5 j (by omega)
  have ln : ∀ (m i : Nat) (g : pm_Hp), i + m = L → (∀ a, a ≠ 170 → g a = h a) → (∀ x, ¬ inLw k x → g 170 x = h 170 x) → g 170 (329 + k) = nI L → (∀ j, j < i → g 170 (876 + 16 * k + j) = h 173 (4 * j) ∧ g 170 (908 + 16 * k + j) = h 173 (4 * j + 1) ∧ g 170 (940 + 16 * k + j) = h 173 (4 * j + 2) ∧ g 170 (972 + 16 * k + j) = h 173 (4 * j + 3)) → ∃ h', pm_rn d kX10_putsLaw 16 [.ref 169, .int (nI k), .int (nI i)] [] g = some (nI L, h') ∧ putL k L s h h' := by
    intro m
    induction m with
    | zero =>
      intro i g hi g1 g2 g3 g4
      rw [b_X10_putsLaw_16, g1 169 (by omega), e14, if_neg (nI_nlt (by omega) (by omega))]
      exact st (2 * s) 0 g (by omega) g1 g2 g3 (fun j hj => g4 j (by omega)) (fun j hj => absurd hj (Nat.not_lt_zero j))
    | succ m ih =>
      intro i g hi g1 g2 g3 g4
      rw [b_X10_putsLaw_16, g1 169 (by omega), e14, if_pos (nI_lt (by omega) (by omega)), pk_mul, pk_mul, nI_1, nI_add, nI_add, nI_add, nI_add, nI_add, nI_add, nI_add, nI_add, nI_add, nI_add, pm_at_c (by omega) (by omega), pm_at_c (by omega) (by omega), pm_at_c (by omega) (by omega), pm_at_c (by omega) (by omega), pm_at_c (by omega) (by omega), pm_at_c (by omega) (by omega), pm_at_c (by omega) (by omega), pm_at_c (by omega) (by omega), g1 173 (by omega), nI_1]
      refine ih (i + 1) _ (by omega) (fun a ha => by rw [pm_up_n ha, pm_up_n ha, pm_up_n ha, pm_up_n ha]; exact g1 a ha) (fun x hx => ?_) (by rw [pm_up_j (by omega), pm_up_j (by omega), pm_up_j (by omega), pm_up_j (by omega)]; exact g3) (fun j hj => ?_)
      · unfold inLw at hx
        rw [pm_up_j (by omega), pm_up_j (by omega), pm_up_j (by omega), pm_up_j (by omega)]
        exact g2 x (by unfold inLw; exact hx)
      · by_cases ej : j = i
        · subst ej
          refine ⟨?_, ?_, ?_, ?_⟩
          · rw [pm_up_j (by omega), pm_up_j (by omega), pm_up_j (by omega), pm_up_s]
          · rw [pm_up_j (by omega), pm_up_j (by omega), pm_up_s]
          · rw [pm_up_j (by omega), pm_up_s]
          · rw [pm_up_s]
        · obtain ⟨x1, x2, x3, x4⟩ := g4 j (by omega)
          refine ⟨?_, ?_, ?_, ?_⟩
          · rw [pm_up_j (by omega), pm_up_j (by omega), pm_up_j (by omega), pm_up_j (by omega)]; exact x1
          · rw [pm_up_j (by omega), pm_up_j (by omega), pm_up_j (by omega), pm_up_j (by omega)]; exact x2
          · rw [pm_up_j (by omega), pm_up_j (by omega), pm_up_j (by omega), pm_up_j (by omega)]; exact x3
          · rw [pm_up_j (by omega), pm_up_j (by omega), pm_up_j (by omega), pm_up_j (by omega)]; exact x4
  rw [e_X10_putsLaw, nI_add, pm_at_c (by omega) (by omega), e14]
  refine ln L 0 _ (by omega) (fun a ha => pm_up_n ha) (fun x hx => ?_) pm_up_s (fun j hj => absurd hj (Nat.not_lt_zero j))
  unfold inLw at hx
  exact pm_up_j (by omega)
/-- the model puts scenes -/
def putS (N M : Nat) (h h' : pm_Hp) : Prop := (∀ a, a ≠ 170 → h' a = h a) ∧ (∀ x, (x < 327 ∨ (328 < x ∧ x < 366) ∨ 396 ≤ x) → h' 170 x = h 170 x) ∧ h' 170 327 = nI N ∧ h' 170 328 = nI M ∧ (∀ j, j < N → h' 170 (366 + j) = h 175 j) ∧ ∀ j, j < 3 * M → h' 170 (372 + j) = h 176 j
theorem m_putsScenes {d N M : Nat} {h : pm_Hp} (hd : 1 ≤ d) (hN : N ≤ 6) (hM : M ≤ 6) (e16 : h 169 16 = nI N) (e17 : h 169 17 = nI M) : ∃ h', pm_ev d 205 [.ref 169] h = some (nI N, h') ∧ putS N M h h' := by
  obtain ⟨d, rfl, -⟩ := dpos hd
  have st : ∀ (m i : Nat) (g : pm_Hp), i + m = 3 * M → (∀ a, a ≠ 170 → g a = h a) → (∀ x, (x < 327 ∨ (328 < x ∧ x < 366) ∨ 396 ≤ x) → g 170 x = h 170 x) → g 170 327 = nI N → g 170 328 = nI M → (∀ j, j < N → g 170 (366 + j) = h 175 j) → (∀ j, j < i → g 170 (372 + j) = h 176 j) → ∃ h', pm_rn d kX10_putsScenes 58 [.ref 169, .int (nI i)] [] g = some (nI N, h') ∧ putS N M h h' := by
    intro m
    induction m with
    | zero =>
      intro i g hi g1 g2 g3 g4 g5 g6
      rw [b_X10_putsScenes_58, g1 169 (by omega), e17, e16, pk_mul, if_neg (nI_nlt (by omega) (by omega))]
      exact ⟨g, rfl, g1, g2, g3, g4, g5, fun j hj => g6 j (by omega)⟩
    | succ m ih =>
      intro i g hi g1 g2 g3 g4 g5 g6
      rw [b_X10_putsScenes_58, g1 169 (by omega), e17, pk_mul, if_pos (nI_lt (by omega) (by omega)), pm_at_c (by omega) (by omega), nI_add, pm_at_c (by omega) (by omega), nI_1, g1 176 (by omega)]
      refine ih (i + 1) _ (by omega) (fun a ha => by rw [pm_up_n ha]; exact g1 a ha) (fun x hx => by rw [pm_up_j (by omega)]; exact g2 x hx) (by rw [pm_up_j (by omega)]; exact g3) (by rw [pm_up_j (by omega)]; exact g4) (fun j hj => by rw [pm_up_j (by omega)]; exact g5 j hj) (fun j hj => ?_)
      by_cases ej : j = i
      · rw [ej, pm_up_s]
      · rw [pm_up_j (by omega)]; exact g6 j (by omega)
  have sc : ∀ (m i : Nat) (g : pm_Hp), i + m = N → (∀ a, a ≠ 170 → g a = h a) → (∀ x, (x < 327 ∨ (328 < x ∧ x < 366) ∨ 396 ≤ x) → g 170 x = h 170 x) → g 170 327 = nI N → g 170 328 = nI M → (∀ j, j < i → g 170 (366 + j) = h 175 j) → ∃ h', pm_rn d kX10_putsScenes 26 [.ref 169, .int (nI i)] [] g = some (nI N, h') ∧ putS N M h h' := by
    intro m
    induction m with
    | zero =>
      intro i g hi g1 g2 g3 g4 g5
      rw [b_X10_putsScenes_26, g1 169 (by omega), e16, if_neg (nI_nlt (by omega) (by omega))]
      exact st (3 * M) 0 g (by omega) g1 g2 g3 g4 (fun j hj => g5 j (by omega)) (fun j hj => absurd hj (Nat.not_lt_zero j))
    | succ m ih =>
      intro i g hi g1 g2 g3 g4 g5
      rw [b_X10_putsScenes_26, g1 169 (by omega), e16, if_pos (nI_lt (by omega) (by omega)), pm_at_c (by omega) (by omega), nI_add, pm_at_c (by omega) (by omega), nI_1, g1 175 (by omega)]
      refine ih (i + 1) _ (by omega) (fun a ha => by rw [pm_up_n ha]; exact g1 a ha) (fun x hx => by rw [pm_up_j (by omega)]; exact g2 x hx) (by rw [pm_up_j (by omega)]; exact g3) (by rw [pm_up_j (by omega)]; exact g4) (fun j hj => ?_)
      by_cases ej : j = i
      · rw [ej, pm_up_s]
      · rw [pm_up_j (by omega)]; exact g5 j (by omega)
  rw [e_X10_putsScenes, e16, e17]
  exact sc N 0 _ (by omega) (fun a ha => by rw [pm_up_n ha, pm_up_n ha]) (fun x hx => by rw [pm_up_j (by omega), pm_up_j (by omega)]) (by rw [pm_up_j (by omega), pm_up_s]) pm_up_s (fun j hj => absurd hj (Nat.not_lt_zero j))
/-- lines by their number -/
def lat (xs : List Ln) (j : Nat) : Ln := xs.getD j (0, [], [])
theorem lat_0 {x : Ln} {xs : List Ln} : lat (x :: xs) 0 = x := rfl
theorem lat_s {x : Ln} {xs : List Ln} {j : Nat} : lat (x :: xs) (j + 1) = lat xs j := rfl
theorem lat_mem : ∀ (xs : List Ln) (j : Nat), j < xs.length → lat xs j ∈ xs := by
  intro xs
  induction xs with
  | nil => intro j hj; exact absurd hj (Nat.not_lt_zero j)
  | cons x xs ih =>
    intro j hj
    cases j with
    | zero => exact List.mem_cons_self
    | succ j => exact List.mem_cons_of_mem _ (ih j (Nat.lt_of_succ_lt_succ hj))
theorem cseg_spl {h : pm_Hp} {c : Nat} : ∀ (l r : List Op) (p : Nat), cseg h c p (l ++ r) → cseg h c p l ∧ cseg h c (p + cln l) r := by
  intro l
  induction l with
  | nil => intro r p a; exact ⟨trivial, a⟩
  | cons o l ih =>
    intro r p a
    obtain ⟨b1, b2_⟩ := ih r _ a.2
    refine ⟨⟨a.1, b1⟩, ?_⟩
    rw [show p + cln (o :: l) = p + eln o + cln l by show p + (eln o + cln l) = _; omega]
    exact b2_
theorem fseg_spl {h : pm_Hp} : ∀ (l r : List Op) (p : Nat), fseg h p (l ++ r) → fseg h p l ∧ fseg h (p + l.length) r := by
  intro l
  induction l with
  | nil => intro r p a; exact ⟨trivial, a⟩
  | cons o l ih =>
    intro r p a
    obtain ⟨b1, b2_⟩ := ih r _ a.2
    refine ⟨⟨a.1, b1⟩, ?_⟩
    rw [show p + (o :: l).length = p + 1 + l.length by show p + (l.length + 1) = _; omega]
    exact b2_
theorem cseg_cp {h h' : pm_Hp} {c c' : Nat} (e : ∀ j, j < 400 → h' c' j = h c j) : ∀ (l : List Op) (p : Nat), p + cln l ≤ 400 → cseg h c p l → cseg h' c' p l := by
  intro l
  induction l with
  | nil => intro p _ _; trivial
  | cons o l ih =>
    intro p hp a
    have hp : p + (eln o + cln l) ≤ 400 := hp
    exact ⟨fun i hi => by rw [e _ (by omega)]; exact a.1 i hi, ih _ (by omega) a.2⟩
theorem mseg_cp {h h' : pm_Hp} {k s : Nat} (e : ∀ j, j < 2 * s → h' 170 (1004 + 820 * k + j) = h 174 j) : ∀ (l : List Op) (p : Nat), p + l.length ≤ s → fseg h p l → mseg h' k p l := by
  intro l
  induction l with
  | nil => intro p _ _; trivial
  | cons o l ih =>
    intro p hp a
    have hp : p + (l.length + 1) ≤ s := hp
    refine ⟨⟨by rw [e _ (by omega)]; exact a.1.1, fun z => ?_⟩, ih _ (by omega) a.2⟩
    rw [Nat.add_assoc (1004 + 820 * k), e _ (by omega)]
    exact a.1.2 z
theorem cls_at {h h' : pm_Hp} {c : Nat} (e : ∀ j, j < 400 → h' c j = h 136 j) (e2 : ∀ r j, 1 ≤ r → r ≤ 4 → j < 16 → h' (c + r) j = h (136 + r) j) : ∀ (xs : List Ln) (j0 p : Nat), LR h j0 p xs → cseg h 136 p (lcat xs) → p + cln (lcat xs) ≤ 400 → j0 + xs.length ≤ 16 → ∀ j, j < xs.length → clsL h' c (j0 + j) (lat xs j) := by
  intro xs
  induction xs with
  | nil => intro j0 p _ _ _ _ j hj; exact absurd hj (Nat.not_lt_zero j)
  | cons x xs ih =>
    intro j0 p R S hp hl j hj
    have hl : j0 + (xs.length + 1) ≤ 16 := hl
    obtain ⟨s1, s2⟩ := cseg_spl x.2.1 (x.2.2 ++ lcat xs) p S
    obtain ⟨s3, s4⟩ := cseg_spl x.2.2 (lcat xs) _ s2
    have hp : p + cln (x.2.1 ++ (x.2.2 ++ lcat xs)) ≤ 400 := hp
    rw [cln_app, cln_app] at hp
    cases j with
    | zero =>
      rw [lat_0, Nat.add_zero]
      obtain ⟨r1, r2, r3, r4⟩ := R.1
      exact ⟨p, p + cln x.2.1, p + cln x.2.1 + cln x.2.2, by rw [e2 1 j0 (by omega) (by omega) (by omega)]; exact r1, by rw [e2 2 j0 (by omega) (by omega) (by omega)]; exact r2, by rw [e2 3 j0 (by omega) (by omega) (by omega)]; exact r3, by rw [e2 4 j0 (by omega) (by omega) (by omega)]; exact r4, rfl, rfl, by omega, cseg_cp e _ _ (by omega) s1, cseg_cp e _ _ (by omega) s3⟩
    | succ j =>
      rw [lat_s, show j0 + (j + 1) = j0 + 1 + j by omega]
      exact ih (j0 + 1) _ R.2 s4 (by omega) (by omega) j (Nat.lt_of_succ_lt_succ hj)
theorem mod_at {h h' : pm_Hp} {k s : Nat} (hs : s ≤ 410) (e : ∀ j, j < 2 * s → h' 170 (1004 + 820 * k + j) = h 174 j) (L : Nat) (e2 : ∀ j, j < L → h' 170 (876 + 16 * k + j) = h 173 (4 * j) ∧ h' 170 (908 + 16 * k + j) = h 173 (4 * j + 1) ∧ h' 170 (940 + 16 * k + j) = h 173 (4 * j + 2) ∧ h' 170 (972 + 16 * k + j) = h 173 (4 * j + 3)) : ∀ (xs : List Ln) (j0 p : Nat), MR h j0 p xs → fseg h p (lcat xs) → p + (lcat xs).length ≤ s → j0 + xs.length ≤ L → ∀ j, j < xs.length → modL h' k (j0 + j) (lat xs j) := by
  intro xs
  induction xs with
  | nil => intro j0 p _ _ _ _ j hj; exact absurd hj (Nat.not_lt_zero j)
  | cons x xs ih =>
    intro j0 p R S hp hl j hj
    have hl : j0 + (xs.length + 1) ≤ L := hl
    obtain ⟨s1, s2⟩ := fseg_spl x.2.1 (x.2.2 ++ lcat xs) p S
    obtain ⟨s3, s4⟩ := fseg_spl x.2.2 (lcat xs) _ s2
    have hp : p + (x.2.1 ++ (x.2.2 ++ lcat xs)).length ≤ s := hp
    rw [List.length_append, List.length_append] at hp
    cases j with
    | zero =>
      rw [lat_0, Nat.add_zero]
      obtain ⟨r1, r2, r3, r4⟩ := R.1
      obtain ⟨x1, x2, x3, x4⟩ := e2 j0 (by omega)
      exact ⟨p, p + x.2.1.length, p + x.2.1.length + x.2.2.length, by rw [x4]; exact r1, by rw [x1]; exact r2, by rw [x2]; exact r3, by rw [x3]; exact r4, rfl, rfl, by omega, mseg_cp e _ _ (by omega) s1, mseg_cp e _ _ (by omega) s3⟩
    | succ j =>
      rw [lat_s, show j0 + (j + 1) = j0 + 1 + j by omega]
      exact ih (j0 + 1) _ R.2 s4 (by omega) (by omega) j (Nat.lt_of_succ_lt_succ hj)
