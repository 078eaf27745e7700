/-! THE TAPE -/
def TP (h : pm_Hp) : Prop := ∃ n, n ≤ 400 ∧ h 133 1 = nI n ∧ h 169 18 = nI n ∧ (∀ i, i < n → h 134 i = h 177 i ∧ nb (h 134 i) 255) ∧ h 133 2 = h 169 25 ∧ h 133 3 = h 169 27 ∧ h 169 34 = -1 ∧ h 169 35 = -1
theorem TP.rest {h h' : pm_Hp} (r : rest h h') (t : TP h) : TP h' := by
  obtain ⟨n, t1, t2, t3, t4, t5, t6, t7, t8⟩ := t
  refine ⟨n, t1, by rw [r.1 133 (by omega) (by omega)]; exact t2, by rw [r.2.2 18 (by omega) (by omega)]; exact t3, fun i hi => by rw [r.1 134 (by omega) (by omega), r.2.1 177 (by omega) (by omega)]; exact t4 i hi, by rw [r.1 133 (by omega) (by omega), r.2.2 25 (by omega) (by omega)]; exact t5, by rw [r.1 133 (by omega) (by omega), r.2.2 27 (by omega) (by omega)]; exact t6, by rw [r.2.2 34 (by omega) (by omega)]; exact t7, by rw [r.2.2 35 (by omega) (by omega)]; exact t8⟩
/-- what calls at the tape leave as it was -/
def tfr (h h' : pm_Hp) : Prop := (∀ k, (k < 133 ∨ (149 < k ∧ k < 173) ∨ 177 < k) → k ≠ 169 → h' k = h k) ∧ h' 169 3 = h 169 3 ∧ h' 169 4 = h 169 4
def MT (d c m : Nat) (a : List Value) (h : pm_Hp) : Prop := ∃ r h1 h2, pm_ev d c (.ref 0 :: a) h = some (r, h1) ∧ pm_ev d m (.ref 169 :: a) h1 = some (r, h2) ∧ tfr h h2 ∧ TP h2
theorem shr_and {v : Int32} {s : Nat} (hs : s = 0 ∨ s = 8 ∨ s = 16 ∨ s = 24) : pm_shr v (nI s) &&& nI 255 = pm_ushr v (nI s) &&& nI 255 := by
  rw [pk_and _ 8 (by decide), pk_and _ 8 (by decide)]
  have a' : (pm_shr v (nI s)).toInt = v.toInt >>> s := pk_shr v (nI s &&& 31) s (shAmt s (by omega)).1
  have b' : (pm_ushr v (nI s)).toBitVec.toNat = v.toBitVec.toNat / 2 ^ s := pk_ushr v (nI s) s (shAmt s (by omega)).2
  rw [b']
  have c := BitVec.toInt_eq_toNat_cond v.toBitVec
  have d := BitVec.toInt_eq_toNat_cond (pm_shr v (nI s)).toBitVec
  rw [show (pm_shr v (nI s)).toInt = (pm_shr v (nI s)).toBitVec.toInt from rfl, d, show v.toInt = v.toBitVec.toInt from rfl, c, Int.shiftRight_eq_div_pow] at a'
  have x1 := v.toBitVec.isLt
  have x2 := (pm_shr v (nI s)).toBitVec.isLt
  generalize (pm_shr v (nI s)).toBitVec.toNat = Y at a' x2 ⊢
  generalize v.toBitVec.toNat = X at a' x1 ⊢
  congr 1
  rcases hs with rfl | rfl | rfl | rfl <;> (split at a' <;> split at a' <;> omega)
def by4 (v : Int32) (i : Nat) : Int32 := pm_ushr v (nI (24 - 8 * i)) &&& nI 255
theorem by4_nb (v : Int32) (i : Nat) : nb (by4 v i) 255 := by
  obtain ⟨j, hj, e⟩ := pk_andE (pm_ushr v (nI (24 - 8 * i))) (m := nI 255) 8 (by decide)
  exact ⟨j, by omega, e⟩
theorem c_append {d n : Nat} {h : pm_Hp} (hd : 1 ≤ d) (hn : n + 4 ≤ 400) (e : h 133 1 = nI n) (v : Int32) : ∃ h', pm_ev d 75 [.ref 133, .int v] h = some (0, h') ∧ (∀ k, k ≠ 133 → k ≠ 134 → h' k = h k) ∧ (∀ j, j ≠ 1 → h' 133 j = h 133 j) ∧ h' 133 1 = nI (n + 4) ∧ (∀ i, i < 4 → h' 134 (n + i) = by4 v i) ∧ ∀ i, i < n → h' 134 i = h 134 i := by
  obtain ⟨d, rfl, -⟩ := dpos hd
  rw [e_X5_append]
  have key : ∀ (q i : Nat) (g : pm_Hp), i + q = 4 → (∀ k, k ≠ 133 → k ≠ 134 → g k = h k) → (∀ j, j ≠ 1 → g 133 j = h 133 j) → g 133 1 = nI (n + i) → (∀ x, x < i → g 134 (n + x) = by4 v x) → (∀ x, x < n → g 134 x = h 134 x) → ∃ h', pm_rn d kX5_append 3 [.ref 133, .int v, .int (nI 24 + -(nI (8 * i)))] [] g = some (0, h') ∧ (∀ k, k ≠ 133 → k ≠ 134 → h' k = h k) ∧ (∀ j, j ≠ 1 → h' 133 j = h 133 j) ∧ h' 133 1 = nI (n + 4) ∧ (∀ i, i < 4 → h' 134 (n + i) = by4 v i) ∧ ∀ i, i < n → h' 134 i = h 134 i := by
    intro q
    induction q with
    | zero =>
      intro i g hi g1 g2 g3 g4 g5
      have hi : i = 4 := by omega
      subst hi
      rw [b_X5_append_3, if_pos (by decide)]
      exact ⟨g, rfl, g1, g2, g3, g4, g5⟩
    | succ q ih =>
      intro i g hi g1 g2 g3 g4 g5
      have e24 : nI 24 + -(nI (8 * i)) = nI (24 - 8 * i) := by rw [← Int32.sub_eq_add_neg, pk_sub (by omega)]
      have e8 : nI (24 - 8 * i) + (-8) = nI 24 + -(nI (8 * (i + 1))) := by
        have : i = 0 ∨ i = 1 ∨ i = 2 ∨ i = 3 := by omega
        rcases this with rfl | rfl | rfl | rfl <;> decide
      rw [b_X5_append_3, e24, if_neg (nI_pos (by omega)), g3, if_pos (nI_lt (by omega) (by omega)), pm_at_c (by omega) (by omega), nI_1, e8]
      refine ih (i + 1) _ (by omega) (fun k h1 h2 => by rw [pm_up_n h1, pm_up_n h2]; exact g1 k h1 h2) (fun j hj => by rw [pm_up_j hj, pm_up_k (by omega)]; exact g2 j hj) (by rw [pm_up_s]; rfl) (fun x hx => ?_) (fun x hx => by rw [pm_up_k (by omega), pm_up_j (by omega)]; exact g5 x hx)
      by_cases ex : x = i
      · rw [ex, pm_up_k (by omega), pm_up_s]; rfl
      · rw [pm_up_k (by omega), pm_up_j (by omega)]; exact g4 x (by omega)
  exact key 4 0 h (by omega) (fun _ _ _ => rfl) (fun _ _ => rfl) e (fun x hx => absurd hx (Nat.not_lt_zero x)) (fun _ _ => rfl)
def sel5 (v1 v2 v3 v4 v5 : Int32) (k : Nat) : Int32 := if k < 4 then v1 else if k < 8 then v2 else if k < 12 then v3 else if k < 16 then v4 else v5
theorem m_feedL {d n : Nat} {h : pm_Hp} (hn : n + 20 ≤ 400) (e : h 169 18 = nI n) (v1 v2 v3 v4 v5 : Int32) (u : Value) : ∃ h', pm_rn d kX10_feed 18 [.ref 169, .int v1, .int v2, .int v3, .int v4, .int v5, .int 0, u] [] h = some (nI (n + 20), h') ∧ (∀ k, k ≠ 169 → k ≠ 177 → h' k = h k) ∧ (∀ j, j ≠ 18 → h' 169 j = h 169 j) ∧ h' 169 18 = nI (n + 20) ∧ (∀ k, k < 20 → h' 177 (n + k) = by4 (sel5 v1 v2 v3 v4 v5 k) (k % 4)) ∧ ∀ i, i < n → h' 177 i = h 177 i := by
  have key : ∀ (q i : Nat) (g : pm_Hp) (u : Value), i + q = 20 → (∀ k, k ≠ 169 → k ≠ 177 → g k = h k) → (∀ j, j ≠ 18 → g 169 j = h 169 j) → g 169 18 = nI (n + i) → (∀ x, x < i → g 177 (n + x) = by4 (sel5 v1 v2 v3 v4 v5 x) (x % 4)) → (∀ x, x < n → g 177 x = h 177 x) → ∃ h', pm_rn d kX10_feed 18 [.ref 169, .int v1, .int v2, .int v3, .int v4, .int v5, .int (nI i), u] [] g = some (nI (n + 20), h') ∧ (∀ k, k ≠ 169 → k ≠ 177 → h' k = h k) ∧ (∀ j, j ≠ 18 → h' 169 j = h 169 j) ∧ h' 169 18 = nI (n + 20) ∧ (∀ k, k < 20 → h' 177 (n + k) = by4 (sel5 v1 v2 v3 v4 v5 k) (k % 4)) ∧ ∀ i, i < n → h' 177 i = h 177 i := by
    intro q
    induction q with
    | zero =>
      intro i g u hi g1 g2 g3 g4 g5
      have hi : i = 20 := by omega
      subst hi
      rw [b_X10_feed_18, if_neg (nI_nlt (by omega) (by omega)), g3]
      exact ⟨g, rfl, g1, g2, g3, g4, g5⟩
    | succ q ih =>
      intro i g u hi g1 g2 g3 g4 g5
      have em : nI i - nI i / nI 4 * nI 4 = nI (i % 4) := pk_rem (by omega) (by omega) (by omega)
      have lt4 : i % 4 < 4 := Nat.mod_lt _ (by omega)
      have es : ∀ w : Int32, pm_shr w (nI 24 - nI 8 * nI (i % 4)) &&& nI 255 = by4 w (i % 4) := fun w => by
        rw [pk_mul, pk_sub (by omega), shr_and (by omega)]
        rfl
      have nx : ∀ w : Int32, w = sel5 v1 v2 v3 v4 v5 i → ∃ h', pm_rn d kX10_feed 18 [.ref 169, .int v1, .int v2, .int v3, .int v4, .int v5, .int (nI (i + 1)), .int w] [] (pm_up (pm_up g 177 (n + i) (by4 w (i % 4))) 169 18 (nI (n + i + 1))) = some (nI (n + 20), h') ∧ (∀ k, k ≠ 169 → k ≠ 177 → h' k = h k) ∧ (∀ j, j ≠ 18 → h' 169 j = h 169 j) ∧ h' 169 18 = nI (n + 20) ∧ (∀ k, k < 20 → h' 177 (n + k) = by4 (sel5 v1 v2 v3 v4 v5 k) (k % 4)) ∧ ∀ i, i < n → h' 177 i = h 177 i := fun w hw => by
        refine ih (i + 1) _ _ (by omega) (fun k h1 h2 => by rw [pm_up_n h1, pm_up_n h2]; exact g1 k h1 h2) (fun j hj => by rw [pm_up_j hj, pm_up_k (by omega)]; exact g2 j hj) (by rw [pm_up_s]; rfl) (fun x hx => ?_) (fun x hx => by rw [pm_up_k (by omega), pm_up_j (by omega)]; exact g5 x hx)
        by_cases ex : x = i
        · rw [ex, pm_up_k (by omega), pm_up_s, hw]
        · rw [pm_up_k (by omega), pm_up_j (by omega)]; exact g4 x (by omega)
      rw [b_X10_feed_18, if_pos (nI_lt (by omega) (by omega)), g3, em, ltn_ite (by omega) (by omega)]
      unfold sel5 at nx
      by_cases c1 : i < 4
      · rw [if_pos c1, pm_at_c (by omega) (by omega), es, nI_1, nI_1]
        exact nx v1 (by rw [if_pos c1])
      · rw [if_neg c1, ltn_ite (by omega) (by omega)]
        by_cases c2 : i < 8
        · rw [if_pos c2, pm_at_c (by omega) (by omega), es, nI_1, nI_1]
          exact nx v2 (by rw [if_neg c1, if_pos c2])
        · rw [if_neg c2, ltn_ite (by omega) (by omega)]
          by_cases c3 : i < 12
          · rw [if_pos c3, pm_at_c (by omega) (by omega), es, nI_1, nI_1]
            exact nx v3 (by rw [if_neg c1, if_neg c2, if_pos c3])
          · rw [if_neg c3, ltn_ite (by omega) (by omega)]
            by_cases c4 : i < 16
            · rw [if_pos c4, pm_at_c (by omega) (by omega), es, nI_1, nI_1]
              exact nx v4 (by rw [if_neg c1, if_neg c2, if_neg c3, if_pos c4])
            · rw [if_neg c4, pm_at_c (by omega) (by omega), es, nI_1, nI_1]
              exact nx v5 (by rw [if_neg c1, if_neg c2, if_neg c3, if_neg c4])
  exact key 20 0 h u (by omega) (fun _ _ _ => rfl) (fun _ _ => rfl) e (fun x hx => absurd hx (Nat.not_lt_zero x)) (fun _ _ => rfl)
theorem MT.no {d c m : Nat} {a : List Value} {h : pm_Hp} {r : Int32} (t : TP h) (e1 : pm_ev d c (.ref 0 :: a) h = some (r, h)) (e2 : pm_ev d m (.ref 169 :: a) h = some (r, h)) : MT d c m a h := ⟨r, h, h, e1, e2, ⟨fun _ _ _ => rfl, rfl, rfl⟩, t⟩
theorem q_feed {d : Nat} {h : pm_Hp} (hd : 3 ≤ d) (t : TP h) (v1 v2 v3 v4 v5 : Int32) : MT d 115 176 [.int v1, .int v2, .int v3, .int v4, .int v5] h := by
  obtain ⟨d, rfl, -⟩ := dpos hd
  have t' := t
  obtain ⟨n, t1, t2, t3, t4, t5, t6, t7, t8⟩ := t
  obtain ⟨d, rfl, -⟩ := dpos (show 1 + 1 ≤ d by omega)
  by_cases g : n + 20 ≤ 400
  · obtain ⟨h1, a1, b1, c1, d1, e1, f1⟩ := c_append (d := d + 1) (n := n) (h := h) (by omega) (by omega) t2 v1
    obtain ⟨h2, a2, b2', c2, d2, e2, f2⟩ := c_append (d := d + 1) (n := n + 4) (h := h1) (by omega) (by omega) d1 v2
    obtain ⟨h3, a3, b3, c3, d3, e3, f3⟩ := c_append (d := d + 1) (n := n + 4 + 4) (h := h2) (by omega) (by omega) d2 v3
    obtain ⟨h4, a4, b4, c4, d4, e4, f4⟩ := c_append (d := d + 1) (n := n + 4 + 4 + 4) (h := h3) (by omega) (by omega) d3 v4
    obtain ⟨h5, a5, b5, c5, d5, e5, f5⟩ := c_append (d := d + 1) (n := n + 4 + 4 + 4 + 4) (h := h4) (by omega) (by omega) d4 v5
    have o : ∀ k, k ≠ 133 → k ≠ 134 → h5 k = h k := fun k q1 q2 => by rw [b5 k q1 q2, b4 k q1 q2, b3 k q1 q2, b2' k q1 q2, b1 k q1 q2]
    have o3 : ∀ j, j ≠ 1 → h5 133 j = h 133 j := fun j q => by rw [c5 j q, c4 j q, c3 j q, c2 j q, c1 j q]
    have tp : ∀ k, k < 20 → h5 134 (n + k) = by4 (sel5 v1 v2 v3 v4 v5 k) (k % 4) := fun k hk => by
      unfold sel5
      by_cases g1 : k < 4
      · rw [if_pos g1, f5 _ (by omega), f4 _ (by omega), f3 _ (by omega), f2 _ (by omega), e1 k g1, Nat.mod_eq_of_lt g1]
      · rw [if_neg g1]
        by_cases g2 : k < 8
        · have := e2 (k - 4) (by omega)
          rw [show n + 4 + (k - 4) = n + k by omega] at this
          rw [if_pos g2, f5 _ (by omega), f4 _ (by omega), f3 _ (by omega), this, show k % 4 = k - 4 by omega]
        · rw [if_neg g2]
          by_cases g3 : k < 12
          · have := e3 (k - 8) (by omega)
            rw [show n + 4 + 4 + (k - 8) = n + k by omega] at this
            rw [if_pos g3, f5 _ (by omega), f4 _ (by omega), this, show k % 4 = k - 8 by omega]
          · rw [if_neg g3]
            by_cases g4 : k < 16
            · have := e4 (k - 12) (by omega)
              rw [show n + 4 + 4 + 4 + (k - 12) = n + k by omega] at this
              rw [if_pos g4, f5 _ (by omega), this, show k % 4 = k - 12 by omega]
            · have := e5 (k - 16) (by omega)
              rw [show n + 4 + 4 + 4 + 4 + (k - 16) = n + k by omega] at this
              rw [if_neg g4, this, show k % 4 = k - 16 by omega]
    have tpo : ∀ i, i < n → h5 134 i = h 134 i := fun i hi => by rw [f5 i (by omega), f4 i (by omega), f3 i (by omega), f2 i (by omega), f1 i hi]
    obtain ⟨h6, m1, m2, m3, m4, m5, m6⟩ := m_feedL (d := d + 1) (n := n) (h := h5) g (by rw [o 169 (by omega) (by omega)]; exact t3) v1 v2 v3 v4 v5 .null
    refine ⟨nI (n + 20), h5, h6, ?_, ?_, ⟨fun k q1 q2 => by rw [m2 k q2 (by omega), o k (by omega) (by omega)], by rw [m3 3 (by omega), o 169 (by omega) (by omega)], by rw [m3 4 (by omega), o 169 (by omega) (by omega)]⟩, n + 20, g, ?_, m4, fun i hi => ?_, ?_, ?_, by rw [m3 34 (by omega), o 169 (by omega) (by omega)]; exact t7, by rw [m3 35 (by omega), o 169 (by omega) (by omega)]; exact t8⟩
    · rw [e_X9_feed, e_X5_hasRoom, t2, nI_add, if_pos (nI_le g (by omega)), pm_bd_s, if_neg (by decide), a1, pm_bd_s, a2, pm_bd_s, a3, pm_bd_s, a4, pm_bd_s, a5, pm_bd_s, d5]
    · rw [e_X10_feed, o 169 (by omega) (by omega), t3, nI_add, if_pos (nI_le g (by omega)), m1]
    · rw [m2 133 (by omega) (by omega), d5]
    · rw [m2 134 (by omega) (by omega)]
      by_cases gi : i < n
      · rw [tpo i gi, m6 i gi, o 177 (by omega) (by omega)]
        exact t4 i gi
      · have a := tp (i - n) (by omega)
        have b := m5 (i - n) (by omega)
        rw [show n + (i - n) = i by omega] at a b
        rw [a, b]
        exact ⟨rfl, by4_nb _ _⟩
    · rw [m2 133 (by omega) (by omega), o3 2 (by omega), m3 25 (by omega), o 169 (by omega) (by omega)]; exact t5
    · rw [m2 133 (by omega) (by omega), o3 3 (by omega), m3 27 (by omega), o 169 (by omega) (by omega)]; exact t6
  · refine MT.no (r := -1) t' ?_ ?_
    · rw [e_X9_feed, e_X5_hasRoom, t2, nI_add, if_neg (fun z => g ((nI_leI (by omega) (by omega)).mp z)), pm_bd_s, if_pos rfl]
    · rw [e_X10_feed, t3, nI_add, if_neg (fun z => g ((nI_leI (by omega) (by omega)).mp z))]
theorem q_end {d : Nat} {h : pm_Hp} (hd : 2 ≤ d) (t : TP h) (v : Int32) : MT d 116 177 [.int v] h := by
  obtain ⟨d, rfl, -⟩ := dpos hd
  have t' := t
  obtain ⟨n, t1, t2, t3, t4, t5, t6, t7, t8⟩ := t
  by_cases g : ¬ v < 0 ∧ v ≤ nI n
  · obtain ⟨k, hk, rfl⟩ := kd_ex (by omega) g
    refine ⟨1, pm_up h 133 1 (nI k), pm_up (pm_up h 133 1 (nI k)) 169 18 (nI k), ?_, ?_, ⟨fun k q1 q2 => by rw [pm_up_n q2, pm_up_n (by omega)], by rw [pm_up_j (by omega), pm_up_k (by omega)], by rw [pm_up_j (by omega), pm_up_k (by omega)]⟩, k, by omega, by rw [pm_up_k (by omega), pm_up_s], pm_up_s, fun i hi => by rw [pm_up_k (by omega), pm_up_k (by omega), pm_up_k (by omega), pm_up_k (by omega)]; exact t4 i (by omega), ?_, ?_, by rw [pm_up_j (by omega), pm_up_k (by omega)]; exact t7, by rw [pm_up_j (by omega), pm_up_k (by omega)]; exact t8⟩
    · rw [e_X9_end, if_neg g.1, t2, if_pos g.2]
    · rw [e_X10_end, pm_up_k (by omega), t3, m_isIn (by omega), pm_bd_s, b2_t g, if_neg (by decide)]
    · rw [pm_up_k (by omega), pm_up_j (by omega), pm_up_j (by omega), pm_up_k (by omega)]; exact t5
    · rw [pm_up_k (by omega), pm_up_j (by omega), pm_up_j (by omega), pm_up_k (by omega)]; exact t6
  · refine MT.no (r := 0) t' ?_ ?_
    · rw [e_X9_end, t2]
      by_cases a : v < 0
      · rw [if_pos a]
      · rw [if_neg a, if_neg (fun b => g ⟨a, b⟩)]
    · rw [e_X10_end, t3, m_isIn (by omega), pm_bd_s, b2_f g, if_pos rfl]
theorem q_fault {d : Nat} {h : pm_Hp} (hd : 1 ≤ d) (t : TP h) (v : Int32) : QE d 118 207 [.int v] h := by
  obtain ⟨d, rfl, -⟩ := dpos hd
  obtain ⟨n, t1, t2, t3, t4, t5, t6, t7, t8⟩ := t
  by_cases g0 : v = 0
  · refine QE.mk (r := h 133 2) ?_ ?_
    · rw [e_X9_fault, if_pos g0]
    · rw [e_X10_fault, if_pos g0, t5]
  · by_cases g1 : v = 1
    · refine QE.mk (r := h 133 3) ?_ ?_
      · rw [e_X9_fault, if_neg g0, if_pos g1]
      · rw [e_X10_fault, if_neg g0, if_pos g1, t6]
    · refine QE.mk (r := -1) ?_ ?_
      · rw [e_X9_fault, if_neg g0, if_neg g1]
      · rw [e_X10_fault, if_neg g0, if_neg g1]
