theorem m_canFit {d T R A : Nat} {h : pm_Hp} (hd : 4 ≤ d) (P : Pl T R h) (Q : AC A h) {t a : Nat} (ht : t < T) (ha : a < A) (hk : ¬ wq h t 0 = nI 5) : pm_ev d 248 [.ref 169, .int (nI t), .int (nI a)] h = some (1, h) := by
  obtain ⟨d, rfl, -⟩ := dpos hd
  have hT := P.1
  have hA := Q.1
  rw [e_X10_canFit, m_isThing (by omega) P.2.2.1 hT, pm_bd_s, b2_t (isT_of (by omega) ht), if_neg (by decide), m_isTrunk_y (by omega) P ht, pm_bd_s, b2_f hk, if_pos rfl, m_isActor (by omega) Q, pm_bd_s, b2_t (isT_of (by omega) ha), if_neg (by decide)]
theorem m_canFit_n {d T R A : Nat} {h : pm_Hp} (hd : 4 ≤ d) (P : Pl T R h) (Q : AC A h) {v x : Int32} (hn : ¬ isT T v ∨ (∃ t, t < T ∧ v = nI t ∧ (wq h t 0 = nI 5 ∨ ¬ isT A x))) : pm_ev d 248 [.ref 169, .int v, .int x] h = some (0, h) := by
  obtain ⟨d, rfl, -⟩ := dpos hd
  have hT := P.1
  rw [e_X10_canFit, m_isThing (by omega) P.2.2.1 hT, pm_bd_s]
  rcases hn with hn | ⟨t, ht, rfl, hn⟩
  · rw [b2_f hn, if_pos rfl]
  · rw [b2_t (isT_of (by omega) ht), if_neg (by decide), m_isTrunk_y (by omega) P ht, pm_bd_s]
    by_cases hk : wq h t 0 = nI 5
    · rw [b2_t hk, if_neg (by decide)]
    · rw [b2_f hk, if_pos rfl, m_isActor (by omega) Q, pm_bd_s, b2_f (hn.resolve_left hk), if_pos rfl]
theorem fit_cases {T A : Nat} (h : pm_Hp) (hT : T ≤ 16) (hA : A ≤ 6) (v x : Int32) : (∃ t a, t < T ∧ a < A ∧ v = nI t ∧ x = nI a ∧ ¬ wq h t 0 = nI 5) ∨ (¬ isT T v ∨ (∃ t, t < T ∧ v = nI t ∧ (wq h t 0 = nI 5 ∨ ¬ isT A x))) := by
  by_cases hv : isT T v
  · obtain ⟨t, ht, rfl⟩ := isT_ex (by omega) hv
    by_cases hk : wq h t 0 = nI 5
    · exact Or.inr (Or.inr ⟨t, ht, rfl, Or.inl hk⟩)
    · by_cases hx : isT A x
      · obtain ⟨a, ha, rfl⟩ := isT_ex (by omega) hx
        exact Or.inl ⟨t, a, ht, ha, rfl, rfl, hk⟩
      · exact Or.inr (Or.inr ⟨t, ht, rfl, Or.inr hx⟩)
  · exact Or.inr (Or.inl hv)
theorem q_fits {d T R A n0 n1 : Nat} {L0 L1 : Nat → Ln} {h : pm_Hp} (hd : 9 ≤ d) (S : St T R A n0 n1 L0 L1 h) (v x : Int32) : QE d 138 249 [.int v, .int x] h := by
  obtain ⟨d, rfl, -⟩ := dpos hd
  obtain ⟨P, Q, W, -, -⟩ := S
  have hT := P.1
  have hA := Q.1
  rcases fit_cases h hT hA v x with ⟨t, a, ht, ha, rfl, rfl, hk⟩ | hn
  · refine QE.mk (r := fit (h 170) t a) ?_ ?_
    · rw [e_X9_fits, c_isWearable_y (by omega) P ht, pm_bd_s, b2_t hk, if_neg (by decide), c_isActor (by omega) Q, pm_bd_s, b2_t (isT_of (by omega) ha), if_neg (by decide), c_fit (by omega) P Q (W t ht) ht ha, pm_bd_s]
    · rw [e_X10_fits, m_canFit (by omega) P Q ht ha hk, pm_bd_s, if_neg (by decide), m_fitsTo (by omega) Q (W t ht) (by omega) ha, pm_bd_s]
  · refine QE.mk (r := -1) ?_ ?_
    · rw [e_X9_fits]
      rcases hn with hn | ⟨t, ht, rfl, hn⟩
      · rw [c_isWearable_n (by omega) P hn, pm_bd_s, if_pos rfl]
      · rw [c_isWearable_y (by omega) P ht, pm_bd_s]
        by_cases hk : wq h t 0 = nI 5
        · rw [b2_f (fun q => q hk), if_pos rfl]
        · rw [b2_t hk, if_neg (by decide), c_isActor (by omega) Q, pm_bd_s, b2_f (hn.resolve_left hk), if_pos rfl]
    · rw [e_X10_fits, m_canFit_n (by omega) P Q hn, pm_bd_s, if_pos rfl]
/-- price of a thing for an actor, both sides -/
theorem c_priceA {d T R A n0 n1 : Nat} {L0 L1 : Nat → Ln} {h : pm_Hp} (hd : 5 ≤ d) (S : St T R A n0 n1 L0 L1 h) {t a : Nat} (ht : t < T) (ha : a < A) : ∃ h', pm_ev d 31 [.ref 1, .int (nI t), .ref 14, .int (nI a * nI 5)] h = some (prc (h 170) n0 L0 t (too (h 170) t (some a)), h') ∧ eqi [24, 37] h h' := by
  have hA := S.2.1.1
  obtain ⟨h', e1, e2⟩ := c_price_b (d := d) (bs := a * 5) (to := too (h 170) t (some a)) hd S.1 S.2.2.2.1 (S.2.2.1 t ht) ht (fun m hm => S.2.1.2.2.2 a m ha hm) (by omega)
  exact ⟨h', by rw [pk_mul]; exact e1, e2⟩
theorem m_priceA {d T R A n0 n1 : Nat} {L0 L1 : Nat → Ln} {h : pm_Hp} (hd : 8 ≤ d) (S : St T R A n0 n1 L0 L1 h) {t a : Nat} (ht : t < T) (ha : a < A) : ∃ h', pm_ev d 235 [.ref 169, .int (nI t), .int (nI a)] h = some (prc (h 170) n0 L0 t (too (h 170) t (some a)), h') ∧ eqi [178, 179] h h' := by
  have hA := S.2.1.1
  have hT := S.1.1
  exact m_costBy (a := some a) hd S.2.2.2.1 (S.2.2.1 t ht) (by omega) (fun k hk => by cases hk; omega)
theorem q_cost {d T R A n0 n1 : Nat} {L0 L1 : Nat → Ln} {h : pm_Hp} (hd : 10 ≤ d) (S : St T R A n0 n1 L0 L1 h) (v x : Int32) : QE d 139 250 [.int v, .int x] h := by
  obtain ⟨d, rfl, -⟩ := dpos hd
  have hT := S.1.1
  have hA := S.2.1.1
  have P := S.1
  have Q := S.2.1
  have W := S.2.2.1
  rcases fit_cases h hT hA v x with ⟨t, a, ht, ha, rfl, rfl, hk⟩ | hn
  · by_cases hf : fit (h 170) t a = 0
    · refine QE.mk (r := -1) ?_ ?_
      · rw [e_X9_cost, c_isWearable_y (by omega) P ht, pm_bd_s, b2_t hk, if_neg (by decide), c_isActor (by omega) Q, pm_bd_s, b2_t (isT_of (by omega) ha), if_neg (by decide), c_fit (by omega) P Q (W t ht) ht ha, pm_bd_s, if_pos hf]
      · rw [e_X10_cost, m_canFit (by omega) P Q ht ha hk, pm_bd_s, if_neg (by decide), m_fitsTo (by omega) Q (W t ht) (by omega) ha, pm_bd_s, if_pos hf]
    · obtain ⟨h1, e1, e2⟩ := c_priceA (d := d) (by omega) S ht ha
      have s1 : eqi SCR h h1 := e2.mono (by decide)
      have S1 := S.scr s1
      obtain ⟨h2, f1, f2⟩ := m_priceA (d := d) (by omega) S1 ht ha
      have e170 : h1 170 = h 170 := e2 170 (by decide)
      rw [e170] at f1
      refine ⟨prc (h 170) n0 L0 t (too (h 170) t (some a)), h1, h2, ?_, ?_, s1.tr (f2.mono (by decide))⟩
      · rw [e_X9_cost, c_isWearable_y (by omega) P ht, pm_bd_s, b2_t hk, if_neg (by decide), c_isActor (by omega) Q, pm_bd_s, b2_t (isT_of (by omega) ha), if_neg (by decide), c_fit (by omega) P Q (W t ht) ht ha, pm_bd_s, if_neg hf, e1, pm_bd_s]
      · rw [e_X10_cost, m_canFit (by omega) S1.1 S1.2.1 ht ha (by rw [wq_eq e170]; exact hk), pm_bd_s, if_neg (by decide), m_fitsTo (by omega) S1.2.1 (S1.2.2.1 t ht) (by omega) ha, pm_bd_s, e170, if_neg hf, f1, pm_bd_s]
  · refine QE.mk (r := -1) ?_ ?_
    · rw [e_X9_cost]
      rcases hn with hn | ⟨t, ht, rfl, hn⟩
      · rw [c_isWearable_n (by omega) P hn, pm_bd_s, if_pos rfl]
      · rw [c_isWearable_y (by omega) P ht, pm_bd_s]
        by_cases hk : wq h t 0 = nI 5
        · rw [b2_f (fun q => q hk), if_pos rfl]
        · rw [b2_t hk, if_neg (by decide), c_isActor (by omega) Q, pm_bd_s, b2_f (hn.resolve_left hk), if_pos rfl]
    · rw [e_X10_cost, m_canFit_n (by omega) P Q hn, pm_bd_s, if_pos rfl]
theorem q_suits {d T R A n0 n1 : Nat} {L0 L1 : Nat → Ln} {h : pm_Hp} (hd : 9 ≤ d) (S : St T R A n0 n1 L0 L1 h) (v x : Int32) : QE d 140 252 [.int v, .int x] h := by
  obtain ⟨d, rfl, -⟩ := dpos hd
  obtain ⟨P, Q, W, -, -⟩ := S
  have hT := P.1
  by_cases hv : isT T v
  · obtain ⟨t, ht, rfl⟩ := isT_ex (by omega) hv
    by_cases hx : ¬ x < 0 ∧ x ≤ nI 5
    · obtain ⟨k, hk, rfl⟩ := kd_ex (by omega) hx
      refine QE.mk (r := b2 (wq h t 0 = nI k ∨ (wq h t 0 < nI 3 ∧ nI k < wq h t 0))) ?_ ?_
      · rw [e_X9_suits, c_isThing (by omega) P.2.2.2.1, pm_bd_s, b2_t hv, if_neg (by decide), c_isKind (by omega), pm_bd_s, b2_t hx, if_neg (by decide), c_isOfKind (by omega) P (W t ht) ht hk, pm_bd_s]
        by_cases g : wq h t 0 = nI k ∨ (wq h t 0 < nI 3 ∧ nI k < wq h t 0)
        · rw [b2_t g, if_neg (by decide)]
        · rw [b2_f g, if_pos rfl]
      · rw [e_X10_suits, m_isThing (by omega) P.2.2.1 hT, pm_bd_s, b2_t hv, if_neg (by decide), m_isIn (by omega), pm_bd_s, b2_t hx, if_neg (by decide), m_isOfKind (by omega) (W t ht) (by omega) hk, pm_bd_s]
        by_cases g : wq h t 0 = nI k ∨ (wq h t 0 < nI 3 ∧ nI k < wq h t 0)
        · rw [b2_t g, if_neg (by decide)]
        · rw [b2_f g, if_pos rfl]
    · refine QE.mk (r := -1) ?_ ?_
      · rw [e_X9_suits, c_isThing (by omega) P.2.2.2.1, pm_bd_s, b2_t hv, if_neg (by decide), c_isKind (by omega), pm_bd_s, b2_f hx, if_pos rfl]
      · rw [e_X10_suits, m_isThing (by omega) P.2.2.1 hT, pm_bd_s, b2_t hv, if_neg (by decide), m_isIn (by omega), pm_bd_s, b2_f hx, if_pos rfl]
  · refine QE.mk (r := -1) ?_ ?_
    · rw [e_X9_suits, c_isThing (by omega) P.2.2.2.1, pm_bd_s, b2_f hv, if_pos rfl]
    · rw [e_X10_suits, m_isThing (by omega) P.2.2.1 hT, pm_bd_s, b2_f hv, if_pos rfl]
