abbrev dd (h : pm_Hp) (A t : Nat) : Nat := sof (fun a => decide (clo h t a)) A
abbrev okt (h : pm_Hp) (t : Nat) : Prop := ¬ wq h t 0 = nI 5 ∧ ¬ aw h t
theorem dd_lt {h : pm_Hp} {A : Nat} (hA : A ≤ 6) (t : Nat) : dd h A t < 64 := Nat.lt_of_lt_of_le (sof_lt _ _) (Nat.pow_le_pow_right (by omega) hA : 2 ^ A ≤ 2 ^ 6)
theorem dd_ok {h : pm_Hp} {A t : Nat} (hn : dd h A t ≠ 0) : okt h t := by
  by_cases g : okt h t
  · exact g
  · refine absurd ?_ hn
    rw [show dd h A t = sof (fun _ => false) A from sof_cg (fun a _ => decide_eq_false (fun q => g ⟨q.1, q.2.1⟩))]
    exact Nat.eq_of_testBit_eq (fun i => by rw [sof_bit, Nat.zero_testBit, Bool.and_false])
theorem Gd_0 (T : Nat) (ok : Nat → Prop) : Gd T ok 0 := ⟨Nat.two_pow_pos T, by rw [pcn_0]; omega, fun t ht => by rw [Nat.zero_testBit] at ht; cases ht⟩
theorem un_0 (D : Nat → Nat) : ∀ n, un D 0 n = 0 := by
  intro n
  induction n with
  | zero => rfl
  | succ n ih =>
    unfold un
    rw [Nat.zero_testBit, if_neg (by decide), ih]
theorem c_findW {d T R A n0 n1 : Nat} {L0 L1 : Nat → Ln} {h : pm_Hp} (hd : 9 ≤ d) (S : St T R A n0 n1 L0 L1 h) : ∃ h' b, pm_ev d 102 [.ref 167, .ref 1] h = some (0, h') ∧ eqi [167, 168] h h' ∧ h' 167 3 = nI (pcn (un (dd h A) b T) 16) ∧ h' 167 4 = nI b ∧ Gd T (okt h) b ∧ ∀ x, Cs T (dd h A) 4 0 0 x → ky (dd h A) T x ≤ ky (dd h A) T b := by
  obtain ⟨d, rfl, -⟩ := dpos hd
  have hT := S.1.1
  have hA := S.2.1.1
  rw [e_X8_find, S.1.2.2.2.1]
  have key : ∀ (n i : Nat) (g : pm_Hp), i + n = T → eqi [167, 168] h g → g 167 1 = nI T → (∀ t, t < i → g 168 t = nI (dd h A t)) → ∃ h' b, pm_rn d kX8_find 10 [.ref 167, .ref 1, .int (nI i)] [] g = some (0, h') ∧ eqi [167, 168] h h' ∧ h' 167 3 = nI (pcn (un (dd h A) b T) 16) ∧ h' 167 4 = nI b ∧ Gd T (okt h) b ∧ ∀ x, Cs T (dd h A) 4 0 0 x → ky (dd h A) T x ≤ ky (dd h A) T b := by
    intro n
    induction n with
    | zero =>
      intro i g hi hg g1 gr
      have hi : i = T := by omega
      subst hi
      have hg3 : eqi [167, 168] h (pm_up (pm_up (pm_up g 167 3 0) 167 2 0) 167 4 0) := ((hg.up (by decide)).up (by decide)).up (by decide)
      have C : CX (dd h A) i (pm_up (pm_up (pm_up g 167 3 0) 167 2 0) 167 4 0) := ⟨by rw [pm_up_j (by decide), pm_up_j (by decide), pm_up_j (by decide)]; exact g1, fun t ht => by rw [pm_up_k (by decide), pm_up_k (by decide), pm_up_k (by decide)]; exact gr t ht⟩
      have B : TB (dd h A) i (pm_up (pm_up (pm_up g 167 3 0) 167 2 0) 167 4 0) 0 := by
        unfold TB
        rw [un_0, pcn_0]
        refine ⟨?_, ?_, ?_⟩
        · rw [pm_up_j (by decide), pm_up_j (by decide), pm_up_s]; rfl
        · rw [pm_up_j (by decide), pm_up_s]; rfl
        · rw [pm_up_s]; rfl
      obtain ⟨g', b', f1, f2, f3, f4, f5, f6, f7⟩ := c_extend (ok := okt h) hT (dd_lt hA) (fun t _ hn => dd_ok hn) 4 d 0 0 0 _ (by omega) (by rw [pcn_0]) (by decide) (by omega) (Gd_0 _ _) (Gd_0 _ _) C B
      rw [un_0, pcn_0] at f1
      have f1 : pm_ev d 103 [.ref 167, .int 0, .int 0, .int 0, .int 0] (pm_up (pm_up (pm_up g 167 3 0) 167 2 0) 167 4 0) = some (0, g') := f1
      refine ⟨g', b', ?_, hg3.tr (f2.mono (by decide)), f4.1, f4.2.2, f5, f7⟩
      rw [b_X8_find_10, g1, if_neg (nI_nlt (by omega) (by omega)), f1, pm_bd_s]
    | succ n ih =>
      intro i g hi hg g1 gr
      have hi' : i < T := by omega
      have S' := S.scr (hg.mono (by decide) : eqi SCR h g)
      have e170 : g 170 = h 170 := hg 170 (by decide)
      have dq : drb g A i = nI (dd h A i) := by
        rw [drb_eq g i (by omega)]
        congr 1
        apply sof_cg
        intro a _
        simp only [clo_eq e170]
      rw [b_X8_find_10, g1, if_pos (nI_lt hi' (by omega)), c_dressedBy (by omega) S'.1 S'.2.1 (S'.2.2.1 i hi') hi', pm_bd_s, pm_at_c (by omega) (by omega), nI_1, dq]
      refine ih (i + 1) _ (by omega) (hg.up (by decide)) (by rw [pm_up_k (by decide)]; exact g1) (fun t ht => ?_)
      by_cases e : t = i
      · subst e; rw [pm_up_s]
      · rw [pm_up_j e]; exact gr t (by omega)
  exact key T 0 _ (by omega) (eqi.rf.up (by decide)) (by rw [pm_up_s]) (fun t ht => absurd ht (Nat.not_lt_zero t))
theorem m_dressedBy {d T R A n0 n1 s : Nat} {L0 L1 : Nat → Ln} {h g : pm_Hp} (hd : 5 ≤ d) (S : St T R A n0 n1 L0 L1 h) (hg : eqi SCR h g) (hr : ∀ t, t < T → g 183 t = nI (dd h A t)) (hs : s < 2 ^ 31) : ∃ r, pm_ev d 275 [.ref 169, .int (nI s)] g = some (r, g) ∧ ((∀ t, t < T → s.testBit t = true → okt h t) → r = nI (un (dd h A) s T)) ∧ (¬ (∀ t, t < T → s.testBit t = true → okt h t) → r = -1) := by
  obtain ⟨d, rfl, -⟩ := dpos hd
  have hT := S.1.1
  have S' := S.scr hg
  have e170 : g 170 = h 170 := hg 170 (by decide)
  rw [e_X10_dressedBy]
  have key : ∀ (n i : Nat), i + n = T → (∀ t, t < i → s.testBit t = true → okt h t) → ∃ r, pm_rn d kX10_dressedBy 4 [.ref 169, .int (nI s), .int (nI (un (dd h A) s i)), .int (nI i)] [] g = some (r, g) ∧ ((∀ t, t < T → s.testBit t = true → okt h t) → r = nI (un (dd h A) s T)) ∧ (¬ (∀ t, t < T → s.testBit t = true → okt h t) → r = -1) := by
    intro n
    induction n with
    | zero =>
      intro i hi ha
      have hi : i = T := by omega
      subst hi
      refine ⟨nI (un (dd h A) s i), ?_, fun _ => rfl, fun q => absurd ha q⟩
      rw [b_X10_dressedBy_4, S'.1.2.2.1, if_neg (nI_nlt (by omega) (by omega))]
    | succ n ih =>
      intro i hi ha
      have hi' : i < T := by omega
      rw [b_X10_dressedBy_4, S'.1.2.2.1, if_pos (nI_lt hi' (by omega)), shr_bit hs (by omega), m_isTrunk_y (by omega) S'.1 hi', pm_bd_s, b2_if0, m_isOut (by omega) S'.1 hi', pm_bd_s, b2_if0, pm_at_c (by omega) (by omega), hr i hi', nI_or, nI_1]
      have us : un (dd h A) s (i + 1) = if s.testBit i = true then un (dd h A) s i ||| dd h A i else un (dd h A) s i := rfl
      have e5 : wq g i 0 = nI 5 ↔ wq h i 0 = nI 5 := by rw [wq_eq e170]
      have ea : aw g i ↔ aw h i := by rw [aw_eq e170]
      by_cases c : s.testBit i = true
      · rw [if_pos c, if_neg (by decide)]
        rw [if_pos c] at us
        have bad : ¬ okt h i → ¬ (∀ t, t < T → s.testBit t = true → okt h t) := fun q z => q (z i hi' c)
        by_cases c5 : wq h i 0 = nI 5
        · rw [if_pos (e5.mpr c5)]
          exact ⟨-1, rfl, fun q => absurd q (bad (fun z => z.1 c5)), fun _ => rfl⟩
        · rw [if_neg (fun q => c5 (e5.mp q))]
          by_cases c6 : aw h i
          · rw [if_pos (ea.mpr c6)]
            exact ⟨-1, rfl, fun q => absurd q (bad (fun z => z.2 c6)), fun _ => rfl⟩
          · rw [if_neg (fun q => c6 (ea.mp q)), ← us]
            refine ih (i + 1) (by omega) (fun t ht hb => ?_)
            by_cases e : t = i
            · subst e; exact ⟨c5, c6⟩
            · exact ha t (by omega) hb
      · rw [if_neg c, if_pos rfl]
        rw [if_neg c] at us
        rw [← us]
        refine ih (i + 1) (by omega) (fun t ht hb => ?_)
        by_cases e : t = i
        · subst e; exact absurd hb c
        · exact ha t (by omega) hb
  exact key T 0 (by omega) (fun t ht => absurd ht (Nat.not_lt_zero t))
theorem q_tour {d T R A n0 n1 : Nat} {L0 L1 : Nat → Ln} {h : pm_Hp} (hd : 11 ≤ d) (S : St T R A n0 n1 L0 L1 h) (v : Int32) : QE d 144 276 [.int v] h := by
  obtain ⟨d, rfl, -⟩ := dpos hd
  have hT := S.1.1
  have hA := S.2.1.1
  have hp : 2 ^ T ≤ 2 ^ 16 := Nat.pow_le_pow_right (by omega) hT
  have hp0 : 0 < 2 ^ T := Nat.two_pow_pos T
  obtain ⟨h1, b1, e1, e2, e3, e4, e5, e6⟩ := c_findW (d := d) (by omega) S
  have s1 : eqi SCR h h1 := e2.mono (by decide)
  have S1 := S.scr s1
  obtain ⟨h2, k1, k2, k3⟩ := m_laysDressed (d := d) (by omega) S1.1 S1.2.1 S1.2.2.1
  have s2 : eqi SCR h h2 := s1.tr (k2.mono (by decide))
  have S2 := S.scr s2
  have k3 : ∀ t, t < T → h2 183 t = nI (dd h A t) := fun t ht => by
    rw [k3 t ht, drb_eq h1 t (by omega)]
    congr 1
    apply sof_cg
    intro a _
    simp only [clo_eq (s1 170 (by decide))]
  have loop : ∀ (n i b : Nat) (u : Value), i + n = 2 ^ T → b < i → Gd T (okt h) b → (∀ y, y < i → Gd T (okt h) y → ky (dd h A) T y ≤ ky (dd h A) T b) → ∃ b', pm_rn d kX10_tour 22 [.ref 169, .int v, .int (nI b), .int (nI (pcn (un (dd h A) b T) 16)), .int (nI i), u] [] h2 = some (if v = 0 then nI (pcn (un (dd h A) b' T) 16) else nI b', h2) ∧ Gd T (okt h) b' ∧ ∀ y, Gd T (okt h) y → ky (dd h A) T y ≤ ky (dd h A) T b' := by
    intro n
    induction n with
    | zero =>
      intro i b u hi hb G O
      refine ⟨b, ?_, G, fun y Gy => O y (by have := Gy.1; omega) Gy⟩
      rw [b_X10_tour_22, S2.1.2.2.1, shl1 T (by omega), if_neg (nI_nlt (by omega) (by omega))]
      by_cases v0 : v = 0
      · rw [if_pos v0, if_pos v0]
      · rw [if_neg v0, if_neg v0]
    | succ n ih =>
      intro i b u hi hb G O
      have hi' : i < 2 ^ T := by omega
      have l1 := pcn_le (un (dd h A) b T) 16
      have l2 := pcn_le (un (dd h A) i T) 16
      have l3 := pcn_le b 16
      have l4 := pcn_le i 16
      have ul := un_lt (D := dd h A) (dd_lt hA) i T
      have skip : ∀ u, (Gd T (okt h) i → ky (dd h A) T i ≤ ky (dd h A) T b) → ∃ b', pm_rn d kX10_tour 22 [.ref 169, .int v, .int (nI b), .int (nI (pcn (un (dd h A) b T) 16)), .int (nI (i + 1)), u] [] h2 = some (if v = 0 then nI (pcn (un (dd h A) b' T) 16) else nI b', h2) ∧ Gd T (okt h) b' ∧ ∀ y, Gd T (okt h) y → ky (dd h A) T y ≤ ky (dd h A) T b' := fun u k => ih (i + 1) b u (by omega) (by omega) G (fun y hy Gy => by
        by_cases e : y = i
        · subst e; exact k Gy
        · exact O y (by omega) Gy)
      have take : ∀ u, Gd T (okt h) i → ky (dd h A) T b ≤ ky (dd h A) T i → ∃ b', pm_rn d kX10_tour 22 [.ref 169, .int v, .int (nI i), .int (nI (pcn (un (dd h A) i T) 16)), .int (nI (i + 1)), u] [] h2 = some (if v = 0 then nI (pcn (un (dd h A) b' T) 16) else nI b', h2) ∧ Gd T (okt h) b' ∧ ∀ y, Gd T (okt h) y → ky (dd h A) T y ≤ ky (dd h A) T b' := fun u Gi k => ih (i + 1) i u (by omega) (by omega) Gi (fun y hy Gy => by
        by_cases e : y = i
        · subst e; exact Nat.le_refl _
        · exact Nat.le_trans (O y (by omega) Gy) k)
      obtain ⟨r, r1, r2, r3⟩ := m_dressedBy (d := d) (s := i) (by omega) S s2 k3 (by omega)
      rw [b_X10_tour_22, S2.1.2.2.1, shl1 T (by omega), if_pos (nI_lt (by omega) (by omega)), m_count (by omega) (by omega), pm_bd_s, len_ite (by omega) (by omega), r1, pm_bd_s, nI_1]
      by_cases c1 : pcn i 16 ≤ 4
      · rw [if_pos c1]
        by_cases c2 : ∀ t, t < T → i.testBit t = true → okt h t
        · have Gi : Gd T (okt h) i := ⟨hi', c1, fun t ht => by
            by_cases l : t < T
            · exact c2 t l ht
            · rw [Nat.testBit_lt_two_pow (Nat.lt_of_lt_of_le hi' (Nat.pow_le_pow_right (by omega) (by omega)))] at ht
              cases ht⟩
          rw [r2 c2, if_neg (by rw [nI_m1 (by omega)]; exact id), m_count (by omega) (by omega), pm_bd_s, ltn_ite (by omega) (by omega), m_count (by omega) (by omega), pm_bd_s, nI_ite (by omega) (by omega), m_count (by omega) (by omega), pm_bd_s, m_count (by omega) (by omega), pm_bd_s, ltn_ite (by omega) (by omega)]
          unfold ky at skip take
          by_cases c3 : pcn (un (dd h A) i T) 16 < pcn (un (dd h A) b T) 16
          · rw [if_pos c3]; exact skip _ (fun _ => by omega)
          · rw [if_neg c3]
            by_cases c4 : pcn (un (dd h A) i T) 16 = pcn (un (dd h A) b T) 16
            · rw [if_pos c4]
              by_cases c5 : pcn i 16 < pcn b 16
              · rw [if_pos c5, m_count (by omega) (by omega), pm_bd_s]; exact take _ Gi (by omega)
              · rw [if_neg c5]; exact skip _ (fun _ => by omega)
            · rw [if_neg c4, m_count (by omega) (by omega), pm_bd_s]; exact take _ Gi (by omega)
        · rw [r3 c2, if_pos rfl]
          exact skip _ (fun Gi => absurd (fun t _ hb => Gi.2.2 t hb) c2)
      · rw [if_neg c1]
        exact skip _ (fun Gi => absurd Gi.2.1 c1)
  obtain ⟨b2', m1, m2, m3⟩ := loop (2 ^ T - 1) 1 0 .null (by omega) (by omega) (Gd_0 _ _) (fun y hy _ => by
    have : y = 0 := by omega
    rw [this]; exact Nat.le_refl _)
  rw [un_0, pcn_0] at m1
  have m1 : pm_rn d kX10_tour 22 [.ref 169, .int v, .int 0, .int 0, .int 1, .null] [] h2 = _ := m1
  have same : b2' = b1 := by
    have x1 := e6 b2' (opt_C hT m2 m3)
    have x2 := m3 b1 e5
    have y1 := m2.1
    have y2 := e5.1
    exact ky_inj (D := dd h A) (T := T) (by omega) (by omega) (by omega)
  subst same
  have isx : (¬ v < 0 ∧ v ≤ 1) ↔ (v = 0 ∨ v = 1) := by
    constructor
    · intro g
      obtain ⟨k, hk, rfl⟩ := kd_ex (n := 1) (by omega) g
      have : k = 0 ∨ k = 1 := by omega
      rcases this with rfl | rfl
      · exact Or.inl rfl
      · exact Or.inr rfl
    · rintro (rfl | rfl) <;> decide
  by_cases v0 : v = 0
  · subst v0
    refine ⟨nI (pcn (un (dd h A) b2' T) 16), h1, h2, ?_, ?_, s2⟩
    · rw [e_X9_tour, if_pos rfl, e1, pm_bd_s, if_pos rfl, e3]
    · rw [e_X10_tour, m_isIn (by omega), pm_bd_s, b2_t (by decide), if_neg (by decide), k1, pm_bd_s, m1, if_pos rfl]
  · by_cases v1 : v = 1
    · subst v1
      refine ⟨nI b2', h1, h2, ?_, ?_, s2⟩
      · rw [e_X9_tour, if_neg v0, if_pos rfl, e1, pm_bd_s, if_neg v0, e4]
      · rw [e_X10_tour, m_isIn (by omega), pm_bd_s, b2_t (by decide), if_neg (by decide), k1, pm_bd_s, m1, if_neg v0]
    · refine QE.mk (r := -1) ?_ ?_
      · rw [e_X9_tour, if_neg v0, if_neg v1]
      · rw [e_X10_tour, m_isIn (by omega), pm_bd_s, b2_f (fun z => by rcases isx.mp z with z | z <;> contradiction), if_pos rfl]
