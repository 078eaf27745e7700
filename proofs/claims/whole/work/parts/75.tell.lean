def nrow (v1 v2 : Int32) (f : Nat) : Int32 := if f = 0 then v1 else if f = 1 then v2 else if f = 5 ∨ f = 6 ∨ f = 7 then -1 else 0
theorem m_thgL {d T : Nat} {h : pm_Hp} {v1 v2 : Int32} (hd : 2 ≤ d) (hT : T ≤ 15) (e : h 170 324 = nI T) : ∃ hy, pm_rn d kX10_thing 46 [.ref 169, .int v1, .int v2, .int (nI T), .int 0] [] h = some (nI T, pm_up hy 169 3 0) ∧ (∀ k, k ≠ 170 → hy k = h k) ∧ hy 170 324 = nI (T + 1) ∧ (∀ f, f < 20 → hy 170 (4 + 20 * T + f) = nrow v1 v2 f) ∧ ∀ j, j ≠ 324 → (j < 4 + 20 * T ∨ 24 + 20 * T ≤ j) → hy 170 j = h 170 j := by
  have key : ∀ (n i : Nat) (g : pm_Hp), i + n = 20 → (∀ k, k ≠ 170 → g k = h k) → g 170 324 = nI T → (∀ f, f < i → g 170 (4 + 20 * T + f) = 0) → (∀ j, j ≠ 324 → (j < 4 + 20 * T ∨ 24 + 20 * T ≤ j) → g 170 j = h 170 j) → ∃ hy, pm_rn d kX10_thing 46 [.ref 169, .int v1, .int v2, .int (nI T), .int (nI i)] [] g = some (nI T, pm_up hy 169 3 0) ∧ (∀ k, k ≠ 170 → hy k = h k) ∧ hy 170 324 = nI (T + 1) ∧ (∀ f, f < 20 → hy 170 (4 + 20 * T + f) = nrow v1 v2 f) ∧ ∀ j, j ≠ 324 → (j < 4 + 20 * T ∨ 24 + 20 * T ≤ j) → hy 170 j = h 170 j := by
    intro n
    induction n with
    | zero =>
      intro i g hi g1 g2 g3 g4
      have hi : i = 20 := by omega
      subst hi
      rw [b_X10_thing_46, if_neg (nI_nlt (by omega) (by omega)), m_things (by omega) _ (nI T) 0 v1 T 0 rfl rfl (by omega) (by omega), pm_bd_s, m_things (by omega) _ (nI T) 1 v2 T 1 rfl rfl (by omega) (by omega), pm_bd_s, m_things (by omega) _ (nI T) (nI 5) (-1) T 5 rfl rfl (by omega) (by omega), pm_bd_s, m_things (by omega) _ (nI T) (nI 6) (-1) T 6 rfl rfl (by omega) (by omega), pm_bd_s, m_things (by omega) _ (nI T) (nI 7) (-1) T 7 rfl rfl (by omega) (by omega), pm_bd_s, pm_up_j (by omega), pm_up_j (by omega), pm_up_j (by omega), pm_up_j (by omega), pm_up_j (by omega), g2, nI_1, m_forgets (by omega), pm_bd_s]
      refine ⟨_, rfl, fun k hk => ?_, pm_up_s, fun f hf => ?_, fun j h1 h2 => ?_⟩
      · rw [pm_up_n hk, pm_up_n hk, pm_up_n hk, pm_up_n hk, pm_up_n hk, pm_up_n hk]; exact g1 k hk
      · unfold nrow
        rw [pm_up_j (by omega)]
        by_cases e7 : f = 7
        · rw [e7, pm_up_s]; rfl
        · rw [pm_up_j (by omega)]
          by_cases e6 : f = 6
          · rw [e6, pm_up_s]; rfl
          · rw [pm_up_j (by omega)]
            by_cases e5 : f = 5
            · rw [e5, pm_up_s]; rfl
            · rw [pm_up_j (by omega)]
              by_cases e1 : f = 1
              · rw [e1, pm_up_s]; rfl
              · rw [pm_up_j (by omega)]
                by_cases e0 : f = 0
                · rw [e0, pm_up_s]; rfl
                · rw [pm_up_j (by omega), g3 f hf, if_neg e0, if_neg e1, if_neg (by omega)]
      · rw [pm_up_j h1, pm_up_j (by omega), pm_up_j (by omega), pm_up_j (by omega), pm_up_j (by omega), pm_up_j (by omega)]; exact g4 j h1 h2
    | succ n ih =>
      intro i g hi g1 g2 g3 g4
      rw [b_X10_thing_46, if_pos (nI_lt (by omega) (by omega)), m_things (by omega) _ (nI T) (nI i) 0 T i rfl rfl (by omega) (by omega), pm_bd_s, nI_1]
      refine ih (i + 1) _ (by omega) (fun k hk => by rw [pm_up_n hk]; exact g1 k hk) (by rw [pm_up_j (by omega)]; exact g2) (fun f hf => ?_) (fun j h1 h2 => by rw [pm_up_j (by omega)]; exact g4 j h1 h2)
      by_cases e : f = i
      · rw [e, pm_up_s]
      · rw [pm_up_j (by omega)]; exact g3 f (by omega)
  exact key 20 0 h (by omega) (fun _ _ => rfl) e (fun m hm => absurd hm (Nat.not_lt_zero m)) (fun _ _ _ => rfl)
theorem DF.row {T A t f : Nat} {h : pm_Hp} (D : DF T A h) (h1 : T ≤ t) (h2 : t < 16) (f2 : 2 ≤ f) (hf : f < 20) (f9 : f ≠ 9) : h (ta f) (tj f t) = if f = 5 ∨ f = 6 ∨ f = 7 then -1 else 0 := by
  obtain ⟨g1, g2, g3, g4, g5, g6, g7, g8⟩ := D.1 t h1 h2
  by_cases a : f < 9
  · have : f = 2 ∨ f = 3 ∨ f = 4 ∨ f = 5 ∨ f = 6 ∨ f = 7 ∨ f = 8 := by omega
    rcases this with rfl | rfl | rfl | rfl | rfl | rfl | rfl
    · exact g1
    · exact g2
    · exact g3
    · exact g4
    · exact g5
    · exact g6
    · exact g7
  · rw [if_neg (by omega)]
    by_cases b : f < 15
    · rw [ta_13 (by omega) b, tj_13 (by omega) b]; exact (g8 _ (by omega)).2
    · rw [ta_10 (by omega), tj_10 (by omega)]; exact (g8 _ (by omega)).1
theorem nb0 (k : Nat) : nb 0 k := ⟨0, by omega, rfl⟩
theorem FK.new {T R A : Nat} {h h' : pm_Hp} {v1 v2 : Int32} (K : FK T R A h) (hT : T < 16) (w : ∀ j, (j < 4 + 20 * T ∨ (24 + 20 * T ≤ j ∧ j < 396)) → j ≠ 324 → h' 170 j = h 170 j) (wr : ∀ f, f < 20 → h' 170 (4 + 20 * T + f) = nrow v1 v2 f) (w4 : h' 170 324 = nI (T + 1)) (c11 : h' 1 11 = nI (T + 1)) (c13 : h' 1 13 = h 1 13) (cc : ∀ t f, t < 16 → f < 20 → f ≠ 9 → h' (ta f) (tj f t) = if t = T ∧ f = 1 then v2 else if t = T ∧ f = 0 then v1 else h (ta f) (tj f t)) (o14 : h' 14 = h 14) (o15 : h' 15 = h 15) (o2 : h' 2 = h 2) (n1 : nb v1 5) (n2 : nb v2 20) : FK (T + 1) R A h' := by
  obtain ⟨P, W, S, D, U⟩ := K
  obtain ⟨p1, p2, p3, p4, p5, p6, p7, p8, p9, rk, p10⟩ := P
  have ew : ∀ t f, t < T → f < 20 → wq h' t f = wq h t f := fun t f ht hf => w _ (by omega) (by omega)
  have er : ∀ f, f < 20 → wq h' T f = nrow v1 v2 f := wr
  have nT : ∀ t, t < T → wq h t 5 ≠ nI (10 + T) := fun t ht e => by
    rcases p9 t ht with a | ⟨r, hr, a⟩ | ⟨p, hp, a, -⟩ | a
    · rw [a, nI_m1' (by omega)] at e; exact e
    · rw [a] at e
      have := (nI_eq (by omega) (by omega)).mp e
      omega
    · rw [a] at e
      have := (nI_eq (by omega) (by omega)).mp e
      omega
    · rw [a] at e
      have := (nI_eq (by omega) (by omega)).mp e
      omega
  refine ⟨⟨by omega, p2, w4, c11, by rw [w _ (by omega) (by omega)]; exact p5, by rw [c13]; exact p6, fun t f h1 h2 h9 => ?_, fun r hr => ?_, fun t h1 => ?_, fun t => if t = T then 0 else rk t, fun t h1 => ?_⟩, fun t h1 => ?_, ?_, ?_, fun t h1 hn => ?_⟩
  · rw [cc t f (by omega) h2 h9]
    by_cases e : t = T
    · subst e
      rw [er f h2]
      unfold nrow
      by_cases e1 : f = 1
      · rw [if_pos ⟨rfl, e1⟩, if_neg (by omega), if_pos e1]
      · rw [if_neg (fun z => e1 z.2)]
        by_cases e0 : f = 0
        · rw [if_pos ⟨rfl, e0⟩, if_pos e0]
        · rw [if_neg (fun z => e0 z.2), if_neg e0, if_neg e1]
          exact D.row (Nat.le_refl _) hT (by omega) h2 h9
    · rw [if_neg (fun z => e z.1), if_neg (fun z => e z.1), ew t f (by omega) h2]
      exact p7 t f (by omega) h2 h9
  · rw [o15, w _ (by omega) (by omega)]; exact p8 r hr
  · by_cases e : t = T
    · subst e
      exact Or.inl (er 5 (by omega))
    · unfold HD
      rw [ew t 5 (by omega) (by omega)]
      rcases p9 t (by omega) with a | a | ⟨p, hp, a, b⟩ | a
      · exact Or.inl a
      · exact Or.inr (Or.inl a)
      · exact Or.inr (Or.inr (Or.inl ⟨p, by omega, a, by rw [ew p 0 hp (by omega)]; exact b⟩))
      · exact Or.inr (Or.inr (Or.inr a))
  · by_cases e : t = T
    · subst e
      simp only [if_true]
      rw [er 5 (by omega)]
      refine ⟨by omega, fun _ => by omega, fun p hp q => ?_, fun _ => trivial⟩
      have : (-1 : Int32) = nI (10 + p) := q
      rw [nI_m1' (by omega)] at this
      exact absurd this id
    · simp only [if_neg e]
      rw [ew t 0 (by omega) (by omega), ew t 5 (by omega) (by omega)]
      obtain ⟨k1, k2, k3, k4⟩ := p10 t (by omega)
      refine ⟨k1, k2, fun p hp q => ?_, fun q => k4 (fun p hp => q p (by omega))⟩
      have pT : p ≠ T := fun z => nT t (by omega) (z ▸ q)
      rw [if_neg pT]
      exact k3 p (by omega) q
  · by_cases e : t = T
    · subst e
      refine ⟨by rw [er 0 (by omega)]; exact n1, by rw [er 1 (by omega)]; exact n2, by rw [er 2 (by omega)]; exact nb0 _, by rw [er 3 (by omega)]; exact nb0 _, by rw [er 4 (by omega)]; exact nb0 _, by rw [er 8 (by omega)]; exact nb0 _, fun m hm => ?_⟩
      rw [er (10 + m) (by omega), er (15 + m) (by omega)]
      unfold nrow
      rw [if_neg (by omega), if_neg (by omega), if_neg (by omega), if_neg (by omega), if_neg (by omega), if_neg (by omega)]
      exact ⟨nb0 _, nb0 _, Iff.rfl⟩
    · exact (W t (by omega)).to (fun f hf => ew t f (by omega) hf)
  · exact S.rg (fun j hj => w j (by omega) (by omega)) (fun j _ _ => by rw [o2])
  · exact D.to (by omega) (fun t f h1 h2 h3 h4 h5 => by rw [cc t f h2 h4 h5, if_neg (by omega), if_neg (by omega)]) o14
  · by_cases e : t = T
    · subst e
      rw [er 7 (by omega), er 8 (by omega)]
      exact ⟨rfl, rfl⟩
    · rw [ew t 5 (by omega) (by omega)] at hn
      rw [ew t 7 (by omega) (by omega), ew t 8 (by omega) (by omega)]
      exact U t (by omega) hn
theorem q_thing {d T R A n0 n1 q N M c nx : Nat} {L0 L1 : Nat → Ln} {h : pm_Hp} (hd : 4 ≤ d) (F : FS T R A n0 n1 q N M L0 L1 h) (Z : KR T R A c nx h) (I : IM h) (v1 v2 : Int32) : MU d 107 170 [.int v1, .int v2] h := by
  obtain ⟨d, rfl, -⟩ := dpos hd
  have P := F.1.1
  have hT := P.1
  by_cases g1 : ¬ v1 < 0 ∧ v1 ≤ nI 5
  · by_cases g2 : ¬ v2 < 0 ∧ v2 ≤ nI 20
    · by_cases g : T < 16
      · have e1 : pm_ev (d + 1) 107 [.ref 0, .int v1, .int v2] h = some (nI T, tl (pm_up (pm_up (pm_up h 11 T v1) 12 T v2) 1 11 (nI (T + 1)))) := by
          rw [e_X9_thing, c_isKind (by omega), pm_bd_s, b2_t g1, if_neg (by decide), if_neg g2.1, if_pos g2.2, P.2.2.2.1, if_pos (nI_lt g (by omega)), pm_at_c (by omega) (by omega), pm_at_c (by omega) (by omega), c_forget (by omega), pm_bd_s, nI_1]
        have z : ∀ k, k ≠ 1 → k ≠ 11 → k ≠ 12 → k ≠ 77 → k ≠ 150 → tl (pm_up (pm_up (pm_up h 11 T v1) 12 T v2) 1 11 (nI (T + 1))) k = h k := fun k b1 b4 b5 b2 b3 => by rw [tl_k b2 b3, pm_up_n b1, pm_up_n b5, pm_up_n b4]
        obtain ⟨hy, f1, f2, f3, f4, f5⟩ := m_thgL (d := d) (T := T) (v1 := v1) (v2 := v2) (h := tl (pm_up (pm_up (pm_up h 11 T v1) 12 T v2) 1 11 (nI (T + 1)))) (by omega) (by omega) (by rw [z 170 (by omega) (by omega) (by omega) (by omega) (by omega)]; exact P.2.2.1)
        rw [z 170 (by omega) (by omega) (by omega) (by omega) (by omega)] at f5
        have e2 : pm_ev (d + 1) 170 [.ref 169, .int v1, .int v2] (tl (pm_up (pm_up (pm_up h 11 T v1) 12 T v2) 1 11 (nI (T + 1)))) = some (nI T, pm_up hy 169 3 0) := by
          rw [e_X10_thing, m_isIn (by omega), pm_bd_s, b2_t g1, if_neg (by decide), m_isIn (by omega), pm_bd_s, b2_t g2, if_neg (by decide), z 170 (by omega) (by omega) (by omega) (by omega) (by omega), P.2.2.1, nI_ite (by omega) (by omega), if_neg (by omega), f1]
        have w : ∀ j, j ≠ 324 → (j < 4 + 20 * T ∨ 24 + 20 * T ≤ j) → (pm_up hy 169 3 0) 170 j = h 170 j := fun j h1 h2 => by rw [pm_up_k (by omega)]; exact f5 j h1 h2
        have cx : ∀ k, k ≠ 77 → k ≠ 150 → k ≠ 169 → k ≠ 170 → (pm_up hy 169 3 0) k = pm_up (pm_up (pm_up h 11 T v1) 12 T v2) 1 11 (nI (T + 1)) k := fun k b2 b3 b4 b5 => by rw [pm_up_n b4, f2 k b5, tl_k b2 b3]
        have cc : ∀ k, k ≠ 1 → k ≠ 11 → k ≠ 12 → k ≠ 77 → k ≠ 150 → k ≠ 169 → k ≠ 170 → (pm_up hy 169 3 0) k = h k := fun k b1 b6 b7 b2 b3 b4 b5 => by rw [cx k b2 b3 b4 b5, pm_up_n b1, pm_up_n b7, pm_up_n b6]
        have c1 : ∀ j, j ≠ 11 → (pm_up hy 169 3 0) 1 j = h 1 j := fun j hj => by rw [cx 1 (by omega) (by omega) (by omega) (by omega), pm_up_j hj, pm_up_k (by omega), pm_up_k (by omega)]
        have t := TELL (T' := T + 1) (R' := R) (A' := A) F Z I (hx := pm_up (pm_up (pm_up h 11 T v1) 12 T v2) 1 11 (nI (T + 1))) (hy := hy) (fun k hk => by rw [pm_up_n (by omega), pm_up_n (by omega), pm_up_n (by omega)]) (by rw [pm_up_j (by omega), pm_up_k (by omega), pm_up_k (by omega)]) f2 (fun j hj => f5 j (by omega) (by omega)) (Nat.le_refl _) (F.1.new g (fun j h1 h2 => w j h2 (by omega)) (fun f hf => by rw [pm_up_k (by omega)]; exact f4 f hf) (by rw [pm_up_k (by omega)]; exact f3) (by rw [cx 1 (by omega) (by omega) (by omega) (by omega), pm_up_s]) (c1 13 (by omega)) (fun t f ht hf h9 => ?_) (cc 14 (by omega) (by omega) (by omega) (by omega) (by omega) (by omega) (by omega)) (cc 15 (by omega) (by omega) (by omega) (by omega) (by omega) (by omega) (by omega)) (cc 2 (by omega) (by omega) (by omega) (by omega) (by omega) (by omega) (by omega)) (kd_ex (by omega) g1) (kd_ex (by omega) g2)) (F.2.1.rg (fun j h1 h2 => w j (by omega) (by omega)) (w _ (by omega) (by omega)) (c1 12 (by omega)) (fun j _ => by rw [cc 14 (by omega) (by omega) (by omega) (by omega) (by omega) (by omega) (by omega)]))
        · exact ⟨nI T, _, _, e1, e2, t.1, Or.inr t.2⟩
        · have := ta_in f hf h9
          simp only [List.mem_cons, List.not_mem_nil, or_false] at this
          rw [cx (ta f) (by omega) (by omega) (by omega) (by omega), up_o (by omega) hf h9]
          have ex : pm_up (pm_up h 11 T v1) 12 T v2 = pm_up (pm_up h (ta 0) (tj 0 T) v1) (ta 1) (tj 1 T) v2 := rfl
          rw [ex, up_c hf h9 (by omega) (by omega), up_c hf h9 (by omega) (by omega)]
      · have : T = 16 := by omega
        subst this
        refine MU.no (r := -1) ?_ ?_
        · rw [e_X9_thing, c_isKind (by omega), pm_bd_s, b2_t g1, if_neg (by decide), if_neg g2.1, if_pos g2.2, P.2.2.2.1, if_neg (nI_nlt (by omega) (by omega))]
        · rw [e_X10_thing, m_isIn (by omega), pm_bd_s, b2_t g1, if_neg (by decide), m_isIn (by omega), pm_bd_s, b2_t g2, if_neg (by decide), P.2.2.1, if_pos rfl]
    · refine MU.no (r := -1) ?_ ?_
      · rw [e_X9_thing, c_isKind (by omega), pm_bd_s, b2_t g1, if_neg (by decide)]
        by_cases a : v2 < 0
        · rw [if_pos a]
        · rw [if_neg a, if_neg (fun b => g2 ⟨a, b⟩)]
      · rw [e_X10_thing, m_isIn (by omega), pm_bd_s, b2_t g1, if_neg (by decide), m_isIn (by omega), pm_bd_s, b2_f g2, if_pos rfl]
  · refine MU.no (r := -1) ?_ ?_
    · rw [e_X9_thing, c_isKind (by omega), pm_bd_s, b2_f g1, if_pos rfl]
    · rw [e_X10_thing, m_isIn (by omega), pm_bd_s, b2_f g1, if_pos rfl]
theorem q_undo {d T R A n0 n1 q N M c nx : Nat} {L0 L1 : Nat → Ln} {h : pm_Hp} (hd : 6 ≤ d) (F : FS T R A n0 n1 q N M L0 L1 h) (Z : KR T R A c nx h) (I : IM h) : MU d 126 229 [] h := by
  have Z' := Z
  obtain ⟨hc, hn, z1, z2, z3, z4⟩ := Z
  by_cases c0 : c = 0
  · subst c0
    exact MU.no (c_undo0 hd z2) (m_undo0 (by omega) z3)
  · obtain ⟨h1, e1, C⟩ := c_undo (d := d) hd hc (by omega) hn z1 z2
    obtain ⟨h2, e2, m1, m2, m3, m4, m5⟩ := m_undo (d := d) (c := c) (h := h1) (by omega) hc (by omega) (by rw [C.1 169 (by omega) (by omega) (by omega)]; exact z3)
    obtain ⟨K, KR2⟩ := Z'.undo (by omega) C m1 m2 m4 m5
    have cc : ∀ k, (k < 2 ∨ 11 ≤ k) → k ≠ 77 → k ≠ 150 → k ≠ 169 → k ≠ 170 → h2 k = h k := fun k a b e f g => (m1 k f g).trans (C.1 k a b e)
    have w : ∀ x, 324 ≤ x → h2 170 x = h 170 x := fun x hx => (m5 x hx).trans (by rw [C.1 170 (by omega) (by omega) (by omega)])
    have m3' : ∀ j, j ≠ 3 → h2 169 j = h 169 j := fun j hj => (m3 j hj).trans (by rw [C.1 169 (by omega) (by omega) (by omega)])
    refine ⟨1, h1, h2, e1, e2, ⟨fun k a b => cc k (by omega) (by omega) (by omega) (by omega) (by omega), fun k a b => cc k (by omega) (by omega) (by omega) (by omega) (by omega), fun j a _ => m3' j a⟩, Or.inr ⟨?_, ⟨T, R, A, n0, n1, q, N, M, L0, L1, F.k K ?_ ?_ (Nat.le_refl _) (fun j hj => w j (by omega)) (fun k a b _ _ => cc k (by omega) (by omega) (by omega) (by omega) (by omega)) (by rw [cc 1 (by omega) (by omega) (by omega) (by omega) (by omega)]), _, _, KR2⟩, I.ag (fun k a b => cc k (by omega) (by omega) (by omega) (by omega) (by omega)) (cc 171 (by omega) (by omega) (by omega) (by omega) (by omega)) (by rw [cc 0 (by omega) (by omega) (by omega) (by omega) (by omega)]) (m3' 4 (by omega))⟩⟩
    · rw [m1 150 (by omega) (by omega)]; exact C.2.2.2.2.1
    · exact F.2.1.rg (fun j h1 h2 => w j (by omega)) (w _ (by omega)) (by rw [cc 1 (by omega) (by omega) (by omega) (by omega) (by omega)]) (fun j _ => by rw [cc 14 (by omega) (by omega) (by omega) (by omega) (by omega)])
    · exact F.2.2.2.2.2.2.rg (fun j h1 h2 => w j (by omega)) (cc 16 (by omega) (by omega) (by omega) (by omega) (by omega))
/-! wish and image: the plan stays -/
def KQ (h h2 : pm_Hp) : Prop := (∀ T R A n0 n1 q N M L0 L1, FS T R A n0 n1 q N M L0 L1 h → ∃ q', FS T R A n0 n1 q' N M L0 L1 h2) ∧ (∀ T R A c nx, KR T R A c nx h → KR T R A c nx h2) ∧ IM h2 ∧ (∀ k, 150 ≤ k → k ≤ 164 → h2 k = h k) ∧ ∀ x, x < 2644 → x ≠ 331 → h2 170 x = h 170 x
def MK (d c m : Nat) (a : List Value) (h : pm_Hp) : Prop := ∃ r h1 h2, pm_ev d c (.ref 0 :: a) h = some (r, h1) ∧ pm_ev d m (.ref 169 :: a) h1 = some (r, h2) ∧ rest h h2 ∧ (eqi SCR h h2 ∨ (h2 150 0 = 0 ∧ IV0 h2) ∨ KQ h h2)
theorem MU.k {d c m : Nat} {a : List Value} {h : pm_Hp} (u : MU d c m a h) : MK d c m a h := by
  obtain ⟨r, h1, h2, e1, e2, e3, e4⟩ := u
  refine ⟨r, h1, h2, e1, e2, e3, ?_⟩
  rcases e4 with e | e
  · exact Or.inl e
  · exact Or.inr (Or.inl e)
theorem QE.k {d c m : Nat} {a : List Value} {h : pm_Hp} (u : QE d c m a h) : MK d c m a h := by
  obtain ⟨r, h1, h2, e1, e2, e3⟩ := u
  exact ⟨r, h1, h2, e1, e2, rest.scr e3, Or.inl e3⟩
theorem FS.ws {T R A n0 n1 q N M q' : Nat} {L0 L1 : Nat → Ln} {h h' : pm_Hp} (F : FS T R A n0 n1 q N M L0 L1 h) (W' : WS q' h') (c : ∀ k, k ≠ 1 → k ≠ 17 → k ≠ 170 → h' k = h k) (c1 : ∀ j, j ≠ 14 → h' 1 j = h 1 j) (w : ∀ x, x < 2644 → x ≠ 331 → h' 170 x = h 170 x) : FS T R A n0 n1 q' N M L0 L1 h' := by
  obtain ⟨f1, f2, f3, f4, f5, f6, f7⟩ := F
  refine ⟨f1.ag ⟨fun x hx => w x (by omega) (by omega), ⟨w _ (by omega) (by omega), w _ (by omega) (by omega)⟩, fun r hr => w _ (by omega) (by omega), ⟨c1 11 (by omega), c1 13 (by omega)⟩, fun r hr => by rw [c 15 (by omega) (by omega) (by omega)], fun j h1 h2 => by rw [c 2 (by omega) (by omega) (by omega)], fun k j h1 h2 h3 h4 => by rw [c k (by omega) (by omega) (by omega)], fun j hj => ⟨by rw [c 10 (by omega) (by omega) (by omega)], by rw [c 13 (by omega) (by omega) (by omega)]⟩, fun j hj => by rw [c 14 (by omega) (by omega) (by omega)]⟩, f2.rg (fun j h1 h2 => w j (by omega) (by omega)) (w _ (by omega) (by omega)) (c1 12 (by omega)) (fun j _ => by rw [c 14 (by omega) (by omega) (by omega)]), f3.rg (by omega) (fun j h1 h2 => w j h2 (by omega)) (w _ (by omega) (by omega)) (by rw [c 18 (by omega) (by omega) (by omega)]) (fun j hj => c _ (by omega) (by omega) (by omega)), f4.rg (by omega) (fun j h1 h2 => w j h2 (by omega)) (w _ (by omega) (by omega)) (by rw [c 25 (by omega) (by omega) (by omega)]) (fun j hj => c _ (by omega) (by omega) (by omega)), f5.rg (fun j h1 h2 => w j (by omega) (by omega)) (w _ (by omega) (by omega)) (w _ (by omega) (by omega)) (fun k h1 h2 => c k (by omega) (by omega) (by omega)), W', f7.rg (fun j h1 h2 => w j (by omega) (by omega)) (c 16 (by omega) (by omega) (by omega))⟩
theorem KQ.ws {h h2 : pm_Hp} (I : IM h) (W : ∀ q, WS q h → ∃ q', WS q' h2) (c : ∀ k, k ≠ 1 → k ≠ 17 → k ≠ 170 → h2 k = h k) (c1 : ∀ j, j ≠ 14 → h2 1 j = h 1 j) (w : ∀ x, x < 2644 → x ≠ 331 → h2 170 x = h 170 x) : KQ h h2 := by
  refine ⟨fun T R A n0 n1 q N M L0 L1 F => ?_, fun T R A c' nx Z => Z.fr (fun k a b => c k (by omega) (by omega) (by omega)) (by rw [c 169 (by omega) (by omega) (by omega)]) (c 172 (by omega) (by omega) (by omega)) ⟨c1 11 (by omega), c1 13 (by omega)⟩ (fun k a b => c k (by omega) (by omega) (by omega)) (fun x a b e => w x (by omega) e), I.ag (fun k a b => c k (by omega) (by omega) (by omega)) (c 171 (by omega) (by omega) (by omega)) (by rw [c 0 (by omega) (by omega) (by omega)]) (by rw [c 169 (by omega) (by omega) (by omega)]), fun k a b => c k (by omega) (by omega) (by omega), w⟩
  obtain ⟨q', W'⟩ := W q F.2.2.2.2.2.1
  exact ⟨q', F.ws W' c c1 w⟩
