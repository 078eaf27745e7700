theorem q_wish {d T R A n0 n1 q N M : Nat} {L0 L1 : Nat → Ln} {h : pm_Hp} (hd : 4 ≤ d) (F : FS T R A n0 n1 q N M L0 L1 h) (I : IM h) (v1 v2 v3 v4 : Int32) : MK d 114 285 [.int v1, .int v2, .int v3, .int v4] h := by
  obtain ⟨d, rfl, -⟩ := dpos hd
  have P := F.1.1
  have hT := P.1
  obtain ⟨q10, s1, s2, s3⟩ := F.2.2.2.2.2.1
  by_cases g0 : v1 = -1
  · refine ⟨0, pm_up h 1 14 0, pm_up (pm_up h 1 14 0) 170 331 0, ?_, ?_, ⟨fun k a b => ?_, fun k a b => ?_, fun j a b => ?_⟩, Or.inr (Or.inr (KQ.ws I (fun _ _ => ⟨0, ?_⟩) (fun k a b e => ?_) (fun j hj => ?_) (fun x a b => ?_)))⟩
    · rw [e_X9_wish, if_pos g0]
    · rw [e_X10_wish, if_pos g0]
    · rw [pm_up_n (by omega), pm_up_n (by omega)]
    · rw [pm_up_n (by omega), pm_up_n (by omega)]
    · rw [pm_up_k (by omega), pm_up_k (by omega)]
    · exact ⟨by omega, by rw [pm_up_k (by omega), pm_up_s]; rfl, by rw [pm_up_s]; rfl, fun i k hi => absurd hi (Nat.not_lt_zero i)⟩
    · rw [pm_up_n e, pm_up_n a]
    · rw [pm_up_k (by omega), pm_up_j hj]
    · rw [pm_up_j b, pm_up_k (by omega)]
  · by_cases g1 : isT T v1
    · by_cases g2 : ¬ v2 < 0 ∧ v2 ≤ nI 9999
      · by_cases g3 : ¬ v3 < 1 ∧ v3 ≤ nI 99
        · by_cases g4 : ¬ v4 < 0 ∧ v4 ≤ nI 9999
          · by_cases g : q < 10
            · have e1 : pm_ev (d + 1) 114 [.ref 0, .int v1, .int v2, .int v3, .int v4] h = some (nI (q + 1), pm_up (pm_up (pm_up (pm_up (pm_up h 17 (q * 4) v1) 17 (q * 4 + 1) v2) 17 (q * 4 + 2) v3) 17 (q * 4 + 3) v4) 1 14 (nI (q + 1))) := by
                rw [e_X9_wish, if_neg g0, c_isThing (by omega) P.2.2.2.1, pm_bd_s, b2_t g1, if_neg (by decide), if_neg g2.1, if_pos g2.2, if_neg g3.1, if_pos g3.2, if_neg g4.1, if_pos g4.2, s1, if_pos (nI_lt g (by omega)), pm_at_n (j := q * 4) (by rw [pk_mul]) (by omega) (by omega), pm_at_n (j := q * 4 + 1) (by rw [pk_mul, nI_1]) (by omega) (by omega), pm_at_n (j := q * 4 + 2) (by rw [pk_mul, nI_add]) (by omega) (by omega), pm_at_n (j := q * 4 + 3) (by rw [pk_mul, nI_add]) (by omega) (by omega), nI_1]
              have z : ∀ k, k ≠ 1 → k ≠ 17 → pm_up (pm_up (pm_up (pm_up (pm_up h 17 (q * 4) v1) 17 (q * 4 + 1) v2) 17 (q * 4 + 2) v3) 17 (q * 4 + 3) v4) 1 14 (nI (q + 1)) k = h k := fun k a b => by rw [pm_up_n a, pm_up_n b, pm_up_n b, pm_up_n b, pm_up_n b]
              generalize hz : pm_up (pm_up (pm_up (pm_up (pm_up h 17 (q * 4) v1) 17 (q * 4 + 1) v2) 17 (q * 4 + 2) v3) 17 (q * 4 + 3) v4) 1 14 (nI (q + 1)) = y at e1 z
              have e2 : pm_ev (d + 1) 285 [.ref 169, .int v1, .int v2, .int v3, .int v4] y = some (nI (q + 1), pm_up (pm_up (pm_up (pm_up (pm_up y 170 (2644 + 4 * q) v1) 170 (2644 + 4 * q + 1) v2) 170 (2644 + 4 * q + 2) v3) 170 (2644 + 4 * q + 3) v4) 170 331 (nI (q + 1))) := by
                have y331 : y 170 331 = nI q := by rw [z 170 (by omega) (by omega)]; exact s2
                rw [e_X10_wish, if_neg g0, m_isThing (by omega) (by rw [z 170 (by omega) (by omega)]; exact P.2.2.1) hT, pm_bd_s, b2_t g1, if_neg (by decide), m_isIn (by omega), pm_bd_s, b2_t g2, if_neg (by decide), m_isIn (by omega), pm_bd_s, b2_t g3, if_neg (by decide), m_isIn (by omega), pm_bd_s, b2_t g4, if_neg (by decide), y331, nI_ite (by omega) (by omega), if_neg (by omega), pm_at_n (j := 2644 + 4 * q) (by rw [pk_mul, nI_add]) (by omega) (by omega), pm_at_n (j := 2644 + 4 * q + 1) (by rw [pk_mul, nI_add, nI_1]) (by omega) (by omega), pm_at_n (j := 2644 + 4 * q + 2) (by rw [pk_mul, nI_add, nI_add]) (by omega) (by omega), pm_at_n (j := 2644 + 4 * q + 3) (by rw [pk_mul, nI_add, nI_add]) (by omega) (by omega), pm_up_j (by omega), pm_up_j (by omega), pm_up_j (by omega), pm_up_j (by omega), y331, nI_1]
              refine ⟨nI (q + 1), _, _, e1, e2, ⟨fun k a b => ?_, fun k a b => ?_, fun j a b => ?_⟩, Or.inr (Or.inr (KQ.ws I (fun _ _ => ⟨q + 1, ?_⟩) (fun k a b e => ?_) (fun j hj => ?_) (fun x a b => ?_)))⟩
              · rw [pm_up_n (by omega), pm_up_n (by omega), pm_up_n (by omega), pm_up_n (by omega), pm_up_n (by omega), z k (by omega) (by omega)]
              · rw [pm_up_n (by omega), pm_up_n (by omega), pm_up_n (by omega), pm_up_n (by omega), pm_up_n (by omega), z k (by omega) (by omega)]
              · rw [pm_up_k (by omega), pm_up_k (by omega), pm_up_k (by omega), pm_up_k (by omega), pm_up_k (by omega), z 169 (by omega) (by omega)]
              · refine ⟨by omega, ?_, pm_up_s, fun i k hi hk => ?_⟩
                · rw [pm_up_k (by omega), pm_up_k (by omega), pm_up_k (by omega), pm_up_k (by omega), pm_up_k (by omega), ← hz, pm_up_s]
                · have l : (pm_up (pm_up (pm_up (pm_up (pm_up y 170 (2644 + 4 * q) v1) 170 (2644 + 4 * q + 1) v2) 170 (2644 + 4 * q + 2) v3) 170 (2644 + 4 * q + 3) v4) 170 331 (nI (q + 1))) 17 (i * 4 + k) = pm_up (pm_up (pm_up (pm_up h 17 (q * 4) v1) 17 (q * 4 + 1) v2) 17 (q * 4 + 2) v3) 17 (q * 4 + 3) v4 17 (i * 4 + k) := by
                    rw [pm_up_k (by omega), pm_up_k (by omega), pm_up_k (by omega), pm_up_k (by omega), pm_up_k (by omega), ← hz, pm_up_k (by omega)]
                  rw [l, pm_up_j (show 2644 + 4 * i + k ≠ 331 by omega)]
                  by_cases e : i = q
                  · subst e
                    have : k = 0 ∨ k = 1 ∨ k = 2 ∨ k = 3 := by omega
                    rcases this with rfl | rfl | rfl | rfl
                    · rw [pm_up_j (by omega), pm_up_j (by omega), pm_up_j (by omega), Nat.add_zero, pm_up_s, pm_up_j (by omega), pm_up_j (by omega), pm_up_j (by omega), Nat.add_zero, pm_up_s]
                    · rw [pm_up_j (by omega), pm_up_j (by omega), pm_up_s, pm_up_j (by omega), pm_up_j (by omega), pm_up_s]
                    · rw [pm_up_j (by omega), pm_up_s, pm_up_j (by omega), pm_up_s]
                    · rw [pm_up_s, pm_up_s]
                  · rw [pm_up_j (by omega), pm_up_j (by omega), pm_up_j (by omega), pm_up_j (by omega), pm_up_j (by omega), pm_up_j (by omega), pm_up_j (by omega), pm_up_j (by omega), z 170 (by omega) (by omega)]
                    exact s3 i k (by omega) hk
              · rw [pm_up_n e, pm_up_n e, pm_up_n e, pm_up_n e, pm_up_n e, z k a b]
              · rw [pm_up_k (by omega), pm_up_k (by omega), pm_up_k (by omega), pm_up_k (by omega), pm_up_k (by omega), ← hz, pm_up_j hj, pm_up_k (by omega), pm_up_k (by omega), pm_up_k (by omega), pm_up_k (by omega)]
              · rw [pm_up_j b, pm_up_j (by omega), pm_up_j (by omega), pm_up_j (by omega), pm_up_j (by omega), z 170 (by omega) (by omega)]
            · have : q = 10 := by omega
              subst this
              refine MU.k (MU.no (r := -1) ?_ ?_)
              · rw [e_X9_wish, if_neg g0, c_isThing (by omega) P.2.2.2.1, pm_bd_s, b2_t g1, if_neg (by decide), if_neg g2.1, if_pos g2.2, if_neg g3.1, if_pos g3.2, if_neg g4.1, if_pos g4.2, s1, if_neg (nI_nlt (by omega) (by omega))]
              · rw [e_X10_wish, if_neg g0, m_isThing (by omega) P.2.2.1 hT, pm_bd_s, b2_t g1, if_neg (by decide), m_isIn (by omega), pm_bd_s, b2_t g2, if_neg (by decide), m_isIn (by omega), pm_bd_s, b2_t g3, if_neg (by decide), m_isIn (by omega), pm_bd_s, b2_t g4, if_neg (by decide), s2, if_pos rfl]
          · refine MU.k (MU.no (r := -1) ?_ ?_)
            · rw [e_X9_wish, if_neg g0, c_isThing (by omega) P.2.2.2.1, pm_bd_s, b2_t g1, if_neg (by decide), if_neg g2.1, if_pos g2.2, if_neg g3.1, if_pos g3.2]
              by_cases a : v4 < 0
              · rw [if_pos a]
              · rw [if_neg a, if_neg (fun b => g4 ⟨a, b⟩)]
            · rw [e_X10_wish, if_neg g0, m_isThing (by omega) P.2.2.1 hT, pm_bd_s, b2_t g1, if_neg (by decide), m_isIn (by omega), pm_bd_s, b2_t g2, if_neg (by decide), m_isIn (by omega), pm_bd_s, b2_t g3, if_neg (by decide), m_isIn (by omega), pm_bd_s, b2_f g4, if_pos rfl]
        · refine MU.k (MU.no (r := -1) ?_ ?_)
          · rw [e_X9_wish, if_neg g0, c_isThing (by omega) P.2.2.2.1, pm_bd_s, b2_t g1, if_neg (by decide), if_neg g2.1, if_pos g2.2]
            by_cases a : v3 < 1
            · rw [if_pos a]
            · rw [if_neg a, if_neg (fun b => g3 ⟨a, b⟩)]
          · rw [e_X10_wish, if_neg g0, m_isThing (by omega) P.2.2.1 hT, pm_bd_s, b2_t g1, if_neg (by decide), m_isIn (by omega), pm_bd_s, b2_t g2, if_neg (by decide), m_isIn (by omega), pm_bd_s, b2_f g3, if_pos rfl]
      · refine MU.k (MU.no (r := -1) ?_ ?_)
        · rw [e_X9_wish, if_neg g0, c_isThing (by omega) P.2.2.2.1, pm_bd_s, b2_t g1, if_neg (by decide)]
          by_cases a : v2 < 0
          · rw [if_pos a]
          · rw [if_neg a, if_neg (fun b => g2 ⟨a, b⟩)]
        · rw [e_X10_wish, if_neg g0, m_isThing (by omega) P.2.2.1 hT, pm_bd_s, b2_t g1, if_neg (by decide), m_isIn (by omega), pm_bd_s, b2_f g2, if_pos rfl]
    · refine MU.k (MU.no (r := -1) ?_ ?_)
      · rw [e_X9_wish, if_neg g0, c_isThing (by omega) P.2.2.2.1, pm_bd_s, b2_f g1, if_pos rfl]
      · rw [e_X10_wish, if_neg g0, m_isThing (by omega) P.2.2.1 hT, pm_bd_s, b2_f g1, if_pos rfl]
theorem q_image {d T R A n0 n1 q N M c nx : Nat} {L0 L1 : Nat → Ln} {h : pm_Hp} (hd : 5 ≤ d) (F : FS T R A n0 n1 q N M L0 L1 h) (Z : KR T R A c nx h) (I : IM h) (v : Int32) : MK d 127 291 [.int v] h := by
  obtain ⟨d, rfl, -⟩ := dpos hd
  by_cases hv : v = 0
  · subst hv
    rcases I with ⟨i1, i2⟩ | ⟨i1, i2, T', R', A', n0', n1', q', N', M', L0', L1', F'⟩
    · refine MU.k (MU.no (r := 0) ?_ ?_)
      · rw [e_X9_image, if_pos rfl, if_pos i1]
      · rw [e_X10_image, if_pos rfl, if_pos i2]
    · obtain ⟨y, e1, f1, f2⟩ := c_copyH_re (d := d) (by omega) h
      have e2 : pm_ev (d + 1) 127 [.ref 0, .int 0] h = some (1, tl y) := by rw [e_X9_image, if_pos rfl, if_neg (by rw [i1]; decide), e1, pm_bd_s, c_forget (by omega), pm_bd_s]
      have z : ∀ k, (k < 1 ∨ 39 ≤ k) → k ≠ 77 → k ≠ 150 → tl y k = h k := fun k a b e => by rw [tl_k b e]; exact f1 k a
      obtain ⟨h2, e3, m1, m2, ⟨m3, m4⟩, m5⟩ := m_imgR (d := d) (by omega) (tl y)
      have e4 : pm_ev (d + 1) 291 [.ref 169, .int 0] (tl y) = some (1, h2) := by rw [e_X10_image, if_pos rfl, if_neg (by rw [z 169 (by omega) (by omega) (by omega), i2]; decide), e3]
      have cc : ∀ k, (k < 1 ∨ 39 ≤ k) → k ≠ 77 → k ≠ 150 → k ≠ 169 → k ≠ 170 → h2 k = h k := fun k a b e f g => (m1 k g f).trans (z k a b e)
      refine ⟨1, tl y, h2, e2, e4, ⟨fun k a b => cc k (by omega) (by omega) (by omega) (by omega) (by omega), fun k a b => cc k (by omega) (by omega) (by omega) (by omega) (by omega), fun j a b => by rw [m2 j a b, z 169 (by omega) (by omega) (by omega)]⟩, Or.inr (Or.inl ⟨?_, ⟨T', R', A', n0', n1', q', N', M', L0', L1', F'.ag (fun k j hc => ?_), 0, nx, KR.no Z.2.1 ?_ ?_ m3⟩, ?_⟩)⟩
      · rw [m1 150 (by omega) (by omega)]; exact pm_up_s
      · rcases cel_k hc with ⟨a, b⟩ | ⟨rfl, b⟩
        · rw [ih_h a b, m1 k (by omega) (by omega), tl_k (by omega) (by omega)]
          exact f2 k j a b hc
        · rw [ih_w, m5 j b, z 171 (by omega) (by omega) (by omega)]
      · rw [m1 77 (by omega) (by omega)]
        unfold tl
        rw [pm_up_k (by omega), pm_up_j (by omega), f1 77 (by omega)]
        exact Z.2.2.1
      · rw [m1 77 (by omega) (by omega)]
        unfold tl
        rw [pm_up_k (by omega), pm_up_s]
      · have I' : IM h := Or.inr ⟨i1, i2, T', R', A', n0', n1', q', N', M', L0', L1', F'⟩
        exact I'.ag (fun k a b => cc k (by omega) (by omega) (by omega) (by omega) (by omega)) (cc 171 (by omega) (by omega) (by omega) (by omega) (by omega)) (by rw [cc 0 (by omega) (by omega) (by omega) (by omega) (by omega)]) (by rw [m4, i2])
  · obtain ⟨y, e1, f1, f2⟩ := c_copyH_im (d := d) (by omega) h
    have e2 : pm_ev (d + 1) 127 [.ref 0, .int v] h = some (1, pm_up y 0 7 1) := by rw [e_X9_image, if_neg hv, e1, pm_bd_s]
    obtain ⟨h2, e3, m1, m2, m3, m4⟩ := m_imgL (d := d) hv (pm_up y 0 7 1)
    have e4 : pm_ev (d + 1) 291 [.ref 169, .int v] (pm_up y 0 7 1) = some (1, h2) := by rw [e_X10_image, if_neg hv, e3]
    have cc : ∀ k, (k < 39 ∨ 77 ≤ k) → k ≠ 0 → k ≠ 169 → k ≠ 171 → h2 k = h k := fun k a b e f => by rw [m1 k f e, pm_up_n b]; exact f1 k a
    have c9 : ∀ j, j ≠ 4 → h2 169 j = h 169 j := fun j hj => by rw [m2 j hj, pm_up_k (by omega), f1 169 (by omega)]
    refine ⟨1, _, h2, e2, e4, ⟨fun k a b => cc k (by omega) (by omega) (by omega) (by omega), fun k a b => cc k (by omega) (by omega) (by omega) (by omega), fun j a b => c9 j b⟩, Or.inr (Or.inr ⟨fun T R A n0 n1 q N M L0 L1 F => ⟨q, F.ag (fun k j hc => ?_)⟩, fun T R A c nx Z => Z.fr (fun k a b => cc k (by omega) (by omega) (by omega) (by omega)) (c9 3 (by omega)) (cc 172 (by omega) (by omega) (by omega) (by omega)) (by rw [cc 1 (by omega) (by omega) (by omega) (by omega)]; exact ⟨rfl, rfl⟩) (fun k a b => cc k (by omega) (by omega) (by omega) (by omega)) (fun x _ _ _ => by rw [cc 170 (by omega) (by omega) (by omega) (by omega)]), Or.inr ⟨?_, m3, T, R, A, n0, n1, q, N, M, L0, L1, F.ag (fun k j hc => ?_)⟩, fun k a b => cc k (by omega) (by omega) (by omega) (by omega), fun x _ _ => by rw [cc 170 (by omega) (by omega) (by omega) (by omega)]⟩)⟩
    · rcases cel_k hc with ⟨a, b⟩ | ⟨rfl, b⟩
      · rw [cc k (by omega) (by omega) (by omega) (by omega)]
      · rw [cc 170 (by omega) (by omega) (by omega) (by omega)]
    · rw [m1 0 (by omega) (by omega), pm_up_s]
    · rcases cel_k hc with ⟨a, b⟩ | ⟨rfl, b⟩
      · rw [ih_h a b, m1 _ (by omega) (by omega), pm_up_k (by omega)]
        exact f2 k j a b hc
      · rw [ih_w, m4 j b, pm_up_k (by omega), f1 170 (by omega)]
