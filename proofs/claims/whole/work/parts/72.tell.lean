/-! WHAT IS TOLD: state, actor, rack, measure, set, thing -/
def tl (h : pm_Hp) : pm_Hp := pm_up (pm_up h 77 2 0) 150 0 0
theorem tl_k {h : pm_Hp} {k : Nat} (h1 : k ≠ 77) (h2 : k ≠ 150) : tl h k = h k := by
  unfold tl
  rw [pm_up_n h2, pm_up_n h1]
theorem c_forget {d : Nat} {h : pm_Hp} (hd : 2 ≤ d) : pm_ev d 129 [.ref 0] h = some (0, tl h) := c_forgetActs hd
/-- the state after something told: hx as the class left it but for what it forgets, hy the model's but for what it forgets -/
theorem TELL {T R A n0 n1 q N M T' R' A' c nx : Nat} {L0 L1 : Nat → Ln} {h hx hy : pm_Hp} (F : FS T R A n0 n1 q N M L0 L1 h) (Z : KR T R A c nx h) (I : IM h) (a1 : ∀ k, (k = 0 ∨ 16 ≤ k) → hx k = h k) (a2 : hx 1 14 = h 1 14) (a3 : ∀ k, k ≠ 170 → hy k = tl hx k) (a4 : ∀ j, ((327 ≤ j ∧ j < 332) ∨ 366 ≤ j) → hy 170 j = h 170 j) (hA : A ≤ A') (K' : FK T' R' A' (pm_up hy 169 3 0)) (Q' : AC A' (pm_up hy 169 3 0)) : rest h (pm_up hy 169 3 0) ∧ ((pm_up hy 169 3 0) 150 0 = 0 ∧ IV0 (pm_up hy 169 3 0)) := by
  have e1 : ∀ k, k = 0 ∨ 16 ≤ k → k ≠ 77 → k ≠ 150 → k ≠ 169 → k ≠ 170 → pm_up hy 169 3 0 k = h k := fun k b1 b2 b3 b4 b5 => by rw [pm_up_n b4, a3 k b5, tl_k b2 b3, a1 k b1]
  have e2 : ∀ j, j ≠ 3 → pm_up hy 169 3 0 169 j = h 169 j := fun j hj => by rw [pm_up_j hj, a3 169 (by omega), tl_k (by omega) (by omega), a1 169 (by omega)]
  have e3 : ∀ j, ((327 ≤ j ∧ j < 332) ∨ 366 ≤ j) → pm_up hy 169 3 0 170 j = h 170 j := fun j hj => by rw [pm_up_k (by omega), a4 j hj]
  refine ⟨⟨fun k b1 b2 => ?_, fun k b1 b2 => e1 k (by omega) (by omega) (by omega) (by omega) (by omega), fun j b1 _ => e2 j b1⟩, ?_, ⟨T', R', A', n0, n1, q, N, M, L0, L1, F.k K' Q' ?_ hA (fun j hj => e3 j (by omega)) (fun k b1 b2 _ _ => e1 k (by omega) (by omega) (by omega) (by omega) (by omega)) ?_, 0, nx, KR.no Z.2.1 ?_ ?_ pm_up_s⟩, I.ag (fun k b1 b2 => e1 k (by omega) (by omega) (by omega) (by omega) (by omega)) (e1 171 (by omega) (by omega) (by omega) (by omega) (by omega)) (by rw [e1 0 (by omega) (by omega) (by omega) (by omega) (by omega)]) (e2 4 (by omega))⟩
  · exact e1 k (by omega) (by omega) (by omega) (by omega) (by omega)
  · rw [pm_up_k (by omega), a3 150 (by omega)]; exact pm_up_s
  · exact F.2.2.2.2.2.2.rg (fun j b1 b2 => e3 j (by omega)) (e1 16 (by omega) (by omega) (by omega) (by omega) (by omega))
  · rw [pm_up_k (by omega), a3 1 (by omega), tl_k (by omega) (by omega), a2]
  · rw [pm_up_k (by omega), a3 77 (by omega)]
    unfold tl
    rw [pm_up_k (by omega), pm_up_j (by omega), a1 77 (by omega)]
    exact Z.2.2.1
  · rw [pm_up_k (by omega), a3 77 (by omega)]
    unfold tl
    rw [pm_up_k (by omega), pm_up_s]
theorem q_state {d T R A n0 n1 q N M c nx : Nat} {L0 L1 : Nat → Ln} {h : pm_Hp} (hd : 3 ≤ d) (F : FS T R A n0 n1 q N M L0 L1 h) (Z : KR T R A c nx h) (I : IM h) (v : Int32) : MU d 106 168 [.int v] h := by
  obtain ⟨d, rfl, -⟩ := dpos hd
  have S := F.1.2.2.1
  obtain ⟨s1, s2, s3, s4, s5, s6⟩ := S
  have e1 : pm_ev (d + 1) 106 [.ref 0, .int v] h = some (h 2 10, tl (pm_up h 2 10 v)) := by rw [e_X9_state, c_forget (by omega), pm_bd_s]
  have e2 : ∀ g, pm_ev (d + 1) 168 [.ref 169, .int v] g = some (g 170 3, pm_up (pm_up g 170 3 v) 169 3 0) := fun g => by rw [e_X10_state, m_forgets (by omega), pm_bd_s]
  have e3 := e2 (tl (pm_up h 2 10 v))
  rw [show tl (pm_up h 2 10 v) 170 3 = h 2 10 by rw [tl_k (by omega) (by omega), pm_up_k (by omega), s4]] at e3
  have P := F.1.1
  have w : ∀ j, j ≠ 3 → (pm_up (pm_up (tl (pm_up h 2 10 v)) 170 3 v) 169 3 0) 170 j = h 170 j := fun j hj => by rw [pm_up_k (by omega), pm_up_j hj, tl_k (by omega) (by omega), pm_up_n (by omega)]
  have c : ∀ k, k ≠ 2 → k ≠ 77 → k ≠ 150 → k ≠ 169 → k ≠ 170 → (pm_up (pm_up (tl (pm_up h 2 10 v)) 170 3 v) 169 3 0) k = h k := fun k b1 b2 b3 b4 b5 => by rw [pm_up_n b4, pm_up_n b5, tl_k b2 b3, pm_up_n b1]
  have c2 : ∀ j, (pm_up (pm_up (tl (pm_up h 2 10 v)) 170 3 v) 169 3 0) 2 j = pm_up h 2 10 v 2 j := fun j => by rw [pm_up_k (by omega), pm_up_k (by omega), tl_k (by omega) (by omega)]
  have t := TELL (T' := T) (R' := R) (A' := A) F Z I (hx := pm_up h 2 10 v) (hy := pm_up (tl (pm_up h 2 10 v)) 170 3 v) (fun k hk => pm_up_n (by omega)) (pm_up_k (by omega)) (fun k hk => pm_up_n hk) (fun j hj => by rw [pm_up_j (by omega), tl_k (by omega) (by omega), pm_up_n (by omega)]) (Nat.le_refl _) (F.1.g (Nat.le_refl _) P.2.1 (Nat.le_refl _) (fun j h1 h2 => w j (by omega)) (by rw [c 1 (by omega) (by omega) (by omega) (by omega) (by omega)]) (by rw [w _ (by omega)]; exact P.2.2.2.2.1) (by rw [c 1 (by omega) (by omega) (by omega) (by omega) (by omega)]; exact P.hR) (fun r hr => by rw [c 15 (by omega) (by omega) (by omega) (by omega) (by omega), w _ (by omega)]; exact P.rack hr) (fun k h1 h2 => c k (by omega) (by omega) (by omega) (by omega) (by omega)) (fun j _ => by rw [c 14 (by omega) (by omega) (by omega) (by omega) (by omega)]) ⟨by rw [c2, pm_up_j (by omega), w _ (by omega), s1], by rw [c2, pm_up_j (by omega), w _ (by omega), s2], by rw [c2, pm_up_j (by omega), w _ (by omega), s3], by rw [c2, pm_up_s, pm_up_k (by omega), pm_up_s], by rw [w _ (by omega)]; exact s5, by rw [w _ (by omega)]; exact s6⟩) (F.2.1.rg (fun j h1 h2 => w j (by omega)) (w _ (by omega)) (by rw [c 1 (by omega) (by omega) (by omega) (by omega) (by omega)]) (fun j _ => by rw [c 14 (by omega) (by omega) (by omega) (by omega) (by omega)]))
  exact ⟨h 2 10, _, _, e1, e3, t.1, Or.inr t.2⟩
theorem m_actL {d A : Nat} {h : pm_Hp} (hd : 1 ≤ d) (hA : A ≤ 5) (e : h 170 325 = nI A) : ∃ hy, pm_rn d kX10_actor 17 [.ref 169, .int 0] [] h = some (nI A, pm_up hy 169 3 0) ∧ (∀ k, k ≠ 170 → hy k = h k) ∧ hy 170 325 = nI (A + 1) ∧ (∀ m, m < 5 → hy 170 (332 + 5 * A + m) = 0) ∧ ∀ j, j ≠ 325 → (j < 332 + 5 * A ∨ 337 + 5 * A ≤ j) → hy 170 j = h 170 j := by
  have key : ∀ (n i : Nat) (g : pm_Hp), i + n = 5 → (∀ k, k ≠ 170 → g k = h k) → g 170 325 = nI A → (∀ m, m < i → g 170 (332 + 5 * A + m) = 0) → (∀ j, j ≠ 325 → (j < 332 + 5 * A ∨ 337 + 5 * A ≤ j) → g 170 j = h 170 j) → ∃ hy, pm_rn d kX10_actor 17 [.ref 169, .int (nI i)] [] g = some (nI A, pm_up hy 169 3 0) ∧ (∀ k, k ≠ 170 → hy k = h k) ∧ hy 170 325 = nI (A + 1) ∧ (∀ m, m < 5 → hy 170 (332 + 5 * A + m) = 0) ∧ ∀ j, j ≠ 325 → (j < 332 + 5 * A ∨ 337 + 5 * A ≤ j) → hy 170 j = h 170 j := by
    intro n
    induction n with
    | zero =>
      intro i g hi g1 g2 g3 g4
      have hi : i = 5 := by omega
      subst hi
      rw [b_X10_actor_17, if_neg (nI_nlt (by omega) (by omega)), m_forgets hd, pm_bd_s, pm_up_k (by omega), pm_up_s, g2, nI_1, nI_pred]
      exact ⟨pm_up g 170 325 (nI (A + 1)), rfl, fun k hk => by rw [pm_up_n hk]; exact g1 k hk, pm_up_s, fun m hm => by rw [pm_up_j (by omega)]; exact g3 m hm, fun j h1 h2 => by rw [pm_up_j h1]; exact g4 j h1 h2⟩
    | succ n ih =>
      intro i g hi g1 g2 g3 g4
      rw [b_X10_actor_17, if_pos (nI_lt (by omega) (by omega)), g2, pm_at_n (j := 332 + 5 * A + i) (by rw [pk_mul, nI_add, nI_add]) (by omega) (by omega), nI_1]
      refine ih (i + 1) _ (by omega) (fun k hk => by rw [pm_up_n hk]; exact g1 k hk) (by rw [pm_up_j (by omega)]; exact g2) (fun m hm => ?_) (fun j h1 h2 => by rw [pm_up_j (by omega)]; exact g4 j h1 h2)
      by_cases e : m = i
      · rw [e, pm_up_s]
      · rw [pm_up_j (by omega)]; exact g3 m (by omega)
  exact key 5 0 h (by omega) (fun _ _ => rfl) e (fun m hm => absurd hm (Nat.not_lt_zero m)) (fun _ _ _ => rfl)
theorem q_actor {d T R A n0 n1 q N M c nx : Nat} {L0 L1 : Nat → Ln} {h : pm_Hp} (hd : 3 ≤ d) (F : FS T R A n0 n1 q N M L0 L1 h) (Z : KR T R A c nx h) (I : IM h) : MU d 108 171 [] h := by
  obtain ⟨d, rfl, -⟩ := dpos hd
  have S := F.1.2.2.1
  obtain ⟨s1, s2, s3, s4, s5, s6⟩ := S
  have P := F.1.1
  have Q := F.2.1
  have D := F.1.2.2.2.1
  obtain ⟨hA, q1, q2, q3⟩ := Q
  by_cases g : A < 6
  · have e1 : pm_ev (d + 1) 108 [.ref 0] h = some (nI A, tl (pm_up h 1 12 (nI (A + 1)))) := by
      rw [e_X9_actor, q2, if_pos (nI_lt g (by omega)), c_forget (by omega), pm_bd_s, tl_k (by omega) (by omega), pm_up_s, nI_1, nI_pred]
    have z : ∀ k, k ≠ 1 → k ≠ 77 → k ≠ 150 → tl (pm_up h 1 12 (nI (A + 1))) k = h k := fun k b1 b2 b3 => by rw [tl_k b2 b3, pm_up_n b1]
    obtain ⟨hy, f1, f2, f3, f4, f5⟩ := m_actL (d := d) (A := A) (h := tl (pm_up h 1 12 (nI (A + 1)))) (by omega) (by omega) (by rw [z 170 (by omega) (by omega) (by omega)]; exact q1)
    rw [z 170 (by omega) (by omega) (by omega)] at f5
    have e2 : pm_ev (d + 1) 171 [.ref 169] (tl (pm_up h 1 12 (nI (A + 1)))) = some (nI A, pm_up hy 169 3 0) := by
      rw [e_X10_actor, z 170 (by omega) (by omega) (by omega), q1, nI_ite (by omega) (by omega), if_neg (by omega), f1]
    have w : ∀ j, j ≠ 325 → (j < 332 + 5 * A ∨ 337 + 5 * A ≤ j) → (pm_up hy 169 3 0) 170 j = h 170 j := fun j h1 h2 => by rw [pm_up_k (by omega)]; exact f5 j h1 h2
    have cc : ∀ k, k ≠ 1 → k ≠ 77 → k ≠ 150 → k ≠ 169 → k ≠ 170 → (pm_up hy 169 3 0) k = h k := fun k b1 b2 b3 b4 b5 => by rw [pm_up_n b4, f2 k b5, z k b1 b2 b3]
    have c1 : ∀ j, j ≠ 12 → (pm_up hy 169 3 0) 1 j = h 1 j := fun j hj => by rw [pm_up_k (by omega), f2 1 (by omega), tl_k (by omega) (by omega), pm_up_j hj]
    have t := TELL (T' := T) (R' := R) (A' := A + 1) F Z I (hx := pm_up h 1 12 (nI (A + 1))) (hy := hy) (fun k hk => pm_up_n (by omega)) (pm_up_j (by omega)) f2 (fun j hj => f5 j (by omega) (by omega)) (by omega) (F.1.g (Nat.le_refl _) P.2.1 (by omega) (fun j h1 h2 => w j (by omega) (by omega)) (c1 11 (by omega)) (by rw [w _ (by omega) (by omega)]; exact P.2.2.2.2.1) (by rw [c1 13 (by omega)]; exact P.hR) (fun r hr => by
        have hR := P.2.1
        rw [cc 15 (by omega) (by omega) (by omega) (by omega) (by omega), w _ (by omega) (by omega)]; exact P.rack hr) (fun k h1 h2 => cc k (by omega) (by omega) (by omega) (by omega) (by omega)) (fun j _ => by rw [cc 14 (by omega) (by omega) (by omega) (by omega) (by omega)]) (F.1.2.2.1.rg (fun j hj => w j (by omega) (by omega)) (fun j h1 h2 => by rw [cc 2 (by omega) (by omega) (by omega) (by omega) (by omega)]))) ⟨by omega, by rw [pm_up_k (by omega)]; exact f3, by rw [pm_up_k (by omega), f2 1 (by omega), tl_k (by omega) (by omega), pm_up_s], fun a m ha hm => ?_⟩
    · exact ⟨nI A, _, _, e1, e2, t.1, Or.inr t.2⟩
    · rw [cc 14 (by omega) (by omega) (by omega) (by omega) (by omega)]
      by_cases e : a = A
      · subst e
        have z0 := D.2 a (Nat.le_refl _) g m hm
        have z1 := f4 m hm
        rw [pm_up_k (by omega), z0, z1]
        exact ⟨rfl, 0, by omega, rfl⟩
      · rw [w _ (by omega) (by omega)]
        exact q3 a m (by omega) hm
  · have : A = 6 := by omega
    subst this
    refine MU.no (r := -1) ?_ ?_
    · rw [e_X9_actor, q2, if_neg (nI_nlt (by omega) (by omega))]
    · rw [e_X10_actor, q1, if_pos rfl]
theorem q_rack {d T R A n0 n1 q N M c nx : Nat} {L0 L1 : Nat → Ln} {h : pm_Hp} (hd : 3 ≤ d) (F : FS T R A n0 n1 q N M L0 L1 h) (Z : KR T R A c nx h) (I : IM h) (v : Int32) : MU d 109 172 [.int v] h := by
  obtain ⟨d, rfl, -⟩ := dpos hd
  have P := F.1.1
  have hR := P.2.1
  have e6 : h 170 326 = nI R := P.2.2.2.2.1
  have e7 : h 1 13 = nI R := P.hR
  by_cases hv : ¬ v < 1 ∧ v ≤ nI 8
  · have v0 : ¬ v < 0 := fun a => hv.1 (Int32.lt_trans a (by decide))
    obtain ⟨k, hk, ev⟩ := kd_ex (n := 8) (by omega) ⟨v0, hv.2⟩
    by_cases g : R < 4
    · have e1 : pm_ev (d + 1) 109 [.ref 0, .int v] h = some (nI R, tl (pm_up (pm_up h 15 R v) 1 13 (nI (R + 1)))) := by
        rw [e_X9_rack, if_neg hv.1, if_pos hv.2, e7, if_pos (nI_lt g (by omega)), pm_at_c (by omega) (by omega), c_forget (by omega), pm_bd_s, tl_k (by omega) (by omega), pm_up_s, nI_1, nI_pred]
      have z : ∀ k, k ≠ 1 → k ≠ 15 → k ≠ 77 → k ≠ 150 → tl (pm_up (pm_up h 15 R v) 1 13 (nI (R + 1))) k = h k := fun k b1 b0 b2 b3 => by rw [tl_k b2 b3, pm_up_n b1, pm_up_n b0]
      generalize hz : tl (pm_up (pm_up h 15 R v) 1 13 (nI (R + 1))) = g1 at e1 z
      have e2 : pm_ev (d + 1) 172 [.ref 169, .int v] g1 = some (nI R, pm_up (pm_up (pm_up g1 170 (362 + R) v) 170 326 (nI (R + 1))) 169 3 0) := by
        rw [e_X10_rack, m_isIn (by omega), pm_bd_s, b2_t hv, if_neg (by decide), z 170 (by omega) (by omega) (by omega) (by omega), e6, nI_ite (by omega) (by omega), if_neg (by omega), pm_at_n (j := 362 + R) (by rw [nI_add]) (by omega) (by omega), pm_up_j (by omega), z 170 (by omega) (by omega) (by omega) (by omega), e6, m_forgets (by omega), pm_bd_s, pm_up_k (by omega), pm_up_s, nI_1, nI_pred]
      have w : ∀ j, j ≠ 326 → j ≠ 362 + R → (pm_up (pm_up (pm_up g1 170 (362 + R) v) 170 326 (nI (R + 1))) 169 3 0) 170 j = h 170 j := fun j h1 h2 => by rw [pm_up_k (by omega), pm_up_j h1, pm_up_j h2, z 170 (by omega) (by omega) (by omega) (by omega)]
      have cc : ∀ k, k ≠ 1 → k ≠ 15 → k ≠ 77 → k ≠ 150 → k ≠ 169 → k ≠ 170 → (pm_up (pm_up (pm_up g1 170 (362 + R) v) 170 326 (nI (R + 1))) 169 3 0) k = h k := fun k b1 b0 b2 b3 b4 b5 => by rw [pm_up_n b4, pm_up_n b5, pm_up_n b5, z k b1 b0 b2 b3]
      have c1 : ∀ j, j ≠ 13 → (pm_up (pm_up (pm_up g1 170 (362 + R) v) 170 326 (nI (R + 1))) 169 3 0) 1 j = h 1 j := fun j hj => by rw [pm_up_k (by omega), pm_up_k (by omega), pm_up_k (by omega), ← hz, tl_k (by omega) (by omega), pm_up_j hj, pm_up_k (by omega)]
      have t := TELL (T' := T) (R' := R + 1) (A' := A) F Z I (hx := pm_up (pm_up h 15 R v) 1 13 (nI (R + 1))) (hy := pm_up (pm_up g1 170 (362 + R) v) 170 326 (nI (R + 1))) (fun k hk => by rw [pm_up_n (by omega), pm_up_n (by omega)]) (by rw [pm_up_j (by omega), pm_up_k (by omega)]) (fun k hk => by rw [pm_up_n hk, pm_up_n hk, hz]) (fun j hj => by rw [pm_up_j (by omega), pm_up_j (by omega), z 170 (by omega) (by omega) (by omega) (by omega)]) (Nat.le_refl _) (F.1.g (by omega) (by omega) (Nat.le_refl _) (fun j h1 h2 => w j (by omega) (by omega)) (c1 11 (by omega)) (by rw [pm_up_k (by omega), pm_up_s]) (by rw [pm_up_k (by omega), pm_up_k (by omega), pm_up_k (by omega), ← hz, tl_k (by omega) (by omega), pm_up_s]) (fun r hr => ?_) (fun k h1 h2 => cc k (by omega) (by omega) (by omega) (by omega) (by omega) (by omega)) (fun j _ => by rw [cc 14 (by omega) (by omega) (by omega) (by omega) (by omega) (by omega)]) (F.1.2.2.1.rg (fun j hj => w j (by omega) (by omega)) (fun j h1 h2 => by rw [cc 2 (by omega) (by omega) (by omega) (by omega) (by omega) (by omega)]))) (F.2.1.rg (fun j h1 h2 => w j (by omega) (by omega)) (w _ (by omega) (by omega)) (c1 12 (by omega)) (fun j _ => by rw [cc 14 (by omega) (by omega) (by omega) (by omega) (by omega) (by omega)]))
      · exact ⟨nI R, _, _, e1, e2, t.1, Or.inr t.2⟩
      · have a15 : (pm_up (pm_up (pm_up g1 170 (362 + R) v) 170 326 (nI (R + 1))) 169 3 0) 15 r = pm_up h 15 R v 15 r := by rw [pm_up_k (by omega), pm_up_k (by omega), pm_up_k (by omega), ← hz, tl_k (by omega) (by omega), pm_up_k (by omega)]
        by_cases e : r = R
        · subst e
          rw [a15, pm_up_s, pm_up_k (by omega), pm_up_j (by omega), pm_up_s]
          exact ⟨rfl, k, hk, ev⟩
        · rw [a15, pm_up_j e, w _ (by omega) (by omega)]
          exact P.rack (by omega)
    · have : R = 4 := by omega
      subst this
      refine MU.no (r := -1) ?_ ?_
      · rw [e_X9_rack, if_neg hv.1, if_pos hv.2, e7, if_neg (nI_nlt (by omega) (by omega))]
      · rw [e_X10_rack, m_isIn (by omega), pm_bd_s, b2_t hv, if_neg (by decide), e6, if_pos rfl]
  · refine MU.no (r := -1) ?_ ?_
    · rw [e_X9_rack]
      by_cases a : v < 1
      · rw [if_pos a]
      · rw [if_neg a, if_neg (fun b => hv ⟨a, b⟩)]
    · rw [e_X10_rack, m_isIn (by omega), pm_bd_s, b2_f hv, if_pos rfl]
