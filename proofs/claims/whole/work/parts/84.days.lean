/-! the days of the model -/
theorem Pm.to {T R : Nat} {h h' : pm_Hp} (e : ∀ j, 324 ≤ j → j < 396 → h' 170 j = h 170 j) (e0 : ∀ t, t < T → wq h' t 0 = wq h t 0) (e5 : ∀ t, t < T → wq h' t 5 = wq h t 5) (P : Pm T R h) : Pm T R h' := by
  obtain ⟨p1, p2, p3, -, p5, -, -, p8, p9, rk, p10⟩ := P
  refine ⟨p1, p2, by rw [e _ (by omega) (by omega)]; exact p3, trivial, by rw [e _ (by omega) (by omega)]; exact p5, trivial, trivial, fun r hr => ⟨trivial, by rw [e _ (by omega) (by omega)]; exact (p8 r hr).2⟩, fun t ht => (p9 t ht).to (e5 t ht) e0, rk, fun t ht => ?_⟩
  rw [e0 t ht, e5 t ht]
  exact p10 t ht
theorem m_dayL {d T R n1 : Nat} {L1 : Nat → Ln} {v1 v3 : Int32} (hd : 7 ≤ d) : ∀ (n i : Nat) (X : Nat → Int32) (cnt : Int32) (m : pm_Hp), i + n = T → m 170 = X → Pm T R m → (∀ t, t < T → WT m t) → LW 1 n1 L1 m → ∃ m', pm_rn d kX10_days 42 [.ref 169, .int v1, .int cnt, .int v3, .int (nI i)] [] m = pm_rn d kX10_days 30 [.ref 169, .int v1, .int (itr (dst n1 L1) i n (X, cnt)).2, .int (v3 + 1), .int (nI T)] [] m' ∧ (∀ k, k ≠ 170 → k ≠ 178 → k ≠ 179 → m' k = m k) ∧ m' 170 = upd (itr (dst n1 L1) i n (X, cnt)).1 0 (X 0 + 1) ∧ Pm T R m' ∧ (∀ t, t < T → WT m' t) ∧ LW 1 n1 L1 m' := by
  have up_upd : ∀ (h : pm_Hp) (j : Nat) (v : Int32), pm_up h 170 j v 170 = upd (h 170) j v := fun h j v => funext fun x => by
    by_cases e : x = j
    · rw [e, pm_up_s, pk_us]
    · rw [pm_up_j e, pk_un e]
  intro n
  induction n with
  | zero =>
    intro i X cnt m hi e P W L
    have hi : i = T := by omega
    subst hi
    have hT := P.1
    rw [b_X10_days_42, P.2.2.1, if_neg (nI_nlt (by omega) (by omega))]
    have w : ∀ j, j ≠ 0 → pm_up m 170 0 (m 170 0 + 1) 170 j = m 170 j := fun j hj => pm_up_j hj
    refine ⟨_, rfl, fun k q1 _ _ => pm_up_n q1, ?_, P.to (fun j q1 q2 => w j (by omega)) (fun t ht => w _ (by omega)) (fun t ht => w _ (by omega)), fun t ht => (W t ht).to (fun f hf => w _ (by omega)), L.rg (by omega) (fun j q1 q2 => w j (by omega)) (w _ (by omega)) (by rw [pm_up_n (by omega)]) (fun j hj => pm_up_n (by omega))⟩
    rw [up_upd, e]
    rfl
  | succ n ih =>
    intro i X cnt m hi e P W L
    have hT := P.1
    rw [b_X10_days_42, P.2.2.1, if_pos (nI_lt (by omega) (by omega)), n_isOut (by omega) P (by omega), pm_bd_s, nI_1, Int32.add_zero]
    show ∃ m', _ = pm_rn d kX10_days 30 [.ref 169, .int v1, .int (itr (dst n1 L1) (i + 1) n (dst n1 L1 i (X, cnt))).2, .int (v3 + 1), .int (nI T)] [] m' ∧ _ ∧ m' 170 = upd (itr (dst n1 L1) (i + 1) n (dst n1 L1 i (X, cnt))).1 0 (X 0 + 1) ∧ _
    have ea : aw m i = aw (hX X) i := aw_eq e i
    by_cases ga : aw (hX X) i
    · have ga' : aw m i := by rw [ea]; exact ga
      obtain ⟨m1, a1, f1, f2⟩ := m_worn (d := d) (n1 := n1) (L1 := L1) hd (W i (by omega)) L (show i < 16 by omega)
      rw [e] at a1 f2
      have wo : ∀ j, j ≠ 3 → j ≠ 4 + 20 * i + 2 → j ≠ 4 + 20 * i + 3 → j ≠ 4 + 20 * i + 4 → m1 170 j = m 170 j := fun j q0 q2 q3 q4 => by rw [f2, e]; exact us_o q0 q2 q3 q4
      have P1 : Pm T R m1 := P.to (fun j q1 q2 => wo j (by omega) (by omega) (by omega) (by omega)) (fun t ht => wo _ (by omega) (by omega) (by omega) (by omega)) (fun t ht => wo _ (by omega) (by omega) (by omega) (by omega))
      have W1 : ∀ t, t < T → WT m1 t := fun t ht => by
        by_cases et : t = i
        · subst et
          have q0 := QW.of (W t ht)
          have q1 : QW (fun f => X (4 + 20 * t + f)) := by
            have : (fun f => X (4 + 20 * t + f)) = wq m t := by
              funext f
              show X (4 + 20 * t + f) = m 170 (4 + 20 * t + f)
              rw [e]
            rw [this]; exact q0
          obtain ⟨r1, r2, r3, r4, r5, r6⟩ := QW.us (n1 := n1) (L1 := L1) (show t < 16 by omega) q1
          have eq : ∀ f, wq m1 t f = usX n1 L1 t X (4 + 20 * t + f) := fun f => by
            show m1 170 (4 + 20 * t + f) = _
            rw [f2]
          refine ⟨?_, by rw [eq]; exact r1, by rw [eq]; exact r2, by rw [eq]; exact r3, by rw [eq]; exact r4, by rw [eq]; exact r5, fun m' hm' => by rw [eq, eq]; exact r6 m' hm'⟩
          rw [show wq m1 t 0 = wq m t 0 from wo _ (by omega) (by omega) (by omega) (by omega)]
          exact (W t ht).1
        · exact (W t ht).to (fun f hf => wo _ (by omega) (by omega) (by omega) (by omega))
      have L1' : LW 1 n1 L1 m1 := L.rg (by omega) (fun j q1 q2 => wo j (by omega) (by omega) (by omega) (by omega)) (wo _ (by omega) (by omega) (by omega) (by omega)) (by rw [f1 _ (by omega) (by omega) (by omega)]) (fun j hj => f1 _ (by omega) (by omega) (by omega))
      have x0 : usX n1 L1 i X 0 = X 0 := us_o (by omega) (by omega) (by omega) (by omega)
      rw [b2_t ga', if_neg (by decide), a1, pm_bd_s]
      unfold dst
      simp only
      rw [if_pos ga]
      by_cases gu : ucX n1 L1 i X
      · rw [b2_t gu, if_neg (by decide), if_pos gu]
        obtain ⟨m2, b1, b2', b3, b4⟩ := ih (i + 1) (usX n1 L1 i X) (cnt + 1) m1 (by omega) f2 P1 W1 L1'
        rw [x0] at b3
        exact ⟨m2, b1, fun k q1 q2 q3 => (b2' k q1 q2 q3).trans (f1 k q1 q2 q3), b3, b4⟩
      · rw [b2_f gu, if_pos rfl, if_neg gu]
        obtain ⟨m2, b1, b2', b3, b4⟩ := ih (i + 1) (usX n1 L1 i X) cnt m1 (by omega) f2 P1 W1 L1'
        rw [x0] at b3
        exact ⟨m2, b1, fun k q1 q2 q3 => (b2' k q1 q2 q3).trans (f1 k q1 q2 q3), b3, b4⟩
    · have ga' : ¬ aw m i := by rw [ea]; exact ga
      rw [b2_f ga', if_pos rfl]
      unfold dst
      simp only
      rw [if_neg ga]
      exact ih (i + 1) X cnt m (by omega) e P W L
theorem m_daysL {d T R n1 nn : Nat} {L1 : Nat → Ln} (hd : 7 ≤ d) (hnn : nn ≤ 60) : ∀ (n i : Nat) (s : DS) (m : pm_Hp) (u : Value), i + n = nn → m 170 = s.1.1 → (∀ x, x < 324 * s.2.1 → m 172 x = s.1.2 x) → m 169 3 = nI s.2.1 → s.2.1 ≤ 6 → Pm T R m → (∀ t, t < T → WT m t) → LW 1 n1 L1 m → ∃ m', pm_rn d kX10_days 30 [.ref 169, .int (nI nn), .int s.2.2, .int (nI i), u] [] m = some ((dyN n1 L1 T n s).2.2, m') ∧ (∀ k, k ≠ 169 → k ≠ 170 → k ≠ 172 → k ≠ 178 → k ≠ 179 → m' k = m k) ∧ (∀ j, j ≠ 3 → m' 169 j = m 169 j) ∧ m' 170 = (dyN n1 L1 T n s).1.1 ∧ (∀ x, x < 324 * (dyN n1 L1 T n s).2.1 → m' 172 x = (dyN n1 L1 T n s).1.2 x) ∧ m' 169 3 = nI (dyN n1 L1 T n s).2.1 := by
  intro n
  induction n with
  | zero =>
    intro i s m u hi e1 e2 e3 hc P W L
    rw [b_X10_days_30, if_neg (nI_nlt (by omega) (by omega))]
    exact ⟨m, rfl, fun _ _ _ _ _ _ => rfl, fun _ _ => rfl, e1, e2, e3⟩
  | succ n ih =>
    intro i s m u hi e1 e2 e3 hc P W L
    obtain ⟨⟨X, B⟩, c, tot⟩ := s
    have e1 : m 170 = X := e1
    have e2 : ∀ x, x < 324 * c → m 172 x = B x := e2
    have e3 : m 169 3 = nI c := e3
    have hc : c ≤ 6 := hc
    obtain ⟨m1, a1, M1, M2, M3⟩ := m_keeps (d := d) (c := c) (by omega) hc m e3
    have k170 : m1 170 = m 170 := M1 170 (by omega) (by omega)
    obtain ⟨m2, b1, f1, f2, P2, W2, L2⟩ := m_dayL (d := d) (T := T) (R := R) (n1 := n1) (L1 := L1) (v1 := nI nn) (v3 := nI i) hd T 0 X tot m1 (by omega) (k170.trans e1) (P.eq k170) (fun t ht => (W t ht).eq k170) (L.to (by omega) k170 (fun a q1 q2 _ => M1 a (by omega) (by omega)))
    have add := dst_add (n1 := n1) (L1 := L1) tot T 0 X 0
    rw [Int32.add_zero] at add
    rw [add] at b1 f2
    have bk : ∀ x, x < 324 * (if c = 6 then 6 else c + 1) → m2 172 x = keepB c X B x := fun x hx => by
      rw [f1 172 (by omega) (by omega) (by omega)]
      unfold keepB
      by_cases c6 : c = 6
      · rw [if_pos c6] at M3 hx ⊢
        by_cases g : x < 1620
        · rw [if_pos g, M3.2.2 x g, e2 _ (by omega)]
        · have := M3.2.1 (x - 1620) (by omega)
          rw [show 1620 + (x - 1620) = x by omega, e1] at this
          rw [if_neg g, if_pos (by omega), this]
      · rw [if_neg c6] at M3 hx ⊢
        by_cases g : x < 324 * c
        · rw [if_neg (by omega), M3.2.2 x g, e2 x g]
        · have := M3.2.1 (x - 324 * c) (by omega)
          rw [show 324 * c + (x - 324 * c) = x by omega, e1] at this
          rw [if_pos (by omega), this]
    have b3 : m2 169 3 = nI (if c = 6 then 6 else c + 1) := by
      rw [f1 169 (by omega) (by omega) (by omega)]
      by_cases c6 : c = 6
      · rw [if_pos c6] at M3 ⊢; exact M3.1
      · rw [if_neg c6] at M3 ⊢; exact M3.1
    obtain ⟨m3, g1, g2, g3, g4, g5, g6⟩ := ih (i + 1) (dyn n1 L1 T ((X, B), (c, tot))) m2 (.int (nI T)) (by omega) f2 bk b3 (by
      show (if c = 6 then 6 else c + 1) ≤ 6
      by_cases c6 : c = 6
      · rw [if_pos c6]; omega
      · rw [if_neg c6]; omega) P2 W2 L2
    refine ⟨m3, ?_, fun k q1 q2 q3 q4 q5 => ?_, fun j hj => ?_, g4, g5, g6⟩
    · rw [b_X10_days_30, if_pos (nI_lt (by omega) (by omega)), a1, pm_bd_s]
      refine Eq.trans b1 ?_
      rw [nI_1]
      exact g1
    · rw [g2 k q1 q2 q3 q4 q5, f1 k q2 q4 q5, M1 k q3 q1]
    · rw [g3 j hj, f1 169 (by omega) (by omega) (by omega), M2 j hj]
theorem dyN_o {n1 T j : Nat} {L1 : Nat → Ln} (hT : T ≤ 16) (hj : 324 ≤ j) : ∀ (n : Nat) (s : DS), (dyN n1 L1 T n s).1.1 j = s.1.1 j := by
  intro n
  induction n with
  | zero => intro s; rfl
  | succ n ih =>
    intro s
    show (dyN n1 L1 T n (dyn n1 L1 T s)).1.1 j = _
    rw [ih]
    show upd (itr (dst n1 L1) 0 T (s.1.1, 0)).1 0 (s.1.1 0 + 1) j = _
    rw [pk_un (by omega), itr_o (by omega) T 0 (s.1.1, 0) (by omega)]
theorem KR.fr2 {T R A c nx : Nat} {h h' : pm_Hp} (e1 : ∀ k, 77 ≤ k → k ≤ 132 → h' k = h k) (e2 : h' 169 3 = h 169 3) (e3 : ∀ x, x < 324 * c → h' 172 x = h 172 x) (o2 : ∀ k, 1 ≤ k → k ≤ 15 → h' k = h k) (o3 : ∀ x, 324 ≤ x → x < 396 → h' 170 x = h 170 x) (Z : KR T R A c nx h) : KR T R A c nx h' := by
  obtain ⟨hc, hn, z1, z2, z3, z4⟩ := Z
  refine ⟨hc, hn, by rw [e1 77 (by omega) (by omega)]; exact z1, by rw [e1 77 (by omega) (by omega)]; exact z2, by rw [e2]; exact z3, fun x hx => ?_⟩
  have old := z4 x hx
  have lt : (nx + 5 - x) % 6 < 6 := Nat.mod_lt _ (by omega)
  have hj : c - 1 - x + 1 ≤ c := by omega
  generalize (nx + 5 - x) % 6 = i at lt old ⊢
  generalize c - 1 - x = j at hj old ⊢
  exact old.ag (kh_ag (fun x h1 h2 => by rw [e1 _ (by omega) (by omega)]) (fun r x h1 h2 h3 => by rw [e1 _ (by omega) (by omega)]) (fun x hx => by rw [e1 _ (by omega) (by omega)]) (fun x hx => e3 _ (by omega)) (o2 1 (by omega) (by omega)) (fun k h1 h2 => o2 k (by omega) h2) o3)
theorem q_days {d T R A n0 n1 q N M c nx : Nat} {L0 L1 : Nat → Ln} {h : pm_Hp} (hd : 11 ≤ d) (F : FS T R A n0 n1 q N M L0 L1 h) (Z : KR T R A c nx h) (I : IM h) (v : Int32) : MU d 125 242 [.int v] h := by
  obtain ⟨d, rfl, -⟩ := dpos hd
  have P := F.1.1
  have hT := P.1
  obtain ⟨s1, s2, s3, s4, ⟨dd, hdd, edd⟩, s6⟩ := F.1.2.2.1
  by_cases g1 : ¬ v < 1 ∧ v ≤ nI 60
  · have v0 : ¬ v < 0 := fun a => g1.1 (Int32.lt_trans a (by decide))
    obtain ⟨n, hn, rfl⟩ := kd_ex (n := 60) (by omega) ⟨v0, g1.2⟩
    have n1' : 1 ≤ n := by
      have := g1.1
      rw [show (1 : Int32) = nI 1 from rfl, nI_ltI (by omega) (by omega)] at this
      omega
    by_cases g2 : dd + n ≤ 9999
    · have K0 : FK T R A (VV (h 170) (h 172) (nI c) h) := by rw [← Z.2.2.2.2.1, VV_self]; exact F.1
      have Z0 : KR T R A c nx (VV (h 170) (h 172) (nI c) h) := by
        have := Z
        rw [← Z.2.2.2.2.1, VV_self]; exact this
      obtain ⟨nx', g', a1, f1, K1, Z1, f5⟩ := c_daysL (d := d) (n1 := n1) (nn := n) (L1 := L1) (by omega) hn n 0 nx ((h 170, h 172), (c, 0)) h (by omega) K0 Z0 F.2.2.2.1 ⟨dd, g2, edd⟩
      have o : ∀ k, k ≠ 2 → k ≠ 3 → k ≠ 4 → k ≠ 5 → k ≠ 31 → k ≠ 37 → (k < 77 ∨ 132 < k) → k ≠ 150 → g' k = h k := f1
      have e170 : g' 170 = h 170 := o 170 (by omega) (by omega) (by omega) (by omega) (by omega) (by omega) (by omega) (by omega)
      have e169 : g' 169 = h 169 := o 169 (by omega) (by omega) (by omega) (by omega) (by omega) (by omega) (by omega) (by omega)
      obtain ⟨m', b1, w1, w2, w3, w4, w5⟩ := m_daysL (d := d) (T := T) (R := R) (n1 := n1) (nn := n) (L1 := L1) (by omega) hn n 0 ((h 170, h 172), (c, 0)) g' .null (by omega) e170 (fun x _ => by rw [o 172 (by omega) (by omega) (by omega) (by omega) (by omega) (by omega) (by omega) (by omega)]) (by rw [e169]; exact Z.2.2.2.2.1) Z.1 (P.m.eq e170) (fun t ht => (F.1.2.1 t ht).eq e170) (F.2.2.2.1.to (by omega) e170 (fun a q1 q2 _ => o a (by omega) (by omega) (by omega) (by omega) (by omega) (by omega) (by omega) (by omega)))
      generalize hs : dyN n1 L1 T n ((h 170, h 172), (c, 0)) = s at a1 K1 Z1 b1 w3 w4 w5
      have so : ∀ j, 324 ≤ j → s.1.1 j = h 170 j := fun j hj => by rw [← hs]; exact dyN_o hT hj n _
      have x170 : ∀ j, 324 ≤ j → m' 170 j = h 170 j := fun j hj => by rw [w3]; exact so j hj
      have K2 : FK T R A m' := by
        have ag2 : agS (VV s.1.1 s.1.2 (nI s.2.1) g') m' := agS.of (fun k q1 q2 => by rw [VV_o (by omega) (by omega) (by omega), w1 k (by omega) (by omega) (by omega) (by omega) (by omega)]) w3
        exact K1.ag ag2
      have Z2 : KR T R A s.2.1 nx' m' := Z1.fr2 (fun k q1 q2 => by rw [VV_o (by omega) (by omega) (by omega), w1 k (by omega) (by omega) (by omega) (by omega) (by omega)]) w5 w4 (fun k q1 q2 => by rw [VV_o (by omega) (by omega) (by omega), w1 k (by omega) (by omega) (by omega) (by omega) (by omega)]) (fun x q1 q2 => by rw [w3]; rfl)
      have oo : ∀ k, k ≠ 2 → k ≠ 3 → k ≠ 4 → k ≠ 5 → k ≠ 31 → k ≠ 37 → (k < 77 ∨ 132 < k) → k ≠ 150 → k ≠ 169 → k ≠ 170 → k ≠ 172 → k ≠ 178 → k ≠ 179 → m' k = h k := fun k q1 q2 q3 q4 q5 q6 q7 q8 r1 r2 r3 r4 r5 => by rw [w1 k r1 r2 r3 r4 r5, o k q1 q2 q3 q4 q5 q6 q7 q8]
      have w2' : ∀ j, j ≠ 3 → m' 169 j = h 169 j := fun j hj => by rw [w2 j hj, e169]
      have e1 : pm_ev (d + 1) 125 [.ref 0, .int (nI n)] h = some (s.2.2, g') := by
        rw [e_X9_days, if_neg g1.1, if_pos g1.2, s1, edd, nI_add, if_pos (nI_le g2 (by omega))]
        exact a1
      have e2 : pm_ev (d + 1) 242 [.ref 169, .int (nI n)] g' = some (s.2.2, m') := by
        rw [e_X10_days, m_isIn (by omega), pm_bd_s, b2_t g1, if_neg (by decide), e170, edd, nI_add, if_pos (nI_le g2 (by omega))]
        exact b1
      refine ⟨s.2.2, g', m', e1, e2, ⟨fun k q1 q2 => oo k (by omega) (by omega) (by omega) (by omega) (by omega) (by omega) (by omega) (by omega) (by omega) (by omega) (by omega) (by omega) (by omega), fun k q1 q2 => oo k (by omega) (by omega) (by omega) (by omega) (by omega) (by omega) (by omega) (by omega) (by omega) (by omega) (by omega) (by omega) (by omega), fun j q1 _ => w2' j q1⟩, Or.inr ⟨?_, ⟨T, R, A, n0, n1, q, N, M, L0, L1, F.k K2 ?_ ?_ (Nat.le_refl _) (fun j hj => x170 j (by omega)) (fun k q1 q2 q3 q4 => oo k (by omega) (by omega) (by omega) (by omega) (by omega) (by omega) (by omega) (by omega) (by omega) (by omega) (by omega) (by omega) (by omega)) (by rw [oo 1 (by omega) (by omega) (by omega) (by omega) (by omega) (by omega) (by omega) (by omega) (by omega) (by omega) (by omega) (by omega) (by omega)]), _, _, Z2⟩, I.ag (fun k q1 q2 => oo k (by omega) (by omega) (by omega) (by omega) (by omega) (by omega) (by omega) (by omega) (by omega) (by omega) (by omega) (by omega) (by omega)) (oo 171 (by omega) (by omega) (by omega) (by omega) (by omega) (by omega) (by omega) (by omega) (by omega) (by omega) (by omega) (by omega) (by omega)) (by rw [oo 0 (by omega) (by omega) (by omega) (by omega) (by omega) (by omega) (by omega) (by omega) (by omega) (by omega) (by omega) (by omega) (by omega)]) (w2' 4 (by omega))⟩⟩
      · rw [w1 150 (by omega) (by omega) (by omega) (by omega) (by omega)]
        exact f5 (Or.inl (by omega))
      · exact F.2.1.rg (fun j h1 h2 => x170 j (by omega)) (x170 _ (by omega)) (by rw [oo 1 (by omega) (by omega) (by omega) (by omega) (by omega) (by omega) (by omega) (by omega) (by omega) (by omega) (by omega) (by omega) (by omega)]) (fun j _ => by rw [oo 14 (by omega) (by omega) (by omega) (by omega) (by omega) (by omega) (by omega) (by omega) (by omega) (by omega) (by omega) (by omega) (by omega)])
      · exact F.2.2.2.2.2.2.rg (fun j h1 h2 => x170 j (by omega)) (oo 16 (by omega) (by omega) (by omega) (by omega) (by omega) (by omega) (by omega) (by omega) (by omega) (by omega) (by omega) (by omega) (by omega))
    · refine MU.no (r := -1) ?_ ?_
      · rw [e_X9_days, if_neg g1.1, if_pos g1.2, s1, edd, nI_add, if_neg (fun z => g2 ((nI_leI (by omega) (by omega)).mp z))]
      · rw [e_X10_days, m_isIn (by omega), pm_bd_s, b2_t g1, if_neg (by decide), edd, nI_add, if_neg (fun z => g2 ((nI_leI (by omega) (by omega)).mp z))]
  · refine MU.no (r := -1) ?_ ?_
    · rw [e_X9_days]
      by_cases a : v < 1
      · rw [if_pos a]
      · rw [if_neg a, if_neg (fun b => g1 ⟨a, b⟩)]
    · rw [e_X10_days, m_isIn (by omega), pm_bd_s, b2_f g1, if_pos rfl]
