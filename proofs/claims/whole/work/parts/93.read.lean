section
variable {tp : Nat → Nat} {n K : Nat}
theorem pU_f {c v : Nat → Nat} {k : Nat} {e : Nat × Nat} (hu : pU c v k = .inl e) : e = (1, k) := by
  unfold pU at hu
  by_cases q1 : c k = 2
  · rw [if_pos q1] at hu; cases hu
  · rw [if_neg q1] at hu
    by_cases q2 : 209 ≤ c k ∧ c k ≤ 216
    · rw [if_pos q2] at hu; cases hu
    · rw [if_neg q2] at hu
      by_cases q3 : c k = 203
      · rw [if_pos q3] at hu; cases hu
      · rw [if_neg q3] at hu; cases hu; rfl
theorem c_sum {d o k : Nat} {acc : List Op} {h : pm_Hp} (hd : 4 ≤ d) (hK : KE tp n K) (S : CS tp n K k acc h) (hl : cln acc ≤ k) : ∃ R r h', PX (tc tp n) (tv tp n) 7 o k R ∧ pm_ev d 92 [.ref 133] h = some (r, h') ∧ FC h h' ∧ OC tp n K acc h h' r R := by
  obtain ⟨d, rfl, -⟩ := dpos hd
  obtain ⟨r, h1, a1, a2, a3⟩ := c_unit0 (d := d) (by omega) hK S hl
  rw [e_X5_readSum, a1, pm_bd_s]
  cases hu : pU (tc tp n) (tv tp n) k with
  | inl e =>
    rw [hu] at a3
    have he := pU_f hu
    rw [if_pos a3.1]
    exact ⟨.inl e, 0, h1, PX.p7f (by rw [he] at hu ⊢; exact PX.p5f hu (by omega)), rfl, a2, rfl, a3.2⟩
  | inr q =>
    rw [hu] at a3
    obtain ⟨hr, a4, a5, a6⟩ := a3
    obtain ⟨l, k1⟩ := q
    obtain ⟨u1, u2, u3, u4⟩ := pU_inv hK.2.2.2.2.1 hu
    subst u1
    have a4 : CS tp n K (k + 1) (acc ++ l) h1 := a4
    rw [if_neg (by rw [hr]; decide)]
    obtain ⟨R, r2, h2, b1, b2, b3, b4⟩ := c_sumL (d := d) (o := o) (by omega) hK (K - (k + 1)) (k + 1) 0 0 (acc ++ l) h1 .null (Nat.le_refl _) a4 (by rw [if_pos rfl, cln_app, u4]; omega) (by omega) (Or.inl rfl)
    refine ⟨ap l R, r2, h2, ?_, b2, a2.tr b3, OC.ap a5 a6 b4⟩
    rcases b1 with ⟨e, b1, rfl⟩ | ⟨l4, k4, S6, b1, b5, rfl⟩
    · exact PX.p7f (PX.p5 hu b1)
    · have := PX.p7 (PX.p5 hu b1) b5
      rw [ap_ap, show fl 0 = [] from rfl, List.append_nil]
      exact this
theorem c_pass {d k t : Nat} {acc : List Op} {h : pm_Hp} (hd : 2 ≤ d) (hK : KE tp n K) (S : CS tp n K k acc h) (ht : t < 300) : (tc tp n k = t → pm_ev d 87 [.ref 133, .int (nI t)] h = some (1, pm_up h 133 10 (nI (k + 1)))) ∧ (tc tp n k ≠ t → pm_ev d 87 [.ref 133, .int (nI t)] h = some (0, pm_up (pm_up h 133 2 1) 133 3 (nI (tl_ tp n k)))) := by
  obtain ⟨d, rfl, -⟩ := dpos hd
  have c3 := hK.2.2.2.1 k
  refine ⟨fun g => ?_, fun g => ?_⟩
  · rw [e_X5_pass, c_token (by omega) hK S, pm_bd_s, if_pos (by rw [g]), S.2.2.1, nI_1]
  · rw [e_X5_pass, c_token (by omega) hK S, pm_bd_s, if_neg (fun z => g ((nI_eq (by omega) (by omega)).mp z)), c_refuse (by omega) hK S, pm_bd_s, pm_bw_0]
def CCc (tp : Nat → Nat) (n K o : Nat) : Prop := ∀ (d k : Nat) (acc : List Op) (h : pm_Hp), 5 + 2 * (8 - o) ≤ d → CS tp n K k acc h → cln acc ≤ k → ∃ R r h', PX (tc tp n) (tv tp n) 0 o k R ∧ pm_ev d 91 [.ref 133, .int (nI o)] h = some (r, h') ∧ FC h h' ∧ OC tp n K acc h h' r R
def EEc (tp : Nat → Nat) (n K o : Nat) : Prop := ∀ (d k : Nat) (acc : List Op) (h : pm_Hp), 6 + 2 * (8 - o) ≤ d → CS tp n K k acc h → cln acc ≤ k → ∃ R r h', PX (tc tp n) (tv tp n) 3 o k R ∧ pm_ev d 89 [.ref 133, .int (nI o)] h = some (r, h') ∧ FC h h' ∧ OC tp n K acc h h' r R
theorem c_eitL {d o : Nat} (hd : 5 + 2 * (8 - o) ≤ d) (ho : o ≤ 8) (hK : KE tp n K) (hC : CCc tp n K o) : ∀ (m k p t : Nat) (acc : List Op) (h : pm_Hp) (u : Value), K - k ≤ m → CS tp n K k acc h → cln acc + (if p = 0 then 0 else 1) ≤ k → t ≤ k → (p = 0 ∨ p = 206) → ∃ R r h', LQ (tc tp n) (tv tp n) 1 2 p o k R ∧ pm_rn d kX5_readEither 14 [.ref 133, .int (nI o), .int (nI p), .int (nI t), u] [] h = some (r, h') ∧ FC h h' ∧ OC tp n K acc h h' r R := by
  have K4 := hK.1
  have fin : ∀ (k p : Nat) (acc : List Op) (h : pm_Hp), CS tp n K k acc h → (p = 0 ∨ cln acc < 400) → (p = 0 ∨ p = 206) → tc tp n k ≠ 206 → tc tp n k ≠ 207 → ∃ R r h', LQ (tc tp n) (tv tp n) 1 2 p o k R ∧ (pm_bd (pm_ev d 90 [.ref 133, .int (nI p)] h) fun _ y82 => some ((1 : Int32), y82)) = some (r, h') ∧ FC h h' ∧ OC tp n K acc h h' r R := fun k p acc h S hl hp g1 g2 => by
    by_cases p0 : p = 0
    · subst p0
      obtain ⟨d, rfl, -⟩ := dpos (show 0 + 1 ≤ d by omega)
      exact ⟨.inr ([], k), 1, h, Or.inr ⟨[], k, .inr ([], k), PX.p1e g2, PX.p2e g1, rfl⟩, by rw [e_X5_emitPending, if_pos nI_0, pm_bd_s], FC.rf, rfl, by show CS tp n K k (acc ++ []) h; rw [List.append_nil]; exact S, rfl, rfl⟩
    · obtain ⟨h', a1, a2, a3, a4, a5⟩ := c_pend (d := d) (p := p) (by omega) (by omega) S (by omega)
      exact ⟨.inr (fl p, k), 1, h', Or.inr ⟨[], k, .inr ([], k), PX.p1e g2, PX.p2e g1, by show _ = Sum.inr ([] ++ fl p ++ [], k); rw [List.append_nil, List.nil_append]⟩, by rw [a1, pm_bd_s], a2, rfl, a3, a4, a5⟩
  intro m
  induction m with
  | zero =>
    intro k p t acc h u hm S hl ht hp
    have kk := S.2.2.2.1
    have : k = K := by omega
    subst this
    have c0 := hK.2.1
    have hl3 : p = 0 ∨ cln acc < 400 := by
      by_cases g : p = 0
      · exact Or.inl g
      · rw [if_neg g] at hl; exact Or.inr (by omega)
    rw [b_X5_readEither_14]
    by_cases gt : t < 400
    · rw [if_pos (nI_lt gt (by omega)), c_token (by omega) hK S, pm_bd_s, c0, if_neg (by decide), if_neg (by decide)]
      exact fin k p acc h S hl3 hp (by omega) (by omega)
    · rw [if_neg (nI_nlt (by omega) (by omega))]
      exact fin k p acc h S hl3 hp (by omega) (by omega)
  | succ m ih =>
    intro k p t acc h u hm S hl ht hp
    have kk := S.2.2.2.1
    have hl2 : cln acc ≤ k := by
      by_cases g : p = 0
      · rw [if_pos g] at hl; omega
      · rw [if_neg g] at hl; omega
    by_cases kK : k < K
    · have s10 := S.2.2.1
      have A := S.adv (k' := k + 1) (by omega)
      have c3 := hK.2.2.2.1 k
      have FA : FC h (pm_up h 133 10 (nI (k + 1))) := FC.rf.at_
      have e23 : (pm_up h 133 10 (nI (k + 1))) 133 2 = h 133 2 ∧ (pm_up h 133 10 (nI (k + 1))) 133 3 = h 133 3 := ⟨pm_up_j (by omega), pm_up_j (by omega)⟩
      rw [b_X5_readEither_14, if_pos (nI_lt (by omega) (by omega)), c_token (by omega) hK S, pm_bd_s]
      by_cases g207 : tc tp n k = 207
      · rw [g207, if_neg (by decide), if_pos rfl, if_neg (by decide), s10, nI_1, nI_1]
        obtain ⟨R, r, h1, a0, a1, a2, a3⟩ := hC d (k + 1) acc _ hd A (by omega)
        rw [a1, pm_bd_s]
        cases R with
        | inl e =>
          rw [if_pos a3.1]
          exact ⟨.inl e, 0, h1, Or.inl ⟨e, PX.p1f g207 a0, rfl⟩, rfl, FA.tr a2, rfl, a3.2⟩
        | inr q =>
          obtain ⟨hr, a4, a5, a6⟩ := a3
          obtain ⟨l, k1⟩ := q
          have a4 : CS tp n K k1 (acc ++ l) h1 := a4
          obtain ⟨x1, x2, x3, x4⟩ := a0.ok hK.2.2.2.2.1 hK.2.2.1 (by omega) ho
          have kK2 := a4.2.2.2.1
          have s7 := a4.2.2.2.2.1
          have cl : cln (acc ++ l) + 1 ≤ k1 := by rw [cln_app]; omega
          rw [if_neg (by rw [hr]; decide), if_pos rfl, c_emit (by omega) s7 (by omega), pm_bd_s]
          have B := a4.em (o := (31, 0)) (by show (31 : Nat) ≠ 26; omega)
          have cl2 : cln (acc ++ l ++ [((31, 0) : Op)]) = cln (acc ++ l) + 1 := by rw [cln_app]; rfl
          obtain ⟨R, r2, h2, b1, b2, b3, b4⟩ := ih k1 p (t + 1) (acc ++ l ++ [(31, 0)]) _ (.int (nI 207)) (by omega) B (by
            rw [cl2, cln_app]
            by_cases g : p = 0
            · rw [if_pos g]; omega
            · rw [if_neg g] at hl ⊢; omega) (by omega) hp
          refine ⟨ap (l ++ [(31, 0)]) R, r2, h2, ?_, b2, FA.tr (a2.tr (FC.rf.em.tr b3)), ?_⟩
          · rcases b1 with ⟨e, b1, rfl⟩ | ⟨l4, k4, S6, b1, b5, rfl⟩
            · exact Or.inl ⟨e, PX.p1s g207 a0 b1, rfl⟩
            · refine Or.inr ⟨l ++ [(31, 0)] ++ l4, k4, S6, PX.p1s g207 a0 b1, b5, ?_⟩
              rw [ap_ap, List.append_assoc, List.append_assoc, List.append_assoc]
          · rw [← ap_ap]
            refine OC.ap (h := h1) (a5.trans e23.1) (a6.trans e23.2) (OC.ap (h := pm_up (pm_up h1 136 (cln (acc ++ l)) (enc (31, 0) 0)) 135 7 (nI (cln (acc ++ l) + 1))) (by rw [pm_up_k (by omega), pm_up_k (by omega)]) (by rw [pm_up_k (by omega), pm_up_k (by omega)]) b4)
      · by_cases g206 : tc tp n k = 206
        · rw [g206, if_pos rfl, if_pos rfl]
          obtain ⟨h1, a1, a2, a3, a4, a5⟩ := c_pend (d := d) (p := p) (by omega) (by omega) S (by omega)
          have b10 := a3.2.2.1
          have A1 := a3.adv (k' := k + 1) (by omega)
          have clp : cln (acc ++ fl p) ≤ k := by
            rw [cln_app]
            rcases hp with rfl | rfl
            · show cln acc + 0 ≤ k; omega
            · show cln acc + 1 ≤ k; rw [if_neg (by omega)] at hl; exact hl
          rw [a1, pm_bd_s, b10, nI_1, nI_1]
          obtain ⟨R0, r, h2, x0, x1, x2, x3⟩ := hC d (k + 1) (acc ++ fl p) _ hd A1 (by omega)
          rw [x1, pm_bd_s]
          have f1 : FC h (pm_up h1 133 10 (nI (k + 1))) := a2.at_
          have e2 : pm_up h1 133 10 (nI (k + 1)) 133 2 = h 133 2 := by rw [pm_up_j (by omega)]; exact a4
          have e3 : pm_up h1 133 10 (nI (k + 1)) 133 3 = h 133 3 := by rw [pm_up_j (by omega)]; exact a5
          have n1 : PX (tc tp n) (tv tp n) 1 o k (.inr ([], k)) := PX.p1e g207
          cases R0 with
          | inl e =>
            rw [if_pos x3.1]
            exact ⟨.inl e, 0, h2, Or.inr ⟨[], k, .inl e, n1, PX.p2f g206 x0, rfl⟩, rfl, f1.tr x2, rfl, x3.2⟩
          | inr q =>
            obtain ⟨hr, y4, y5, y6⟩ := x3
            obtain ⟨l, k1⟩ := q
            have y4 : CS tp n K k1 (acc ++ fl p ++ l) h2 := y4
            obtain ⟨z1, z2, z3, z4⟩ := x0.ok hK.2.2.2.2.1 hK.2.2.1 (by omega) ho
            rw [if_neg (by rw [hr]; decide), if_neg (by decide)]
            obtain ⟨R, r2, h3, b1, b2, b3, b4⟩ := ih k1 206 (t + 1) (acc ++ fl p ++ l) h2 (.int (nI 206)) (by omega) y4 (by rw [cln_app, if_neg (by omega)]; omega) (by omega) (by omega)
            refine ⟨ap (fl p) (ap l R), r2, h3, ?_, b2, f1.tr (x2.tr b3), OC.ap (h := pm_up h1 133 10 (nI (k + 1))) e2 e3 (OC.ap (h := h2) y5 y6 b4)⟩
            refine Or.inr ⟨[], k, ?_⟩
            rcases b1 with ⟨e, b1, rfl⟩ | ⟨l4, k4, S6, b1, b5, rfl⟩
            · exact ⟨.inl e, n1, PX.p2g g206 x0 b1, rfl⟩
            · refine ⟨_, n1, PX.p2s g206 x0 b1 b5, ?_⟩
              rw [show fl 206 = [(32, 0)] from rfl, ap_ap, ap_ap, ap_ap, List.nil_append]
              congr 1
              simp only [List.append_assoc]
        · rw [if_neg (fun z => g206 ((nI_eq (by omega) (by omega)).mp z)), if_neg (fun z => g207 ((nI_eq (by omega) (by omega)).mp z))]
          exact fin k p acc h S (Or.inr (by omega)) hp g206 g207
    · exact ih k p t acc h u (by omega) S hl ht hp
theorem c_eit {o : Nat} (ho : o ≤ 8) (hK : KE tp n K) (hC : CCc tp n K o) : EEc tp n K o := fun d k acc h hd S hl => by
  obtain ⟨d, rfl, -⟩ := dpos (show (5 + 2 * (8 - o)) + 1 ≤ d by omega)
  obtain ⟨R, r, h1, a0, a1, a2, a3⟩ := hC d k acc h (by omega) S hl
  rw [e_X5_readEither, a1, pm_bd_s]
  cases R with
  | inl e =>
    rw [if_pos a3.1]
    exact ⟨.inl e, 0, h1, PX.p3f a0, rfl, a2, rfl, a3.2⟩
  | inr q =>
    obtain ⟨hr, a4, a5, a6⟩ := a3
    obtain ⟨l, k1⟩ := q
    have a4 : CS tp n K k1 (acc ++ l) h1 := a4
    obtain ⟨x1, x2, x3, x4⟩ := a0.ok hK.2.2.2.2.1 hK.2.2.1 (by omega) ho
    rw [if_neg (by rw [hr]; decide)]
    obtain ⟨R, r2, h2, b1, b2, b3, b4⟩ := c_eitL (d := d) (by omega) ho hK hC (K - k1) k1 0 0 (acc ++ l) h1 .null (Nat.le_refl _) a4 (by rw [if_pos rfl, cln_app]; omega) (by omega) (Or.inl rfl)
    refine ⟨ap l R, r2, h2, ?_, b2, a2.tr b3, OC.ap a5 a6 b4⟩
    rcases b1 with ⟨e, b1, rfl⟩ | ⟨l4, k4, S6, b1, b5, rfl⟩
    · exact PX.p3g a0 b1
    · have := PX.p3 a0 b1 b5
      rw [ap_ap, show fl 0 = [] from rfl, List.append_nil]
      exact this
theorem c_con {o : Nat} (ho : o ≤ 8) (hK : KE tp n K) (hC : o < 8 → CCc tp n K (o + 1)) : CCc tp n K o := fun d k acc h hd S hl => by
  obtain ⟨d, rfl, -⟩ := dpos (show (4 + 2 * (8 - o)) + 1 ≤ d by omega)
  have K4 := hK.1
  have kk := S.2.2.2.1
  have s10 := S.2.2.1
  have c3 := hK.2.2.2.1 k
  have tk := c_token (d := d) (by omega) hK S
  have FA : FC h (pm_up h 133 10 (nI (k + 1))) := FC.rf.at_
  have e23 : (pm_up h 133 10 (nI (k + 1))) 133 2 = h 133 2 ∧ (pm_up h 133 10 (nI (k + 1))) 133 3 = h 133 3 := ⟨pm_up_j (by omega), pm_up_j (by omega)⟩
  rw [e_X5_readCondition, tk, pm_bd_s]
  by_cases g1 : tc tp n k = 208
  · have kK := hK.2.2.1 k (by omega)
    have A := S.adv (k' := k + 1) (by omega)
    rw [g1, if_pos rfl, ltn_ite (by omega) (by omega)]
    by_cases g2 : o < 8
    · rw [if_pos g2, if_neg (by decide), if_pos rfl, s10, nI_1, nI_1]
      obtain ⟨R, r, h1, a0, a1, a2, a3⟩ := hC g2 d (k + 1) acc _ (by omega) A (by omega)
      rw [a1, pm_bd_s]
      cases R with
      | inl e =>
        obtain ⟨hr, b1, b2, s, b3, b4⟩ := a3
        obtain ⟨h2, s', f1, f2, f3, f4, f5⟩ := c_emitX (d := d) (h := h1) (by omega) b4 b3 (-208)
        rw [f1, pm_bd_s, hr, pm_bw_0]
        exact ⟨.inl e, 0, h2, PX.p0n g1 (by omega) a0, rfl, FA.tr (a2.tr f2), rfl, by rw [f5]; exact b1, by rw [f5]; exact b2, s', f3, f4⟩
      | inr q =>
        obtain ⟨hr, a4, a5, a6⟩ := a3
        obtain ⟨l, k1⟩ := q
        have a4 : CS tp n K k1 (acc ++ l) h1 := a4
        obtain ⟨x1, x2, x3, x4⟩ := a0.ok hK.2.2.2.2.1 hK.2.2.1 (by omega) (by omega)
        have kK2 := a4.2.2.2.1
        have cl : cln (acc ++ l) + 1 ≤ k1 := by rw [cln_app]; omega
        rw [c_emit (by omega) a4.2.2.2.2.1 (by omega), pm_bd_s, hr, pm_bw_1]
        have B := a4.em (o := (30, 0)) (by show (30 : Nat) ≠ 26; omega)
        refine ⟨.inr (l ++ [(30, 0)], k1), 1, _, PX.p0n g1 (by omega) a0, rfl, FA.tr (a2.tr FC.rf.em), rfl, ?_, by rw [pm_up_k (by omega), pm_up_k (by omega)]; exact a5.trans e23.1, by rw [pm_up_k (by omega), pm_up_k (by omega)]; exact a6.trans e23.2⟩
        show CS tp n K k1 (acc ++ (l ++ [(30, 0)])) _
        rw [← List.append_assoc]
        exact B
    · rw [if_neg g2, c_refuse (by omega) hK S, pm_bd_s, pm_bw_0]
      exact ⟨.inl (3, k), 0, _, PX.p0m (Or.inl g1) (by omega), rfl, FC.rf.flt, OC.no S (by omega)⟩
  · rw [if_neg (fun z => g1 ((nI_eq (by omega) (by omega)).mp z))]
    by_cases g2 : tc tp n k = 40
    · have kK := hK.2.2.1 k (by omega)
      have A := S.adv (k' := k + 1) (by omega)
      rw [g2, if_pos rfl, ltn_ite (by omega) (by omega)]
      by_cases g3 : o < 8
      · rw [if_pos g3, if_pos rfl, s10, nI_1, nI_1]
        obtain ⟨R, r, h1, a0, a1, a2, a3⟩ := c_eit (o := o + 1) (by omega) hK (hC g3) d (k + 1) acc _ (by omega) A (by omega)
        rw [a1, pm_bd_s]
        cases R with
        | inl e =>
          rw [if_pos a3.1]
          exact ⟨.inl e, 0, h1, PX.p0b g2 (by omega) a0, rfl, FA.tr a2, rfl, a3.2⟩
        | inr q =>
          obtain ⟨hr, a4, a5, a6⟩ := a3
          obtain ⟨l, k1⟩ := q
          have a4 : CS tp n K k1 (acc ++ l) h1 := a4
          obtain ⟨x1, x2, x3, x4⟩ := a0.ok hK.2.2.2.2.1 hK.2.2.1 (by omega) (by omega)
          have kK2 := a4.2.2.2.1
          have cl : cln (acc ++ l) ≤ k1 := by rw [cln_app]; omega
          obtain ⟨p1, p2⟩ := c_pass (d := d) (t := 41) (by omega) hK a4 (by omega)
          rw [if_neg (by rw [hr]; decide)]
          have pb := PX.p0b g2 (show ¬ 8 ≤ o by omega) a0
          rw [rb_r] at pb
          by_cases g4 : tc tp n k1 = 41
          · rw [p1 g4, pm_bd_s, if_neg (by decide)]
            rw [if_pos g4] at pb
            have kK3 := hK.2.2.1 k1 (by omega)
            exact ⟨.inr (l, k1 + 1), 1, _, pb, rfl, FA.tr a2.at_, rfl, a4.adv (by omega), by rw [pm_up_j (by omega)]; exact a5.trans e23.1, by rw [pm_up_j (by omega)]; exact a6.trans e23.2⟩
          · rw [p2 g4, pm_bd_s, if_pos rfl]
            rw [if_neg g4] at pb
            exact ⟨.inl (1, k1), 0, _, pb, rfl, FA.tr a2.flt, OC.no a4 (by omega)⟩
      · rw [if_neg g3, c_refuse (by omega) hK S, pm_bd_s, pm_bw_0]
        exact ⟨.inl (3, k), 0, _, PX.p0m (Or.inr g2) (by omega), rfl, FC.rf.flt, OC.no S (by omega)⟩
    · rw [if_neg (fun z => g2 ((nI_eq (by omega) (by omega)).mp z)), if_neg (fun z => g2 ((nI_eq (by omega) (by omega)).mp z)), if_neg (fun z => g1 ((nI_eq (by omega) (by omega)).mp z))]
      obtain ⟨R, r, h1, a0, a1, a2, a3⟩ := c_sum (d := d) (o := o) (by omega) hK S hl
      rw [a1, pm_bd_s]
      cases R with
      | inl e =>
        rw [if_pos a3.1]
        exact ⟨.inl e, 0, h1, PX.p0f g1 g2 a0, rfl, a2, rfl, a3.2⟩
      | inr q =>
        obtain ⟨hr, a4, a5, a6⟩ := a3
        obtain ⟨l, k1⟩ := q
        have a4 : CS tp n K k1 (acc ++ l) h1 := a4
        obtain ⟨x1, x2, x3, x4⟩ := a0.ok hK.2.2.2.2.1 hK.2.2.1 (by omega) ho
        have kK2 := a4.2.2.2.1
        have c31 := hK.2.2.2.1 k1
        have cl : cln (acc ++ l) ≤ k1 := by rw [cln_app]; omega
        rw [if_neg (by rw [hr]; decide), c_token (by omega) hK a4, pm_bd_s]
        have cmp : ∀ t0 : Nat, tc tp n k1 = t0 → (t0 = 60 ∨ t0 = 61 ∨ t0 = 62) → ∃ R r h', PX (tc tp n) (tv tp n) 0 o k R ∧ (pm_bd (pm_ev d 92 [.ref 133] (pm_up h1 133 10 ((h1 133 10) + 1))) fun r8 y8 => pm_bd (pm_ev d 47 [.ref 135, .int (-(nI t0))] y8) fun _ y9 => pm_bw r8 (some (r8, y9))) = some (r, h') ∧ FC h h' ∧ OC tp n K acc h h' r R := fun t0 et0 h0 => by
          have kK3 := hK.2.2.1 k1 (by omega)
          have A1 := a4.adv (k' := k1 + 1) (by omega)
          rw [a4.2.2.1, nI_1]
          obtain ⟨R2, r2, h2, b0, b1, b2, b3⟩ := c_sum (d := d) (o := o) (by omega) hK A1 (by omega)
          rw [b1, pm_bd_s]
          have ps := PX.p0s g1 g2 a0 (by omega) b0
          cases R2 with
          | inl e =>
            obtain ⟨hr2, y1, y2, s, y3, y4⟩ := b3
            obtain ⟨h3, s', f1, f2, f3, f4, f5⟩ := c_emitX (d := d) (h := h2) (by omega) y4 y3 (-(nI t0))
            rw [f1, pm_bd_s, hr2, pm_bw_0]
            exact ⟨.inl e, 0, h3, ps, rfl, a2.tr (FC.rf.at_.tr (b2.tr f2)), rfl, by rw [f5]; exact y1, by rw [f5]; exact y2, s', f3, f4⟩
          | inr q =>
            obtain ⟨hr2, b4, b5, b6⟩ := b3
            obtain ⟨l2, k2⟩ := q
            have b4 : CS tp n K k2 (acc ++ l ++ l2) h2 := b4
            obtain ⟨w1, w2, w3, w4⟩ := b0.ok hK.2.2.2.2.1 hK.2.2.1 (by omega) ho
            have kK4 := b4.2.2.2.1
            have cl2 : cln (acc ++ l ++ l2) + 1 ≤ k2 := by rw [cln_app]; omega
            have ee : -(nI t0) = enc (t0 - 33, 0) 0 := by
              rcases h0 with rfl | rfl | rfl <;> rfl
            rw [ee, c_emit (by omega) b4.2.2.2.2.1 (by omega), pm_bd_s, hr2, pm_bw_1]
            have B := b4.em (o := (t0 - 33, 0)) (by show t0 - 33 ≠ 26; omega)
            refine ⟨.inr (l ++ (l2 ++ [(t0 - 33, 0)]), k2), 1, _, by rw [et0] at ps; exact ps, rfl, a2.tr (FC.rf.at_.tr (b2.tr FC.rf.em)), rfl, ?_, ?_, ?_⟩
            · show CS tp n K k2 (acc ++ (l ++ (l2 ++ [(t0 - 33, 0)]))) _
              rw [← List.append_assoc, ← List.append_assoc]
              exact B
            · rw [pm_up_k (by omega), pm_up_k (by omega), b5, pm_up_j (by omega)]; exact a5
            · rw [pm_up_k (by omega), pm_up_k (by omega), b6, pm_up_j (by omega)]; exact a6
        by_cases t60 : tc tp n k1 = 60
        · rw [t60, if_pos rfl]; exact cmp 60 t60 (by omega)
        · rw [if_neg (fun z => t60 ((nI_eq (by omega) (by omega)).mp z))]
          by_cases t61 : tc tp n k1 = 61
          · rw [t61, if_pos rfl]; exact cmp 61 t61 (by omega)
          · rw [if_neg (fun z => t61 ((nI_eq (by omega) (by omega)).mp z))]
            by_cases t62 : tc tp n k1 = 62
            · rw [t62, if_pos rfl]; exact cmp 62 t62 (by omega)
            · rw [if_neg (fun z => t62 ((nI_eq (by omega) (by omega)).mp z)), c_refuse (by omega) hK a4, pm_bd_s, pm_bw_0]
              exact ⟨.inl (1, k1), 0, _, PX.p0g g1 g2 a0 (by omega), rfl, a2.flt, OC.no a4 (by omega)⟩
theorem c_cond (hK : KE tp n K) : ∀ (j o : Nat), o + j = 8 → CCc tp n K o := by
  intro j
  induction j with
  | zero => intro o ho; exact c_con (by omega) hK (fun z => by omega)
  | succ j ih => intro o ho; exact c_con (by omega) hK (fun _ => ih (o + 1) (by omega))
theorem c_either (hK : KE tp n K) : EEc tp n K 0 := c_eit (by omega) hK (c_cond hK 8 0 (by omega))
end
