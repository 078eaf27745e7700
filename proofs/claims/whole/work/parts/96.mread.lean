section
variable {tp : Nat → Nat} {n K r : Nat}
theorem MS.tok {k o : Nat} {acc : List Op} {h : pm_Hp} (S : MS tp n r k acc o h) : h 169 20 = nI (mt r (tc tp n k)) := S.2.2.1.1
theorem m_unit {d k o : Nat} {acc : List Op} {h : pm_Hp} (hd : 8 ≤ d) (B : HB tp n K r) (S : MS tp n r k acc o h) (hl : acc.length ≤ k) (hk : k ≤ K) : ∃ q h', pm_ev d 193 [.ref 169] h = some (q, h') ∧ FR h h' ∧ OM tp n r acc o h' q (pU (tc tp n) (tv tp n) k) := by
  obtain ⟨d, rfl, -⟩ := dpos hd
  have K4 := B.2.2.2.1.1
  have hr := B.2.2.1
  have c3 := B.2.2.2.1.2.2.2.1 k
  have m4 := mt_lt hr c3
  have go : ∀ (q : Nat) (a w : Int32), a = nI q → ((q = 0 ∨ q = 26) → h 169 22 = w) → pU (tc tp n) (tv tp n) k = .inr ([(q, w)], k + 1) → ∃ q h', (pm_bd (pm_ev d 189 [.ref 169, .int a, .int (h 169 22)] h) fun _ y2 => pm_bd (pm_ev d 186 [.ref 169] y2) fun _ y3 => some ((1 : Int32), y3)) = some (q, h') ∧ FR h h' ∧ OM tp n r acc o h' q (pU (tc tp n) (tv tp n) k) := fun q a w ha hv hu => by
    rw [m_lay (by omega) S.2.2.2.1 (by omega), pm_bd_s, hu]
    have S2 := S.lay (w := w) ha hv
    obtain ⟨h', a1, a2, a3⟩ := m_nx (d := d) (by omega) B S2
    rw [a1, pm_bd_s]
    exact ⟨1, h', rfl, FR.rf.lay.tr a2, rfl, a3⟩
  rw [e_X10_unit, S.tok, m_isIn3 (by omega) (by omega) (by omega) (by omega), pm_bd_s, S.tok, nI_ite (by omega) (by omega)]
  by_cases g1 : tc tp n k = 2
  · rw [if_pos (by rw [g1]; rfl), if_pos (b2_f (by rw [mt_f hr]; omega))]
    exact go 0 0 (nI (tv tp n k)) nI_0.symm (fun _ => S.2.2.1.2.2.2 g1) (by unfold pU; rw [if_pos g1])
  · rw [if_neg (by rw [mt_2 hr]; exact g1)]
    by_cases g2 : (209 ≤ tc tp n k ∧ tc tp n k ≤ 216) ∨ tc tp n k = 203
    · rw [b2_t ((mt_f hr).mpr g2), if_neg (by decide), if_neg (by decide)]
      rcases g2 with g2 | g2
      · have e := mt_fv hr g2
        have f1 : 1 ≤ fcd (tc tp n k) ∧ fcd (tc tp n k) ≤ 9 := by
          unfold fcd
          by_cases g : tc tp n k = 216
          · rw [if_pos g]; omega
          · rw [if_neg g]; omega
        exact go (fcd (tc tp n k)) _ 0 (by rw [e, pk_sub (by omega)]; congr 1; omega) (fun z => by omega) (by unfold pU; rw [if_neg g1, if_pos g2])
      · have e := mt_dv hr g2
        exact go 8 _ 0 (by rw [e]; rfl) (fun z => by omega) (by unfold pU; rw [if_neg g1, if_neg (by omega), if_pos g2])
    · rw [b2_f (fun z => g2 ((mt_f hr).mp z)), if_pos rfl]
      obtain ⟨h', a1, a2, a3⟩ := m_bad (e := 1) (d := d) (by omega) S
      rw [show (1 : Int32) = nI 1 from rfl, a1, pm_bd_s, pm_bw_0]
      refine ⟨0, h', rfl, a2, ?_⟩
      rw [show pU (tc tp n) (tv tp n) k = .inl (1, k) by unfold pU; rw [if_neg g1, if_neg (by omega), if_neg (by omega)]]
      exact a3 acc o
theorem m_prodL {d o : Nat} (hd : 8 ≤ d) (B : HB tp n K r) : ∀ (m k : Nat) (acc : List Op) (h : pm_Hp) (u1 u2 : Value), K - k ≤ m → MS tp n r k acc o h → acc.length ≤ k → k ≤ K → ∃ R q h', PX (tc tp n) (tv tp n) 4 o k R ∧ pm_rn d kX10_product 9 [.ref 169, u1, u2] [] h = some (q, h') ∧ FR h h' ∧ OM tp n r acc o h' q R := by
  have K4 := B.2.2.2.1.1
  have hr := B.2.2.1
  have hK := B.2.2.2.1
  intro m
  induction m with
  | zero =>
    intro k acc h u1 u2 hm S hl hk
    have : k = K := by omega
    subst this
    have c0 : tc tp n k = 0 := hK.2.1
    refine ⟨.inr ([], k), 1, h, PX.p4e (by omega) (by omega), ?_, FR.rf, rfl, by show MS tp n r k (acc ++ []) o h; rw [List.append_nil]; exact S⟩
    have t0 : h 169 20 = nI 0 := by rw [S.tok, c0]; rfl
    rw [b_X10_product_9, t0, if_neg (by decide), if_neg (by decide)]
  | succ m ih =>
    intro k acc h u1 u2 hm S hl hk
    have c3 := hK.2.2.2.1 k
    have m4 := mt_lt hr c3
    rw [b_X10_product_9, S.tok, nI_ite (by omega) (by omega), nI_ite (by omega) (by omega), nI_ite (by omega) (by omega)]
    by_cases g1 : tc tp n k = 42
    · have kK := hK.2.2.1 k (by omega)
      have e1 : mt r (tc tp n k) = 142 := (mt_sg hr (s := 42) (by omega) (by omega)).mpr g1
      rw [if_pos e1, if_neg (by omega)]
      obtain ⟨h1, a1, a2, a3⟩ := m_nx (d := d) (by omega) B S
      obtain ⟨q, h2, b1, b2_, b3⟩ := m_unit (d := d) (by omega) B a3 (by omega) (by omega)
      rw [a1, pm_bd_s, b1, pm_bd_s]
      cases hu : pU (tc tp n) (tv tp n) (k + 1) with
      | inl e =>
        rw [hu] at b3
        have he := pU_f hu
        rw [if_pos b3.1]
        exact ⟨.inl e, 0, h2, by rw [he] at hu ⊢; exact PX.p4f g1 hu (by omega), rfl, a2.tr b2_, rfl, b3.2⟩
      | inr p =>
        rw [hu] at b3
        obtain ⟨l, k1⟩ := p
        obtain ⟨v1, v2, v3, v4⟩ := pU_inv hK.2.2.2.2.1 hu
        subst v1
        have ll : l.length ≤ 1 := by have := cln_ge l; omega
        have b4 : MS tp n r (k + 1 + 1) (acc ++ l) o h2 := b3.2
        have kK2 : k + 1 < K := by
          refine hK.2.2.1 (k + 1) (fun z => ?_)
          unfold pU at hu
          rw [if_neg (by omega), if_neg (by omega), if_neg (by omega)] at hu
          cases hu
        rw [if_neg (by rw [b3.1]; decide), m_lay (by omega) b4.2.2.2.1 (by rw [List.length_append]; omega), pm_bd_s]
        have S3 := b4.lay (q := 25) (a := nI 25) (v := 0) (w := 0) rfl (fun z => by omega)
        obtain ⟨R, q2, h3, x1, x2, x3, x4⟩ := ih (k + 1 + 1) (acc ++ l ++ [(25, 0)]) _ (.int 0) u2 (by omega) S3 (by rw [List.length_append, List.length_append]; show acc.length + l.length + 1 ≤ _; omega) (by omega)
        rw [List.append_assoc] at x4
        exact ⟨_, q2, h3, PX.p4s g1 hu x1, x2, a2.tr (b2_.tr (FR.rf.lay.tr x3)), OM.ap x4⟩
    · rw [if_neg (by rw [mt_sg hr (s := 42) (by omega) (by omega)]; exact g1)]
      by_cases g2 : tc tp n k = 47
      · have kK := hK.2.2.1 k (by omega)
        have e1 : mt r (tc tp n k) = 147 := (mt_sg hr (s := 47) (by omega) (by omega)).mpr g2
        rw [if_pos e1, if_pos e1]
        obtain ⟨h1, a1, a2, a3⟩ := m_nx (d := d) (by omega) B S
        have c31 := hK.2.2.2.1 (k + 1)
        have m41 := mt_lt hr c31
        rw [a1, pm_bd_s, a3.tok, nI_ite (by omega) (by omega)]
        by_cases g3 : tc tp n (k + 1) = 2
        · have v22 : h1 169 22 = nI (tv tp n (k + 1)) := a3.2.2.1.2.2.2 g3
          have vb := (hK.2.2.2.2.2 (k + 1)).1
          rw [if_pos (by rw [g3]; rfl), v22]
          by_cases g4 : tv tp n (k + 1) = 0
          · obtain ⟨h2, b1, b2_, b3⟩ := m_bad (e := 2) (d := d) (by omega) a3
            rw [if_pos (by rw [g4]; exact nI_0), b1, pm_bd_s, pm_bw_0]
            exact ⟨.inl (2, k + 1), 0, h2, PX.p4d2 g2 g3 g4, rfl, a2.tr b2_, b3 acc o⟩
          · have kK2 := hK.2.2.1 (k + 1) (by omega)
            obtain ⟨h2, b1, b2_, b3⟩ := m_nx (d := d) (by omega) B a3
            rw [if_neg (show ¬ nI (tv tp n (k + 1)) = 0 from fun z => g4 ((nI_eq (b := 0) (by omega) (by omega)).mp z)), b1, pm_bd_s, m_lay (by omega) b3.2.2.2.1 (by omega), pm_bd_s]
            have S3 := b3.lay (q := 26) (a := nI 26) (v := nI (tv tp n (k + 1))) (w := nI (tv tp n (k + 1))) rfl (fun _ => rfl)
            obtain ⟨R, q2, h3, x1, x2, x3, x4⟩ := ih (k + 1 + 1) (acc ++ [(26, nI (tv tp n (k + 1)))]) _ (.int 1) (.int (nI (tv tp n (k + 1)))) (by omega) S3 (by rw [List.length_append]; show acc.length + 1 ≤ _; omega) (by omega)
            exact ⟨_, q2, h3, PX.p4d g2 g3 g4 x1, x2, a2.tr (b2_.tr (FR.rf.lay.tr x3)), OM.ap x4⟩
        · obtain ⟨h2, b1, b2_, b3⟩ := m_bad (e := 1) (d := d) (by omega) a3
          rw [if_neg (by rw [mt_2 hr]; exact g3), show (1 : Int32) = nI 1 from rfl, b1, pm_bd_s, pm_bw_0]
          exact ⟨.inl (1, k + 1), 0, h2, PX.p4d1 g2 g3, rfl, a2.tr b2_, b3 acc o⟩
      · rw [if_neg (by rw [mt_sg hr (s := 47) (by omega) (by omega)]; exact g2)]
        exact ⟨.inr ([], k), 1, h, PX.p4e g1 g2, rfl, FR.rf, rfl, by show MS tp n r k (acc ++ []) o h; rw [List.append_nil]; exact S⟩
theorem pU_lt {k : Nat} {p : List Op × Nat} (hK : KE tp n K) (hu : pU (tc tp n) (tv tp n) k = .inr p) : k < K := by
  refine hK.2.2.1 k (fun z => ?_)
  unfold pU at hu
  rw [if_neg (by omega), if_neg (by omega), if_neg (by omega)] at hu
  cases hu
theorem m_prod {d k o : Nat} {acc : List Op} {h : pm_Hp} (hd : 9 ≤ d) (B : HB tp n K r) (S : MS tp n r k acc o h) (hl : acc.length ≤ k) (hk : k ≤ K) : ∃ R q h', PX (tc tp n) (tv tp n) 5 o k R ∧ pm_ev d 192 [.ref 169] h = some (q, h') ∧ FR h h' ∧ OM tp n r acc o h' q R := by
  obtain ⟨d, rfl, -⟩ := dpos hd
  have hK := B.2.2.2.1
  obtain ⟨q, h2, b1, b2_, b3⟩ := m_unit (d := d) (by omega) B S hl hk
  rw [e_X10_product, b1, pm_bd_s]
  cases hu : pU (tc tp n) (tv tp n) k with
  | inl e =>
    rw [hu] at b3
    have he := pU_f hu
    rw [if_pos b3.1]
    exact ⟨.inl e, 0, h2, by rw [he] at hu ⊢; exact PX.p5f hu (by omega), rfl, b2_, rfl, b3.2⟩
  | inr p =>
    rw [hu] at b3
    obtain ⟨l, k1⟩ := p
    obtain ⟨v1, v2, v3, v4⟩ := pU_inv hK.2.2.2.2.1 hu
    subst v1
    have ll : l.length ≤ 1 := by have := cln_ge l; omega
    have kK2 := pU_lt hK hu
    have b4 : MS tp n r (k + 1) (acc ++ l) o h2 := b3.2
    rw [if_neg (by rw [b3.1]; decide)]
    obtain ⟨R, q2, h3, x1, x2, x3, x4⟩ := m_prodL (d := d) (o := o) (by omega) B (K - (k + 1)) (k + 1) (acc ++ l) h2 .null .null (Nat.le_refl _) b4 (by rw [List.length_append]; omega) (by omega)
    exact ⟨_, q2, h3, PX.p5 hu x1, x2, b2_.tr x3, OM.ap x4⟩
theorem m_sumL {d o : Nat} (hd : 9 ≤ d) (ho : o ≤ 8) (B : HB tp n K r) : ∀ (m k : Nat) (acc : List Op) (h : pm_Hp) (u1 : Value), K - k ≤ m → MS tp n r k acc o h → acc.length ≤ k → k ≤ K → ∃ R q h', PX (tc tp n) (tv tp n) 6 o k R ∧ pm_rn d kX10_sumUp 9 [.ref 169, u1] [] h = some (q, h') ∧ FR h h' ∧ OM tp n r acc o h' q R := by
  have K4 := B.2.2.2.1.1
  have hr := B.2.2.1
  have hK := B.2.2.2.1
  intro m
  induction m with
  | zero =>
    intro k acc h u1 hm S hl hk
    have : k = K := by omega
    subst this
    have c0 : tc tp n k = 0 := hK.2.1
    refine ⟨.inr ([], k), 1, h, PX.p6e (by omega) (by omega), ?_, FR.rf, rfl, by show MS tp n r k (acc ++ []) o h; rw [List.append_nil]; exact S⟩
    have t0 : h 169 20 = nI 0 := by rw [S.tok, c0]; rfl
    rw [b_X10_sumUp_9, t0, if_neg (by decide), if_neg (by decide)]
  | succ m ih =>
    intro k acc h u1 hm S hl hk
    have c3 := hK.2.2.2.1 k
    have m4 := mt_lt hr c3
    rw [b_X10_sumUp_9, S.tok, nI_ite (by omega) (by omega), nI_ite (by omega) (by omega), nI_ite (by omega) (by omega)]
    have go : ∀ a : Nat, (if tc tp n k = 43 then 23 else 24) = a → (tc tp n k = 43 ∨ tc tp n k = 45) → a ≠ 0 → a ≠ 26 → ∃ R q h', PX (tc tp n) (tv tp n) 6 o k R ∧ (pm_bd (pm_ev d 186 [.ref 169] h) fun _ y1 => pm_bd (pm_ev d 192 [.ref 169] y1) fun r2 y2 => if r2 = 0 then (some ((0 : Int32), y2)) else (pm_bd (pm_ev d 189 [.ref 169, .int (nI a), .int 0] y2) fun _ y3 => pm_rn d kX10_sumUp 9 [.ref 169, .int (nI a)] [] y3)) = some (q, h') ∧ FR h h' ∧ OM tp n r acc o h' q R := fun a ha hg a0 a26 => by
      have kK := hK.2.2.1 k (by omega)
      obtain ⟨h1, a1, a2, a3⟩ := m_nx (d := d) (by omega) B S
      obtain ⟨R, q, h2, b0, b1, b2_, b3⟩ := m_prod (d := d) (by omega) B a3 (by omega) (by omega)
      rw [a1, pm_bd_s, b1, pm_bd_s]
      cases R with
      | inl e =>
        rw [if_pos b3.1]
        exact ⟨.inl e, 0, h2, PX.p6f hg b0, rfl, a2.tr b2_, rfl, b3.2⟩
      | inr p =>
        obtain ⟨l, k1⟩ := p
        obtain ⟨x1, x2, x3, x4⟩ := b0.ok hK.2.2.2.2.1 hK.2.2.1 (by omega) ho
        have ll := cln_ge l
        have b4 : MS tp n r k1 (acc ++ l) o h2 := b3.2
        rw [if_neg (by rw [b3.1]; decide), m_lay (by omega) b4.2.2.2.1 (by rw [List.length_append]; omega), pm_bd_s]
        have S3 := b4.lay (q := a) (a := nI a) (v := 0) (w := 0) rfl (fun z => by omega)
        have lp : 1 ≤ k1 - (k + 1) - l.length ∨ acc.length + l.length + 1 ≤ k1 := by omega
        obtain ⟨R, q2, h3, y1, y2, y3, y4⟩ := ih k1 (acc ++ l ++ [(a, 0)]) _ (.int (nI a)) (by omega) S3 (by rw [List.length_append, List.length_append]; show acc.length + l.length + 1 ≤ _; omega) (by omega)
        rw [List.append_assoc] at y4
        have ps := PX.p6s hg b0 y1
        rw [ha] at ps
        exact ⟨_, q2, h3, ps, y2, a2.tr (b2_.tr (FR.rf.lay.tr y3)), OM.ap y4⟩
    by_cases g1 : tc tp n k = 43
    · have e1 : mt r (tc tp n k) = 143 := (mt_sg hr (s := 43) (by omega) (by omega)).mpr g1
      rw [if_pos e1, if_pos e1]
      exact go 23 (if_pos g1) (by omega) (by omega) (by omega)
    · have e1 : ¬ mt r (tc tp n k) = 143 := by rw [mt_sg hr (s := 43) (by omega) (by omega)]; exact g1
      rw [if_neg e1]
      by_cases g2 : tc tp n k = 45
      · have e2 : mt r (tc tp n k) = 145 := (mt_sg hr (s := 45) (by omega) (by omega)).mpr g2
        rw [if_pos e2, if_neg e1]
        exact go 24 (if_neg g1) (by omega) (by omega) (by omega)
      · rw [if_neg (by rw [mt_sg hr (s := 45) (by omega) (by omega)]; exact g2)]
        exact ⟨.inr ([], k), 1, h, PX.p6e g1 g2, rfl, FR.rf, rfl, by show MS tp n r k (acc ++ []) o h; rw [List.append_nil]; exact S⟩
theorem m_sum {d k o : Nat} {acc : List Op} {h : pm_Hp} (hd : 10 ≤ d) (ho : o ≤ 8) (B : HB tp n K r) (S : MS tp n r k acc o h) (hl : acc.length ≤ k) (hk : k ≤ K) : ∃ R q h', PX (tc tp n) (tv tp n) 7 o k R ∧ pm_ev d 191 [.ref 169] h = some (q, h') ∧ FR h h' ∧ OM tp n r acc o h' q R := by
  obtain ⟨d, rfl, -⟩ := dpos hd
  have hK := B.2.2.2.1
  obtain ⟨R, q, h2, b0, b1, b2_, b3⟩ := m_prod (d := d) (by omega) B S hl hk
  rw [e_X10_sumUp, b1, pm_bd_s]
  cases R with
  | inl e =>
    rw [if_pos b3.1]
    exact ⟨.inl e, 0, h2, PX.p7f b0, rfl, b2_, rfl, b3.2⟩
  | inr p =>
    obtain ⟨l, k1⟩ := p
    obtain ⟨x1, x2, x3, x4⟩ := b0.ok hK.2.2.2.2.1 hK.2.2.1 (by omega) ho
    have ll := cln_ge l
    have b4 : MS tp n r k1 (acc ++ l) o h2 := b3.2
    rw [if_neg (by rw [b3.1]; decide)]
    obtain ⟨R, q2, h3, y1, y2, y3, y4⟩ := m_sumL (d := d) (o := o) (by omega) ho B (K - k1) k1 (acc ++ l) h2 .null (Nat.le_refl _) b4 (by rw [List.length_append]; omega) (by omega)
    exact ⟨_, q2, h3, PX.p7 b0 y1, y2, b2_.tr y3, OM.ap y4⟩
end
