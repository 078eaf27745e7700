section
variable {tp : Nat → Nat} {n K r : Nat}
theorem m_need {d k o t : Nat} {acc : List Op} {h : pm_Hp} (hd : 8 ≤ d) (B : HB tp n K r) (S : MS tp n r k acc o h) (ht : 3 ≤ t ∧ t < 200) : (tc tp n k = t → ∃ h', pm_ev d 188 [.ref 169, .int (nI (100 + t))] h = some (1, h') ∧ FR h h' ∧ MS tp n r (k + 1) acc o h') ∧ (tc tp n k ≠ t → ∃ h', pm_ev d 188 [.ref 169, .int (nI (100 + t))] h = some (0, h') ∧ FR h h' ∧ ∀ (a : List Op) (o' : Nat), OM tp n r a o' h' 0 (.inl (1, k))) := by
  obtain ⟨d, rfl, -⟩ := dpos hd
  have hr := B.2.2.1
  have m4 := mt_lt hr (B.2.2.2.1.2.2.2.1 k)
  refine ⟨fun g => ?_, fun g => ?_⟩
  · obtain ⟨h1, a1, a2, a3⟩ := m_nx (d := d) (by omega) B S
    exact ⟨h1, by rw [e_X10_need, if_pos (by rw [S.tok, (mt_sg hr ht.1 ht.2).mpr g]), a1, pm_bd_s], a2, a3⟩
  · obtain ⟨h1, a1, a2, a3⟩ := m_bad (e := 1) (d := d) (by omega) S
    exact ⟨h1, by rw [e_X10_need, if_neg (by rw [S.tok, nI_eq (by omega) (by omega), mt_sg hr ht.1 ht.2]; exact g), show (1 : Int32) = nI 1 from rfl, a1, pm_bd_s, pm_bw_0], a2, a3⟩
theorem MS.dep {k o o' : Nat} {acc : List Op} {h : pm_Hp} (S : MS tp n r k acc o h) : MS tp n r k acc o' (pm_up h 169 26 (nI o')) := by
  obtain ⟨s1, s2, s3, s4, s5, s6⟩ := S
  have e : ∀ j, j ≠ 26 → pm_up h 169 26 (nI o') 169 j = h 169 j := fun j hj => pm_up_j hj
  exact ⟨s1.to (e 18 (by omega)) (pm_up_n (by omega)), (e 12 (by omega)).trans s2, ⟨(e 20 (by omega)).trans s3.1, (e 21 (by omega)).trans s3.2.1, (e 19 (by omega)).trans s3.2.2.1, fun z => (e 22 (by omega)).trans (s3.2.2.2 z)⟩, (e 15 (by omega)).trans s4, fseg_to acc 0 (fun i _ => by rw [pm_up_n (by omega)]) s5, pm_up_s⟩
theorem m_opens {d k o : Nat} {acc : List Op} {h : pm_Hp} (hd : 8 ≤ d) (B : HB tp n K r) (S : MS tp n r k acc o h) (ho : o ≤ 8) : (o < 8 → ∃ h', pm_ev d 190 [.ref 169] h = some (1, h') ∧ FR h h' ∧ MS tp n r (k + 1) acc (o + 1) h') ∧ (¬ o < 8 → ∃ h', pm_ev d 190 [.ref 169] h = some (0, h') ∧ FR h h' ∧ ∀ (a : List Op) (o' : Nat), OM tp n r a o' h' 0 (.inl (3, k))) := by
  obtain ⟨d, rfl, -⟩ := dpos hd
  have s26 := S.2.2.2.2.2
  refine ⟨fun g => ?_, fun g => ?_⟩
  · obtain ⟨h1, a1, a2, a3⟩ := m_nx (d := d) (by omega) B (S.dep (o' := o + 1))
    exact ⟨h1, by rw [e_X10_opens, s26, if_neg (fun z => by have := (nI_eq (by omega) (by omega)).mp z; omega), nI_1, a1, pm_bd_s], (FR.rf.up (by omega)).tr a2, a3⟩
  · obtain ⟨h1, a1, a2, a3⟩ := m_bad (e := 3) (d := d) (by omega) S
    exact ⟨h1, by rw [e_X10_opens, s26, if_pos (by rw [show o = 8 by omega]), a1, pm_bd_s, pm_bw_0], a2, a3⟩
def MCt (tp : Nat → Nat) (n K r o : Nat) : Prop := ∀ (d k : Nat) (acc : List Op) (h : pm_Hp), 11 + 3 * (8 - o) ≤ d → MS tp n r k acc o h → acc.length ≤ k → k ≤ K → ∃ R q h', PX (tc tp n) (tv tp n) 0 o k R ∧ pm_ev d 196 [.ref 169] h = some (q, h') ∧ FR h h' ∧ OM tp n r acc o h' q R
/-- tests joined by and -/
def EV (c v : Nat → Nat) (o k : Nat) (R : Rz) : Prop := (∃ e, PX c v 0 o k (.inl e) ∧ R = .inl e) ∨ (∃ l k1 e, PX c v 0 o k (.inr (l, k1)) ∧ PX c v 1 o k1 (.inl e) ∧ R = .inl e) ∨ ∃ l k1 l2 k2, PX c v 0 o k (.inr (l, k1)) ∧ PX c v 1 o k1 (.inr (l2, k2)) ∧ R = .inr (l ++ l2, k2)
theorem m_evL {d o : Nat} (hd : 11 + 3 * (8 - o) ≤ d) (ho : o ≤ 8) (B : HB tp n K r) (hC : MCt tp n K r o) : ∀ (m k : Nat) (acc : List Op) (h : pm_Hp), K - k ≤ m → MS tp n r k acc o h → acc.length ≤ k → k ≤ K → ∃ R q h', PX (tc tp n) (tv tp n) 1 o k R ∧ pm_rn d kX10_every 9 [.ref 169] [] h = some (q, h') ∧ FR h h' ∧ OM tp n r acc o h' q R := by
  have K4 := B.2.2.2.1.1
  have hr := B.2.2.1
  have hK := B.2.2.2.1
  have fin : ∀ (k : Nat) (acc : List Op) (h : pm_Hp), MS tp n r k acc o h → tc tp n k ≠ 207 → ∃ R q h', PX (tc tp n) (tv tp n) 1 o k R ∧ pm_rn d kX10_every 9 [.ref 169] [] h = some (q, h') ∧ FR h h' ∧ OM tp n r acc o h' q R := fun k acc h S g => by
    have m4 := mt_lt hr (hK.2.2.2.1 k)
    refine ⟨.inr ([], k), 1, h, PX.p1e g, ?_, FR.rf, rfl, by show MS tp n r k (acc ++ []) o h; rw [List.append_nil]; exact S⟩
    rw [b_X10_every_9, S.tok, nI_ite (by omega) (by omega), if_neg (by rw [(mt_w hr).2.2.1]; exact g)]
  intro m
  induction m with
  | zero =>
    intro k acc h hm S hl hk
    have : k = K := by omega
    subst this
    have c0 : tc tp n k = 0 := hK.2.1
    exact fin k acc h S (by omega)
  | succ m ih =>
    intro k acc h hm S hl hk
    by_cases g : tc tp n k = 207
    · have kK := hK.2.2.1 k (by omega)
      have m4 := mt_lt hr (hK.2.2.2.1 k)
      obtain ⟨h1, a1, a2, a3⟩ := m_nx (d := d) (by omega) B S
      obtain ⟨R, q, h2, b0, b1, b2_, b3⟩ := hC d (k + 1) acc h1 hd a3 (by omega) (by omega)
      rw [b_X10_every_9, S.tok, nI_ite (by omega) (by omega), if_pos ((mt_w hr).2.2.1.mpr g), a1, pm_bd_s, b1, pm_bd_s]
      cases R with
      | inl e =>
        rw [if_pos b3.1]
        exact ⟨.inl e, 0, h2, PX.p1f g b0, rfl, a2.tr b2_, rfl, b3.2⟩
      | inr p =>
        obtain ⟨l, k1⟩ := p
        obtain ⟨x1, x2, x3, x4⟩ := b0.ok hK.2.2.2.2.1 hK.2.2.1 (by omega) ho
        have ll := cln_ge l
        have b4 : MS tp n r k1 (acc ++ l) o h2 := b3.2
        rw [if_neg (by rw [b3.1]; decide), m_lay (by omega) b4.2.2.2.1 (by rw [List.length_append]; omega), pm_bd_s]
        have S3 := b4.lay (q := 31) (a := nI 31) (v := 0) (w := 0) rfl (fun z => by omega)
        obtain ⟨R, q2, h3, y1, y2, y3, y4⟩ := ih k1 (acc ++ l ++ [(31, 0)]) _ (by omega) S3 (by rw [List.length_append, List.length_append]; show acc.length + l.length + 1 ≤ _; omega) (by omega)
        rw [List.append_assoc] at y4
        exact ⟨_, q2, h3, PX.p1s g b0 y1, y2, a2.tr (b2_.tr (FR.rf.lay.tr y3)), OM.ap y4⟩
    · exact fin k acc h S g
theorem m_every {d k o : Nat} {acc : List Op} {h : pm_Hp} (hd : 12 + 3 * (8 - o) ≤ d) (ho : o ≤ 8) (B : HB tp n K r) (hC : MCt tp n K r o) (S : MS tp n r k acc o h) (hl : acc.length ≤ k) (hk : k ≤ K) : ∃ R q h', EV (tc tp n) (tv tp n) o k R ∧ pm_ev d 195 [.ref 169] h = some (q, h') ∧ FR h h' ∧ OM tp n r acc o h' q R := by
  obtain ⟨d, rfl, -⟩ := dpos (show (11 + 3 * (8 - o)) + 1 ≤ d by omega)
  have hK := B.2.2.2.1
  obtain ⟨R, q, h2, b0, b1, b2_, b3⟩ := hC d k acc h (by omega) S hl hk
  rw [e_X10_every, b1, pm_bd_s]
  cases R with
  | inl e =>
    rw [if_pos b3.1]
    exact ⟨.inl e, 0, h2, Or.inl ⟨e, b0, rfl⟩, rfl, b2_, rfl, b3.2⟩
  | inr p =>
    obtain ⟨l, k1⟩ := p
    obtain ⟨x1, x2, x3, x4⟩ := b0.ok hK.2.2.2.2.1 hK.2.2.1 (by omega) ho
    have ll := cln_ge l
    have b4 : MS tp n r k1 (acc ++ l) o h2 := b3.2
    rw [if_neg (by rw [b3.1]; decide)]
    obtain ⟨R, q2, h3, y1, y2, y3, y4⟩ := m_evL (d := d) (o := o) (by omega) ho B hC (K - k1) k1 (acc ++ l) h2 (Nat.le_refl _) b4 (by rw [List.length_append]; omega) (by omega)
    refine ⟨ap l R, q2, h3, ?_, y2, b2_.tr y3, OM.ap y4⟩
    cases R with
    | inl e => exact Or.inr (Or.inl ⟨l, k1, e, b0, y1, rfl⟩)
    | inr p => exact Or.inr (Or.inr ⟨l, k1, p.1, p.2, b0, y1, rfl⟩)
theorem m_anyL {d o : Nat} (hd : 12 + 3 * (8 - o) ≤ d) (ho : o ≤ 8) (B : HB tp n K r) (hC : MCt tp n K r o) : ∀ (m k : Nat) (acc : List Op) (h : pm_Hp), K - k ≤ m → MS tp n r k acc o h → acc.length ≤ k → k ≤ K → ∃ R q h', PX (tc tp n) (tv tp n) 2 o k R ∧ pm_rn d kX10_any 9 [.ref 169] [] h = some (q, h') ∧ FR h h' ∧ OM tp n r acc o h' q R := by
  have K4 := B.2.2.2.1.1
  have hr := B.2.2.1
  have hK := B.2.2.2.1
  have fin : ∀ (k : Nat) (acc : List Op) (h : pm_Hp), MS tp n r k acc o h → tc tp n k ≠ 206 → ∃ R q h', PX (tc tp n) (tv tp n) 2 o k R ∧ pm_rn d kX10_any 9 [.ref 169] [] h = some (q, h') ∧ FR h h' ∧ OM tp n r acc o h' q R := fun k acc h S g => by
    have m4 := mt_lt hr (hK.2.2.2.1 k)
    refine ⟨.inr ([], k), 1, h, PX.p2e g, ?_, FR.rf, rfl, by show MS tp n r k (acc ++ []) o h; rw [List.append_nil]; exact S⟩
    rw [b_X10_any_9, S.tok, nI_ite (by omega) (by omega), if_neg (by rw [(mt_w hr).2.1]; exact g)]
  intro m
  induction m with
  | zero =>
    intro k acc h hm S hl hk
    have : k = K := by omega
    subst this
    have c0 : tc tp n k = 0 := hK.2.1
    exact fin k acc h S (by omega)
  | succ m ih =>
    intro k acc h hm S hl hk
    by_cases g : tc tp n k = 206
    · have kK := hK.2.2.1 k (by omega)
      have m4 := mt_lt hr (hK.2.2.2.1 k)
      obtain ⟨h1, a1, a2, a3⟩ := m_nx (d := d) (by omega) B S
      obtain ⟨R, q, h2, b0, b1, b2_, b3⟩ := m_every (d := d) (by omega) ho B hC a3 (by omega) (by omega)
      rw [b_X10_any_9, S.tok, nI_ite (by omega) (by omega), if_pos ((mt_w hr).2.1.mpr g), a1, pm_bd_s, b1, pm_bd_s]
      rcases b0 with ⟨e, b0, rfl⟩ | ⟨l, k1, e, b0, c0, rfl⟩ | ⟨l, k1, l2, k2, b0, c0, rfl⟩
      · rw [if_pos b3.1]
        exact ⟨.inl e, 0, h2, PX.p2f g b0, rfl, a2.tr b2_, rfl, b3.2⟩
      · rw [if_pos b3.1]
        exact ⟨.inl e, 0, h2, PX.p2g g b0 c0, rfl, a2.tr b2_, rfl, b3.2⟩
      · obtain ⟨x1, x2, x3, x4⟩ := b0.ok hK.2.2.2.2.1 hK.2.2.1 (by omega) ho
        obtain ⟨z1, z2, z3, z4⟩ := c0.ok hK.2.2.2.2.1 hK.2.2.1 (by omega) ho
        have ll := cln_ge l
        have ll2 := cln_ge l2
        have b4 : MS tp n r k2 (acc ++ (l ++ l2)) o h2 := b3.2
        rw [if_neg (by rw [b3.1]; decide), m_lay (by omega) b4.2.2.2.1 (by rw [List.length_append, List.length_append]; omega), pm_bd_s]
        have S3 := b4.lay (q := 32) (a := nI 32) (v := 0) (w := 0) rfl (fun z => by omega)
        obtain ⟨R, q2, h3, y1, y2, y3, y4⟩ := ih k2 (acc ++ (l ++ l2) ++ [(32, 0)]) _ (by omega) S3 (by rw [List.length_append, List.length_append, List.length_append]; show acc.length + (l.length + l2.length) + 1 ≤ _; omega) (by omega)
        rw [List.append_assoc, List.append_assoc] at y4
        exact ⟨_, q2, h3, PX.p2s g b0 c0 y1, y2, a2.tr (b2_.tr (FR.rf.lay.tr y3)), OM.ap y4⟩
    · exact fin k acc h S g
theorem m_any {d k o : Nat} {acc : List Op} {h : pm_Hp} (hd : 13 + 3 * (8 - o) ≤ d) (ho : o ≤ 8) (B : HB tp n K r) (hC : MCt tp n K r o) (S : MS tp n r k acc o h) (hl : acc.length ≤ k) (hk : k ≤ K) : ∃ R q h', PX (tc tp n) (tv tp n) 3 o k R ∧ pm_ev d 194 [.ref 169] h = some (q, h') ∧ FR h h' ∧ OM tp n r acc o h' q R := by
  obtain ⟨d, rfl, -⟩ := dpos (show (12 + 3 * (8 - o)) + 1 ≤ d by omega)
  have hK := B.2.2.2.1
  obtain ⟨R, q, h2, b0, b1, b2_, b3⟩ := m_every (d := d) (by omega) ho B hC S hl hk
  rw [e_X10_any, b1, pm_bd_s]
  rcases b0 with ⟨e, b0, rfl⟩ | ⟨l, k1, e, b0, c0, rfl⟩ | ⟨l, k1, l2, k2, b0, c0, rfl⟩
  · rw [if_pos b3.1]
    exact ⟨.inl e, 0, h2, PX.p3f b0, rfl, b2_, rfl, b3.2⟩
  · rw [if_pos b3.1]
    exact ⟨.inl e, 0, h2, PX.p3g b0 c0, rfl, b2_, rfl, b3.2⟩
  · obtain ⟨x1, x2, x3, x4⟩ := b0.ok hK.2.2.2.2.1 hK.2.2.1 (by omega) ho
    obtain ⟨z1, z2, z3, z4⟩ := c0.ok hK.2.2.2.2.1 hK.2.2.1 (by omega) ho
    have ll := cln_ge l
    have ll2 := cln_ge l2
    have b4 : MS tp n r k2 (acc ++ (l ++ l2)) o h2 := b3.2
    rw [if_neg (by rw [b3.1]; decide)]
    obtain ⟨R, q2, h3, y1, y2, y3, y4⟩ := m_anyL (d := d) (o := o) (by omega) ho B hC (K - k2) k2 (acc ++ (l ++ l2)) h2 (Nat.le_refl _) b4 (by rw [List.length_append, List.length_append]; omega) (by omega)
    exact ⟨_, q2, h3, PX.p3 b0 c0 y1, y2, b2_.tr y3, OM.ap y4⟩
theorem m_one {o : Nat} (ho : o ≤ 8) (B : HB tp n K r) (hC : o < 8 → MCt tp n K r (o + 1)) : MCt tp n K r o := fun d k acc h hd S hl hk => by
  obtain ⟨d, rfl, -⟩ := dpos (show (10 + 3 * (8 - o)) + 1 ≤ d by omega)
  have K4 := B.2.2.2.1.1
  have hr := B.2.2.1
  have hK := B.2.2.2.1
  have m4 := mt_lt hr (hK.2.2.2.1 k)
  rw [e_X10_oneTest, S.tok, nI_ite (by omega) (by omega)]
  by_cases g1 : tc tp n k = 208
  · have kK := hK.2.2.1 k (by omega)
    obtain ⟨o1, o2⟩ := m_opens (d := d) (by omega) B S ho
    rw [if_pos ((mt_w hr).2.2.2.mpr g1)]
    by_cases g2 : o < 8
    · obtain ⟨h1, a1, a2, a3⟩ := o1 g2
      obtain ⟨R, q, h2, b0, b1, b2_, b3⟩ := hC g2 d (k + 1) acc h1 (by omega) a3 (by omega) (by omega)
      rw [a1, pm_bd_s, if_neg (by decide), b1, pm_bd_s]
      have ps := PX.p0n g1 (show ¬ 8 ≤ o by omega) b0
      cases R with
      | inl e =>
        rw [if_pos b3.1]
        exact ⟨.inl e, 0, h2, ps, rfl, a2.tr b2_, rfl, b3.2⟩
      | inr p =>
        obtain ⟨l, k1⟩ := p
        obtain ⟨x1, x2, x3, x4⟩ := b0.ok hK.2.2.2.2.1 hK.2.2.1 (by omega) (by omega)
        have ll := cln_ge l
        have b4 : MS tp n r k1 (acc ++ l) (o + 1) h2 := b3.2
        have e26 : h2 169 26 - 1 = nI o := by rw [b4.2.2.2.2.2, show (1 : Int32) = nI 1 from rfl, pk_sub (by omega)]; rfl
        have b5 := b4.dep (o' := o)
        rw [if_neg (by rw [b3.1]; decide), e26, m_lay (by omega) b5.2.2.2.1 (by rw [List.length_append]; omega), pm_bd_s]
        have S3 := b5.lay (q := 30) (a := nI 30) (v := 0) (w := 0) rfl (fun z => by omega)
        rw [List.append_assoc] at S3
        exact ⟨_, 1, _, ps, rfl, a2.tr (b2_.tr (FR.rf.up (by omega)).lay), rfl, S3⟩
    · obtain ⟨h1, a1, a2, a3⟩ := o2 g2
      rw [a1, pm_bd_s, if_pos rfl]
      exact ⟨.inl (3, k), 0, h1, PX.p0m (Or.inl g1) (by omega), rfl, a2, a3 acc o⟩
  · rw [if_neg (by rw [(mt_w hr).2.2.2]; exact g1), nI_ite (by omega) (by omega)]
    by_cases g2 : tc tp n k = 40
    · have kK := hK.2.2.1 k (by omega)
      obtain ⟨o1, o2⟩ := m_opens (d := d) (by omega) B S ho
      rw [if_pos ((mt_sg hr (s := 40) (by omega) (by omega)).mpr g2)]
      by_cases g3 : o < 8
      · obtain ⟨h1, a1, a2, a3⟩ := o1 g3
        obtain ⟨R, q, h2, b0, b1, b2_, b3⟩ := m_any (d := d) (o := o + 1) (by omega) (by omega) B (hC g3) a3 (by omega) (by omega)
        rw [a1, pm_bd_s, if_neg (by decide), b1, pm_bd_s]
        have ps := PX.p0b g2 (show ¬ 8 ≤ o by omega) b0
        cases R with
        | inl e =>
          rw [if_pos b3.1]
          exact ⟨.inl e, 0, h2, ps, rfl, a2.tr b2_, rfl, b3.2⟩
        | inr p =>
          obtain ⟨l, k1⟩ := p
          have b4 : MS tp n r k1 (acc ++ l) (o + 1) h2 := b3.2
          obtain ⟨n1, n2⟩ := m_need (d := d) (t := 41) (by omega) B b4 (by omega)
          rw [if_neg (by rw [b3.1]; decide)]
          rw [rb_r] at ps
          by_cases g4 : tc tp n k1 = 41
          · obtain ⟨h3, y1, y2, y3⟩ := n1 g4
            rw [y1, pm_bd_s, if_neg (by decide)]
            rw [if_pos g4] at ps
            have e26 : h3 169 26 - 1 = nI o := by rw [y3.2.2.2.2.2, show (1 : Int32) = nI 1 from rfl, pk_sub (by omega)]; rfl
            rw [e26]
            exact ⟨_, 1, _, ps, rfl, a2.tr (b2_.tr (y2.up (by omega))), rfl, y3.dep⟩
          · obtain ⟨h3, y1, y2, y3⟩ := n2 g4
            rw [y1, pm_bd_s, if_pos rfl]
            rw [if_neg g4] at ps
            exact ⟨_, 0, h3, ps, rfl, a2.tr (b2_.tr y2), y3 acc o⟩
      · obtain ⟨h1, a1, a2, a3⟩ := o2 g3
        rw [a1, pm_bd_s, if_pos rfl]
        exact ⟨.inl (3, k), 0, h1, PX.p0m (Or.inr g2) (by omega), rfl, a2, a3 acc o⟩
    · rw [if_neg (by rw [mt_sg hr (s := 40) (by omega) (by omega)]; exact g2)]
      obtain ⟨R, q, h1, a0, a1, a2, a3⟩ := m_sum (d := d) (by omega) ho B S hl hk
      rw [a1, pm_bd_s]
      cases R with
      | inl e =>
        rw [if_pos a3.1]
        exact ⟨.inl e, 0, h1, PX.p0f g1 g2 a0, rfl, a2, rfl, a3.2⟩
      | inr p =>
        obtain ⟨l, k1⟩ := p
        obtain ⟨x1, x2, x3, x4⟩ := a0.ok hK.2.2.2.2.1 hK.2.2.1 (by omega) ho
        have ll := cln_ge l
        have a4 : MS tp n r k1 (acc ++ l) o h1 := a3.2
        have m41 := mt_lt hr (hK.2.2.2.1 k1)
        have cmp : ∀ t0 : Nat, tc tp n k1 = t0 → (t0 = 60 ∨ t0 = 61 ∨ t0 = 62) → ∃ R q h', PX (tc tp n) (tv tp n) 0 o k R ∧ (pm_bd (pm_ev d 186 [.ref 169] h1) fun _ y8 => pm_bd (pm_ev d 191 [.ref 169] y8) fun r9 y9 => if r9 = 0 then (some ((0 : Int32), y9)) else (pm_bd (pm_ev d 189 [.ref 169, .int (nI (t0 - 33)), .int 0] y9) fun _ y10 => some ((1 : Int32), y10))) = some (q, h') ∧ FR h h' ∧ OM tp n r acc o h' q R := fun t0 et h0 => by
          have kK := hK.2.2.1 k1 (by omega)
          obtain ⟨h2, b1, b2_, b3⟩ := m_nx (d := d) (by omega) B a4
          obtain ⟨R2, q2, h3, c0, c1, c2, c3⟩ := m_sum (d := d) (by omega) ho B b3 (by rw [List.length_append]; omega) (by omega)
          have ps := PX.p0s g1 g2 a0 (by omega) c0
          rw [b1, pm_bd_s, c1, pm_bd_s]
          cases R2 with
          | inl e =>
            rw [if_pos c3.1]
            exact ⟨.inl e, 0, h3, ps, rfl, a2.tr (b2_.tr c2), rfl, c3.2⟩
          | inr p =>
            obtain ⟨l2, k2⟩ := p
            obtain ⟨w1, w2, w3, w4⟩ := c0.ok hK.2.2.2.2.1 hK.2.2.1 (by omega) ho
            have ll2 := cln_ge l2
            have c4 : MS tp n r k2 (acc ++ l ++ l2) o h3 := c3.2
            rw [if_neg (by rw [c3.1]; decide), m_lay (by omega) c4.2.2.2.1 (by rw [List.length_append, List.length_append]; omega), pm_bd_s]
            have S3 := c4.lay (q := t0 - 33) (a := nI (t0 - 33)) (v := 0) (w := 0) rfl (fun z => by omega)
            rw [List.append_assoc, List.append_assoc] at S3
            rw [et] at ps
            exact ⟨_, 1, _, ps, rfl, a2.tr (b2_.tr (c2.tr FR.rf.lay)), rfl, S3⟩
        rw [if_neg (by rw [a3.1]; decide), a4.tok, nI_ite (by omega) (by omega)]
        by_cases t60 : tc tp n k1 = 60
        · rw [if_pos ((mt_sg hr (s := 60) (by omega) (by omega)).mpr t60)]; exact cmp 60 t60 (by omega)
        rw [if_neg (by rw [mt_sg hr (s := 60) (by omega) (by omega)]; exact t60), nI_ite (by omega) (by omega)]
        by_cases t61 : tc tp n k1 = 61
        · rw [if_pos ((mt_sg hr (s := 61) (by omega) (by omega)).mpr t61)]; exact cmp 61 t61 (by omega)
        rw [if_neg (by rw [mt_sg hr (s := 61) (by omega) (by omega)]; exact t61), nI_ite (by omega) (by omega)]
        by_cases t62 : tc tp n k1 = 62
        · rw [if_pos ((mt_sg hr (s := 62) (by omega) (by omega)).mpr t62)]; exact cmp 62 t62 (by omega)
        rw [if_neg (by rw [mt_sg hr (s := 62) (by omega) (by omega)]; exact t62)]
        obtain ⟨h2, b1, b2_, b3⟩ := m_bad (e := 1) (d := d) (by omega) a4
        rw [show (1 : Int32) = nI 1 from rfl, b1, pm_bd_s, pm_bw_0]
        exact ⟨.inl (1, k1), 0, h2, PX.p0g g1 g2 a0 (by omega), rfl, a2.tr b2_, b3 acc o⟩
theorem m_test (B : HB tp n K r) : ∀ (j o : Nat), o + j = 8 → MCt tp n K r o := by
  intro j
  induction j with
  | zero => intro o ho; exact m_one (by omega) B (fun z => by omega)
  | succ j ih => intro o ho; exact m_one (by omega) B (fun _ => ih (o + 1) (by omega))
end
