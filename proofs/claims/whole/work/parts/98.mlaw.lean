/-! THE MODEL READS the lines of a law -/
/-- the model's rows of lines from j on, at p -/
def MR (h : pm_Hp) : Nat → Nat → List Ln → Prop
  | _, _, [] => True
  | j, p, x :: l => (h 173 (4 * j + 3) = nI (20 + x.1) ∧ h 173 (4 * j) = nI p ∧ h 173 (4 * j + 1) = nI (p + x.2.1.length) ∧ h 173 (4 * j + 2) = nI (p + x.2.1.length + x.2.2.length)) ∧ MR h (j + 1) (p + x.2.1.length + x.2.2.length) l
theorem MR_app {h : pm_Hp} : ∀ (l r : List Ln) (j p : Nat), MR h j p l → MR h (j + l.length) (p + (lcat l).length) r → MR h j p (l ++ r) := by
  intro l
  induction l with
  | nil => intro r j p _ b; exact b
  | cons x l ih =>
    intro r j p a b
    refine ⟨a.1, ih r _ _ a.2 ?_⟩
    rw [show j + 1 + l.length = j + (x :: l).length by show _ = j + (l.length + 1); omega, show p + x.2.1.length + x.2.2.length + (lcat l).length = p + (lcat (x :: l)).length by show _ = p + (x.2.1 ++ (x.2.2 ++ lcat l)).length; rw [List.length_append, List.length_append]; omega]
    exact b
theorem MR_to {h h' : pm_Hp} : ∀ (l : List Ln) (j p : Nat), (∀ i, i < 4 * (j + l.length) → h' 173 i = h 173 i) → MR h j p l → MR h' j p l := by
  intro l
  induction l with
  | nil => intro j p _ _; trivial
  | cons x l ih =>
    intro j p e a
    have el : (x :: l).length = l.length + 1 := rfl
    exact ⟨by rw [e _ (by omega), e _ (by omega), e _ (by omega), e _ (by omega)]; exact a.1, ih _ _ (fun i hi => e i (by omega)) a.2⟩
def FM (h h' : pm_Hp) : Prop := (∀ k, k ≠ 169 → k ≠ 173 → k ≠ 174 → h' k = h k) ∧ ∀ j, j ≠ 14 → j ≠ 15 → (j < 19 ∨ 24 < j) → j ≠ 26 → h' 169 j = h 169 j
theorem FM.rf {h : pm_Hp} : FM h h := ⟨fun _ _ _ _ => rfl, fun _ _ _ _ _ => rfl⟩
theorem FM.tr {h h' h'' : pm_Hp} (a : FM h h') (b : FM h' h'') : FM h h'' := ⟨fun k x y z => (b.1 k x y z).trans (a.1 k x y z), fun j w x y z => (b.2 j w x y z).trans (a.2 j w x y z)⟩
theorem FR.fm {h h' : pm_Hp} (a : FR h h') : FM h h' := ⟨fun k x _ z => a.1 k x z, fun j _ x y z => a.2 j x y z⟩
theorem FM.up {h h' : pm_Hp} {j : Nat} {v : Int32} (a : FM h h') (hj : j = 14 ∨ j = 15 ∨ (19 ≤ j ∧ j ≤ 24) ∨ j = 26) : FM h (pm_up h' 169 j v) := ⟨fun k x y z => by rw [pm_up_n x]; exact a.1 k x y z, fun i w x y z => by rw [pm_up_j (by omega)]; exact a.2 i w x y z⟩
theorem FM.ln {h h' : pm_Hp} {j : Nat} {v : Int32} (a : FM h h') : FM h (pm_up h' 173 j v) := ⟨fun k x y z => by rw [pm_up_n y]; exact a.1 k x y z, fun i w x y z => by rw [pm_up_k (by omega)]; exact a.2 i w x y z⟩
section
variable {tp : Nat → Nat} {n K r : Nat}
theorem MS.ln {k o j : Nat} {acc : List Op} {h : pm_Hp} {v : Int32} (S : MS tp n r k acc o h) : MS tp n r k acc o (pm_up h 173 j v) := by
  obtain ⟨s1, s2, s3, s4, s5, s6⟩ := S
  have e : ∀ i, pm_up h 173 j v 169 i = h 169 i := fun i => pm_up_k (by omega)
  exact ⟨s1.to (e 18) (pm_up_n (by omega)), (e 12).trans s2, ⟨(e 20).trans s3.1, (e 21).trans s3.2.1, (e 19).trans s3.2.2.1, fun z => (e 22).trans (s3.2.2.2 z)⟩, (e 15).trans s4, fseg_to acc 0 (fun i _ => by rw [pm_up_n (by omega)]) s5, (e 26).trans s6⟩
theorem m_bad0 {d e k : Nat} {h : pm_Hp} (hd : 1 ≤ d) (e21 : h 169 21 = nI (tl_ tp n k)) : ∃ h', pm_ev d 187 [.ref 169, .int (nI e)] h = some (0, h') ∧ FR h h' ∧ h' 169 23 = nI e ∧ h' 169 24 = nI (tl_ tp n k) := by
  obtain ⟨d, rfl, -⟩ := dpos hd
  exact ⟨_, e_X10_bad d h _, (FR.rf.up (by omega)).up (by omega), by rw [pm_up_j (by omega), pm_up_s], by rw [pm_up_s]; exact e21⟩
def OB (tp : Nat → Nat) (n r i : Nat) (acc : List Op) (g h' : pm_Hp) (q : Int32) (R : Rl) : Prop := match R with
  | .inl e => q = 0 ∧ h' 169 23 = nI e.1 ∧ h' 169 24 = nI (tl_ tp n e.2)
  | .inr p => q = 1 ∧ MS tp n r p.2 (acc ++ (p.1.2.1 ++ p.1.2.2)) 0 h' ∧ h' 169 14 = nI i ∧ (h' 173 (4 * i + 3) = nI (20 + p.1.1) ∧ h' 173 (4 * i) = nI acc.length ∧ h' 173 (4 * i + 1) = nI (acc.length + p.1.2.1.length) ∧ h' 173 (4 * i + 2) = nI (acc.length + p.1.2.1.length + p.1.2.2.length)) ∧ ∀ j, j < 4 * i → h' 173 j = g 173 j
theorem m_lineB {d k i w : Nat} {acc : List Op} {g : pm_Hp} (hd : 37 ≤ d) (B : HB tp n K r) (t : TM tp n g) (e12 : g 169 12 = nI r) (e19 : g 169 19 = nI (tks tp n k).2.2.2) (e21 : g 169 21 = nI (tl_ tp n k)) (e15 : g 169 15 = nI acc.length) (F : fseg g 0 acc) (e14 : g 169 14 = nI i) (hi : i ≤ 16) (e20 : g 169 20 = nI (20 + w)) (hw : w = tc tp n k - 200) (hl : acc.length ≤ k) (hk : k < K) : ∃ q h', (if g 169 14 = nI 16 then (pm_bd (pm_ev d 187 [.ref 169, .int (nI 3)] g) fun r3 y3 => pm_bw r3 (some (r3, y3))) else (pm_at (((nI 4) * (g 169 14)) + (nI 3)) 64 fun j1 => pm_bd (pm_ev d 186 [.ref 169] (pm_up (pm_up g 169 26 0) 173 j1 (g 169 20))) fun _ y4 => pm_at ((nI 4) * (y4 169 14)) 64 fun j2 => pm_bd (pm_ev d 191 [.ref 169] (pm_up y4 173 j2 (y4 169 15))) fun r5 y5 => if r5 = 0 then (some (0, y5)) else (pm_at (((nI 4) * (y5 169 14)) + 1) 64 fun j3 => if y5 169 20 = nI 3 then (pm_bd (pm_ev d 186 [.ref 169] (pm_up y5 173 j3 (y5 169 15))) fun _ y6 => pm_bd (pm_ev d 194 [.ref 169] y6) fun r7 y7 => if r7 = 0 then (some (0, y7)) else (pm_at (((nI 4) * (y7 169 14)) + (nI 2)) 64 fun j4 => pm_bd (pm_ev d 188 [.ref 169, .int (nI 159)] (pm_up y7 173 j4 (y7 169 15))) fun r8 y8 => pm_bw r8 (some (r8, y8)))) else (pm_at (((nI 4) * (y5 169 14)) + (nI 2)) 64 fun j5 => pm_bd (pm_ev d 188 [.ref 169, .int (nI 159)] (pm_up (pm_up y5 173 j3 (y5 169 15)) 173 j5 (y5 169 15))) fun r9 y9 => pm_bw r9 (some (r9, y9)))))) = some (q, h') ∧ FM g h' ∧ OB tp n r i acc g h' q (if i = 16 then .inl (3, k) else lnf (tc tp n) (tv tp n) k) := by
  have hK := B.2.2.2.1
  have K4 := hK.1
  have hr := B.2.2.1
  rw [e14, nI_ite (by omega) (by omega)]
  by_cases g16 : i = 16
  · obtain ⟨h1, a1, a2, a3, a4⟩ := m_bad0 (tp := tp) (n := n) (e := 3) (d := d) (k := k) (by omega) e21
    rw [if_pos g16, if_pos g16, a1, pm_bd_s, pm_bw_0]
    exact ⟨0, h1, rfl, a2.fm, rfl, a3, a4⟩
  · rw [if_neg g16, if_neg g16, pk_mul, nI_add, pm_at_c (by omega) (by omega), e20]
    generalize hg1 : pm_up (pm_up g 169 26 0) 173 (4 * i + 3) (nI (20 + w)) = g1
    have q1 : ∀ j, j ≠ 26 → g1 169 j = g 169 j := fun j hj => by rw [← hg1, pm_up_k (by omega), pm_up_j hj]
    have q1o : ∀ a, a ≠ 169 → a ≠ 173 → g1 a = g a := fun a x y => by rw [← hg1, pm_up_n y, pm_up_n x]
    obtain ⟨h1, a1, a2, a3⟩ := m_next (d := d) (g := g1) (by omega) B.1 B.2.1 (by omega) (B.2.2.2.2 k) (t.to (q1 18 (by omega)) (q1o 177 (by omega) (by omega))) ((q1 19 (by omega)).trans e19) ((q1 12 (by omega)).trans e12)
    have x15 : h1 169 15 = nI acc.length := by rw [a2.2 15 (by omega), q1 15 (by omega)]; exact e15
    have x14 : h1 169 14 = nI i := by rw [a2.2 14 (by omega), q1 14 (by omega)]; exact e14
    have S1 : MS tp n r (k + 1) acc 0 h1 := ⟨a2.tm (t.to (q1 18 (by omega)) (q1o 177 (by omega) (by omega))), by rw [a2.2 12 (by omega), q1 12 (by omega)]; exact e12, a3, x15, fseg_to acc 0 (fun j _ => by rw [a2.1 174 (by omega), q1o 174 (by omega) (by omega)]) F, by rw [a2.2 26 (by omega), ← hg1, pm_up_k (by omega), pm_up_s]; rfl⟩
    have x3 : h1 173 (4 * i + 3) = nI (20 + w) := by rw [a2.1 173 (by omega), ← hg1, pm_up_s]
    have xj : ∀ j, j < 4 * i → h1 173 j = g 173 j := fun j hj => by rw [a2.1 173 (by omega), ← hg1, pm_up_j (by omega), pm_up_k (by omega)]
    have F1 : FM g h1 := by
      refine FM.tr ?_ a2.fr.fm
      rw [← hg1]
      exact (FM.rf.up (by omega)).ln
    rw [a1, pm_bd_s, x14, pk_mul, pm_at_c (by omega) (by omega), x15]
    have S2 := S1.ln (j := 4 * i) (v := nI acc.length)
    /- the end of a line -/
    have tail : ∀ (l q : List Op) (k2 : Nat) (y : pm_Hp), MS tp n r k2 (acc ++ (l ++ q)) 0 y → FM g y → y 169 14 = nI i → (y 173 (4 * i + 3) = nI (20 + w) ∧ y 173 (4 * i) = nI acc.length ∧ y 173 (4 * i + 1) = nI (acc.length + l.length) ∧ y 173 (4 * i + 2) = nI (acc.length + l.length + q.length)) → (∀ j, j < 4 * i → y 173 j = g 173 j) → ∃ q_ h', (pm_bd (pm_ev d 188 [.ref 169, .int (nI 159)] y) fun r8 y8 => pm_bw r8 (some (r8, y8))) = some (q_, h') ∧ FM g h' ∧ OB tp n r i acc g h' q_ (sem (tc tp n) (tc tp n k - 200, l, q) k2) := fun l q k2 y Sy Fy y14 y3 yj => by
      obtain ⟨n1, n2⟩ := m_need (d := d) (t := 59) (by omega) B Sy (by omega)
      unfold sem
      by_cases g4 : tc tp n k2 = 59
      · obtain ⟨h3, b1, b2_, b3⟩ := n1 g4
        have b1 : pm_ev d 188 [.ref 169, .int (nI 159)] y = some (1, h3) := b1
        have b173 : h3 173 = y 173 := b2_.1 173 (by omega) (by omega)
        rw [b1, pm_bd_s, pm_bw_1, if_pos g4]
        exact ⟨1, h3, rfl, Fy.tr b2_.fm, rfl, b3, by rw [b2_.2 14 (by omega) (by omega) (by omega)]; exact y14, by rw [b173, ← hw]; exact y3, fun j hj => by rw [b173]; exact yj j hj⟩
      · obtain ⟨h3, b1, b2_, b3⟩ := n2 g4
        have b1 : pm_ev d 188 [.ref 169, .int (nI 159)] y = some (0, h3) := b1
        rw [b1, pm_bd_s, pm_bw_0, if_neg g4]
        exact ⟨0, h3, rfl, Fy.tr b2_.fm, b3 [] 0⟩
    unfold lnf
    obtain ⟨R, q, h2, b0, b1, b2_, b3⟩ := m_sum (d := d) (o := 0) (by omega) (by omega) B S2 (by omega) (by omega)
    have F2 : FM g h2 := (F1.ln).tr b2_.fm
    rw [b1, pm_bd_s, b0.px_]
    cases R with
    | inl e =>
      rw [if_pos b3.1]
      exact ⟨0, h2, rfl, F2, rfl, b3.2⟩
    | inr p =>
      obtain ⟨l, k1⟩ := p
      obtain ⟨y1, y2, y3, y4⟩ := b0.ok hK.2.2.2.2.1 hK.2.2.1 (by omega) (by omega)
      have ll := cln_ge l
      have b4 : MS tp n r k1 (acc ++ l) 0 h2 := b3.2
      have m41 := mt_lt hr (hK.2.2.2.1 k1)
      have z14 : h2 169 14 = nI i := by rw [b2_.2 14 (by omega) (by omega) (by omega), pm_up_k (by omega)]; exact x14
      have z173 : h2 173 = (pm_up h1 173 (4 * i) (nI acc.length)) 173 := b2_.1 173 (by omega) (by omega)
      have z3 : h2 173 (4 * i + 3) = nI (20 + w) := by rw [z173, pm_up_j (by omega)]; exact x3
      have z0 : h2 173 (4 * i) = nI acc.length := by rw [z173, pm_up_s]
      have zj : ∀ j, j < 4 * i → h2 173 j = g 173 j := fun j hj => by rw [z173, pm_up_j (by omega)]; exact xj j hj
      have z15 : h2 169 15 = nI (acc.length + l.length) := by rw [b4.2.2.2.1, List.length_append]
      rw [if_neg (by rw [b3.1]; decide), z14, pk_mul, nI_1, pm_at_c (by omega) (by omega), b4.tok, nI_ite (by omega) (by omega), z15]
      show ∃ q_ h', _ ∧ FM g h' ∧ OB tp n r i acc g h' q_ (if tc tp n k1 = 205 then rl (px (tc tp n) (tv tp n) 3 0 (k1 + 1)) (fun p => sem (tc tp n) (tc tp n k - 200, l, p.1) p.2) else sem (tc tp n) (tc tp n k - 200, l, []) k1)
      by_cases g5 : tc tp n k1 = 205
      · have kK1 := hK.2.2.1 k1 (by omega)
        rw [if_pos ((mt_w hr).1.mpr g5), if_pos g5]
        have S3 := b4.ln (j := 4 * i + 1) (v := nI (acc.length + l.length))
        obtain ⟨h3, c1, c2, c3⟩ := m_nx (d := d) (by omega) B S3
        obtain ⟨R2, q2, h4, e0, e1, e2, e3⟩ := m_any (d := d) (o := 0) (by omega) (by omega) B (m_test B 8 0 (by omega)) c3 (by rw [List.length_append]; omega) (by omega)
        have F4 : FM g h4 := (F2.ln).tr (c2.tr e2).fm
        rw [c1, pm_bd_s, e1, pm_bd_s, e0.px_]
        cases R2 with
        | inl e =>
          rw [if_pos e3.1]
          exact ⟨0, h4, rfl, F4, rfl, e3.2⟩
        | inr p =>
          obtain ⟨l2, k2⟩ := p
          have e4 : MS tp n r k2 (acc ++ l ++ l2) 0 h4 := e3.2
          have w14 : h4 169 14 = nI i := by rw [e2.2 14 (by omega) (by omega) (by omega), c2.2 14 (by omega) (by omega) (by omega), pm_up_k (by omega)]; exact z14
          have w173 : h4 173 = (pm_up h2 173 (4 * i + 1) (nI (acc.length + l.length))) 173 := (e2.1 173 (by omega) (by omega)).trans (c2.1 173 (by omega) (by omega))
          have w15 : h4 169 15 = nI (acc.length + l.length + l2.length) := by rw [e4.2.2.2.1, List.length_append, List.length_append]
          rw [if_neg (by rw [e3.1]; decide), w14, pk_mul, nI_add, pm_at_c (by omega) (by omega), w15]
          rw [List.append_assoc] at e4
          refine tail l l2 k2 _ e4.ln F4.ln (by rw [pm_up_k (by omega)]; exact w14) ⟨?_, ?_, ?_, ?_⟩ (fun j hj => ?_)
          · rw [pm_up_j (by omega), w173, pm_up_j (by omega)]; exact z3
          · rw [pm_up_j (by omega), w173, pm_up_j (by omega)]; exact z0
          · rw [pm_up_j (by omega), w173, pm_up_s]
          · rw [pm_up_s]
          · rw [pm_up_j (by omega), w173, pm_up_j (by omega)]; exact zj j hj
      · rw [if_neg (by rw [(mt_w hr).1]; exact g5), if_neg g5, nI_add, pm_at_c (by omega) (by omega)]
        refine tail l [] k1 _ (by rw [List.append_nil]; exact b4.ln.ln) F2.ln.ln (by rw [pm_up_k (by omega), pm_up_k (by omega)]; exact z14) ⟨?_, ?_, ?_, ?_⟩ (fun j hj => ?_)
        · rw [pm_up_j (by omega), pm_up_j (by omega)]; exact z3
        · rw [pm_up_j (by omega), pm_up_j (by omega)]; exact z0
        · rw [pm_up_j (by omega), pm_up_s]
        · rw [pm_up_s]; rfl
        · rw [pm_up_j (by omega), pm_up_j (by omega)]; exact zj j hj
/-- the state between lines -/
def MV_ (tp : Nat → Nat) (n r k : Nat) (acc : List Op) (h : pm_Hp) : Prop := TM tp n h ∧ h 169 12 = nI r ∧ MA r (tks tp n k) h ∧ h 169 15 = nI acc.length ∧ fseg h 0 acc
theorem m_aLine {d k i : Nat} {acc : List Op} {h : pm_Hp} (hd : 38 ≤ d) (B : HB tp n K r) (S : MV_ tp n r k acc h) (e14 : h 169 14 = nI i) (hi : i ≤ 16) (hl : acc.length ≤ k) (hk : k < K) : ∃ q h', pm_ev d 197 [.ref 169] h = some (q, h') ∧ FM h h' ∧ OB tp n r i acc h h' q (if stw r (tc tp n k) then (if i = 16 then .inl (3, k) else lnf (tc tp n) (tv tp n) k) else .inl (1, k)) := by
  obtain ⟨d, rfl, -⟩ := dpos hd
  obtain ⟨s1, s2, s3, s4, s5⟩ := S
  have hK := B.2.2.2.1
  have hr := B.2.2.1
  have m4 := mt_lt hr (hK.2.2.2.1 k)
  have tok : h 169 20 = nI (mt r (tc tp n k)) := s3.1
  have no : ¬ stw r (tc tp n k) → ∃ q h', (pm_bd (pm_ev d 187 [.ref 169, .int 1] h) fun r2 y2 => pm_bw r2 (some (r2, y2))) = some (q, h') ∧ FM h h' ∧ OB tp n r i acc h h' q (if stw r (tc tp n k) then (if i = 16 then .inl (3, k) else lnf (tc tp n) (tv tp n) k) else .inl (1, k)) := fun g => by
    obtain ⟨h1, a1, a2, a3, a4⟩ := m_bad0 (tp := tp) (n := n) (e := 1) (d := d) (k := k) (by omega) s3.2.1
    rw [show (1 : Int32) = nI 1 from rfl, a1, pm_bd_s, pm_bw_0, if_neg g]
    exact ⟨0, h1, rfl, a2.fm, rfl, a3, a4⟩
  have gen : (20 ≤ mt r (tc tp n k) ∧ mt r (tc tp n k) ≤ 24) → stw r (tc tp n k) → (r = 0 ∧ (tc tp n k = 200 ∨ tc tp n k = 201)) ∨ (r = 1 ∧ (tc tp n k = 202 ∨ tc tp n k = 204)) → ∃ q h', _ = some (q, h') ∧ FM h h' ∧ OB tp n r i acc h h' q (if i = 16 then .inl (3, k) else lnf (tc tp n) (tv tp n) k) := fun _ _ g =>
    m_lineB (d := d) (w := tc tp n k - 200) (by omega) B s1 s2 s3.2.2.1 s3.2.1 s4 s5 e14 hi (by rw [tok, mt_lv hr g, show tc tp n k - 180 = 20 + (tc tp n k - 200) by omega]) rfl hl hk
  rw [e_X10_aLine, tok]
  by_cases g1 : r = 1
  · rw [if_pos (by rw [s2, g1]; rfl), nI_ite (by omega) (by omega)]
    by_cases g2 : tc tp n k = 203
    · have st : stw r (tc tp n k) := Or.inr ⟨g1, Or.inr (Or.inl g2)⟩
      rw [if_pos ((mt_48 hr).mpr g2), m_isIn3 (by omega) (by omega) (by omega) (by omega), pm_bd_s, b2_t (by omega), if_neg (by decide), if_pos st]
      have q1 : ∀ j, j ≠ 20 → pm_up h 169 20 (nI 23) 169 j = h 169 j := fun j hj => pm_up_j hj
      have q1o : ∀ a, a ≠ 169 → pm_up h 169 20 (nI 23) a = h a := fun a x => pm_up_n x
      obtain ⟨q, h', a1, a2, a3⟩ := m_lineB (d := d) (w := 3) (g := pm_up h 169 20 (nI 23)) (by omega) B (s1.to (q1 18 (by omega)) (q1o 177 (by omega))) ((q1 12 (by omega)).trans s2) ((q1 19 (by omega)).trans s3.2.2.1) ((q1 21 (by omega)).trans s3.2.1) ((q1 15 (by omega)).trans s4) (fseg_to acc 0 (fun j _ => by rw [q1o 174 (by omega)]) s5) ((q1 14 (by omega)).trans e14) hi pm_up_s (by omega) hl hk
      refine ⟨q, h', a1, (FM.rf.up (by omega)).tr a2, ?_⟩
      cases hR : (if i = 16 then (.inl (3, k) : Rl) else lnf (tc tp n) (tv tp n) k) with
      | inl e => rw [hR] at a3; exact a3
      | inr p =>
        rw [hR] at a3
        obtain ⟨c1, c2, c3, c4, c5⟩ := a3
        exact ⟨c1, c2, c3, c4, fun j hj => by rw [c5 j hj, q1o 173 (by omega)]⟩
    · rw [if_neg (by rw [mt_48 hr]; exact g2), m_isIn3 (by omega) (by omega) (by omega) (by omega), pm_bd_s]
      by_cases g3 : (r = 0 ∧ (tc tp n k = 200 ∨ tc tp n k = 201)) ∨ (r = 1 ∧ (tc tp n k = 202 ∨ tc tp n k = 204))
      · have st : stw r (tc tp n k) := by unfold stw; omega
        rw [b2_t ((mt_ln hr).mpr g3), if_neg (by decide), if_pos st]
        have := gen ((mt_ln hr).mpr g3) st g3
        exact this
      · rw [b2_f (fun z => g3 ((mt_ln hr).mp z)), if_pos rfl]
        exact no (by unfold stw; omega)
  · rw [if_neg (by rw [s2]; intro z; have := (nI_eq (b := 1) (by omega) (by omega)).mp z; omega), m_isIn3 (by omega) (by omega) (by omega) (by omega), pm_bd_s]
    by_cases g3 : (r = 0 ∧ (tc tp n k = 200 ∨ tc tp n k = 201)) ∨ (r = 1 ∧ (tc tp n k = 202 ∨ tc tp n k = 204))
    · have st : stw r (tc tp n k) := by unfold stw; omega
      rw [b2_t ((mt_ln hr).mpr g3), if_neg (by decide), if_pos st]
      have := gen ((mt_ln hr).mpr g3) st g3
      exact this
    · rw [b2_f (fun z => g3 ((mt_ln hr).mp z)), if_pos rfl]
      exact no (by unfold stw; omega)
def OV (tp : Nat → Nat) (n : Nat) (Ls : List Ln) (h' : pm_Hp) (q : Int32) (R : Rs) : Prop := match R with
  | .inl e => q = 0 ∧ h' 169 23 = nI e.1 ∧ h' 169 24 = nI (tl_ tp n e.2)
  | .inr xs => q = 1 ∧ h' 169 14 = nI (Ls ++ xs).length ∧ MR h' 0 0 (Ls ++ xs) ∧ h' 169 15 = nI (lcat (Ls ++ xs)).length ∧ fseg h' 0 (lcat (Ls ++ xs)) ∧ (lcat (Ls ++ xs)).length ≤ 400 ∧ (Ls ++ xs).length ≤ 16
theorem OV.next {Ls : List Ln} {x : Ln} {h' : pm_Hp} {q : Int32} {R : Rs} (a : OV tp n (Ls ++ [x]) h' q R) : OV tp n Ls h' q (rl R (fun xs => .inr (x :: xs))) := by
  cases R with
  | inl e => exact a
  | inr xs =>
    obtain ⟨a1, a4, a5, a6, a7, a8, a9⟩ := a
    have e : Ls ++ [x] ++ xs = Ls ++ (x :: xs) := by rw [List.append_assoc]; rfl
    rw [e] at a4 a5 a6 a7 a8 a9
    exact ⟨a1, a4, a5, a6, a7, a8, a9⟩
theorem px_inr {c v : Nat → Nat} {m o k : Nat} {q : List Op × Nat} (e : px c v m o k = .inr q) : PX c v m o k (.inr q) := by
  by_cases ex : ∃ R, PX c v m o k R
  · obtain ⟨R, a⟩ := ex
    rw [a.px_] at e
    rw [e] at a
    exact a
  · have : px c v m o k = .inl (9, 0) := @dif_neg _ (Classical.propDecidable _) ex _ _ _
    rw [this] at e
    cases e
theorem lnf_ok {k : Nat} {x : Ln} {k' : Nat} (hK : KE tp n K) (hk : k < K) (st : stw r (tc tp n k)) (e : lnf (tc tp n) (tv tp n) k = .inr (x, k')) : okLn x ∧ k < k' ∧ k' ≤ K ∧ cln x.2.1 + cln x.2.2 ≤ k' - k ∧ x.1 = tc tp n k - 200 := by
  unfold lnf at e
  cases h7 : px (tc tp n) (tv tp n) 7 0 (k + 1) with
  | inl e' => rw [h7] at e; cases e
  | inr p =>
    rw [h7] at e
    obtain ⟨l, k1⟩ := p
    have a := px_inr h7
    obtain ⟨x1, x2, x3, x4⟩ := a.ok hK.2.2.2.2.1 hK.2.2.1 (by omega) (by omega)
    have e : (if tc tp n k1 = 205 then rl (px (tc tp n) (tv tp n) 3 0 (k1 + 1)) (fun p => sem (tc tp n) (tc tp n k - 200, l, p.1) p.2) else sem (tc tp n) (tc tp n k - 200, l, []) k1) = .inr (x, k') := e
    have G : GV 19 l := x1
    obtain ⟨y1, y2, -⟩ := G z0.1 z0.2 (by decide)
    have lt5 : tc tp n k - 200 < 5 := by unfold stw at st; omega
    by_cases g : tc tp n k1 = 205
    · rw [if_pos g] at e
      have kK1 := hK.2.2.1 k1 (by omega)
      cases h3 : px (tc tp n) (tv tp n) 3 0 (k1 + 1) with
      | inl e' => rw [h3] at e; cases e
      | inr p =>
        rw [h3] at e
        obtain ⟨q, k2⟩ := p
        have b := px_inr h3
        obtain ⟨w1, w2, w3, w4⟩ := b.ok hK.2.2.2.2.1 hK.2.2.1 (by omega) (by omega)
        have e : sem (tc tp n) (tc tp n k - 200, l, q) k2 = .inr (x, k') := e
        unfold sem at e
        have T : TV 0 q := w1
        obtain ⟨v1, v2, -, v4⟩ := T z0.1 z0.2 (by decide)
        by_cases g2 : tc tp n k2 = 59
        · rw [if_pos g2] at e
          have kK2 := hK.2.2.1 k2 (by omega)
          obtain ⟨e1, e2⟩ := Prod.mk.inj (Sum.inr.inj e)
          subst e1
          subst e2
          exact ⟨⟨lt5, y1, y2, Or.inr ⟨v1, v2, v4⟩⟩, by omega, by omega, by show cln l + cln q ≤ _; omega, rfl⟩
        · rw [if_neg g2] at e; cases e
    · rw [if_neg g] at e
      unfold sem at e
      by_cases g2 : tc tp n k1 = 59
      · rw [if_pos g2] at e
        have kK2 := hK.2.2.1 k1 (by omega)
        obtain ⟨e1, e2⟩ := Prod.mk.inj (Sum.inr.inj e)
        subst e1
        subst e2
        exact ⟨⟨lt5, y1, y2, Or.inl rfl⟩, by omega, by omega, by show cln l + 0 ≤ _; omega, rfl⟩
      · rw [if_neg g2] at e; cases e
theorem m_lawL {d : Nat} (hd : 38 ≤ d) (B : HB tp n K r) : ∀ (f i k : Nat) (Ls : List Ln) (h : pm_Hp), f + i = 17 → i ≤ 16 → Ls.length = i → MV_ tp n r k (lcat Ls) h → h 169 14 = nI i → MR h 0 0 Ls → (lcat Ls).length ≤ k → k ≤ K → ∃ q h', pm_rn d kX10_readsLaw 12 [.ref 169, .int 1] [] h = some (q, h') ∧ FM h h' ∧ OV tp n Ls h' q (lsf (tc tp n) (tv tp n) r f i k) := by
  have hK := B.2.2.2.1
  have K4 := hK.1
  have hr := B.2.2.1
  intro f
  induction f with
  | zero =>
    intro i k Ls h hf hi
    omega
  | succ f ih =>
    intro i k Ls h hf hi hL S e14 R hl hk
    have m4 := mt_lt hr (hK.2.2.2.1 k)
    have tok : h 169 20 = nI (mt r (tc tp n k)) := S.2.2.1.1
    rw [b_X10_readsLaw_12, if_neg (by decide), tok]
    by_cases c0 : tc tp n k = 0
    · rw [if_pos (by rw [(mt_0 hr).mpr c0]; exact nI_0), pm_bw_1, show lsf (tc tp n) (tv tp n) r (f + 1) i k = .inr [] from if_pos c0]
      refine ⟨1, h, rfl, FM.rf, rfl, ?_⟩
      rw [List.append_nil]
      exact ⟨by rw [hL]; exact e14, R, S.2.2.2.1, S.2.2.2.2, by omega, by omega⟩
    · have kK := hK.2.2.1 k c0
      rw [if_neg (show ¬ nI (mt r (tc tp n k)) = 0 from fun z => c0 ((mt_0 hr).mp ((nI_eq (b := 0) (by omega) (by omega)).mp z)))]
      have el : lsf (tc tp n) (tv tp n) r (f + 1) i k = if stw r (tc tp n k) then (if i = 16 then .inl (3, k) else lcs (lnf (tc tp n) (tv tp n) k) (lsf (tc tp n) (tv tp n) r f (i + 1))) else .inl (1, k) := if_neg c0
      obtain ⟨q, h1, a1, a2, a3⟩ := m_aLine (d := d) hd B S e14 hi hl kK
      rw [a1, pm_bd_s, el]
      have flt : ∀ e : Nat × Nat, (q = 0 ∧ h1 169 23 = nI e.1 ∧ h1 169 24 = nI (tl_ tp n e.2)) → ∃ q_ h', (if q = 0 then (pm_rn d kX10_readsLaw 12 [.ref 169, .int q] [] (pm_up h1 169 14 ((h1 169 14) + 0))) else (pm_rn d kX10_readsLaw 12 [.ref 169, .int q] [] (pm_up h1 169 14 ((h1 169 14) + 1)))) = some (q_, h') ∧ FM h h' ∧ OV tp n Ls h' q_ (.inl e) := fun e he => by
        obtain ⟨q0, x1, x2⟩ := he
        rw [if_pos q0, q0, b_X10_readsLaw_12, if_pos rfl, pm_bw_0]
        exact ⟨0, _, rfl, a2.up (by omega), rfl, by rw [pm_up_j (by omega)]; exact x1, by rw [pm_up_j (by omega)]; exact x2⟩
      by_cases st : stw r (tc tp n k)
      · rw [if_pos st] at a3 ⊢
        by_cases g16 : i = 16
        · rw [if_pos g16] at a3 ⊢
          exact flt (3, k) a3
        · rw [if_neg g16] at a3 ⊢
          cases hn : lnf (tc tp n) (tv tp n) k with
          | inl e =>
            rw [hn] at a3
            exact flt e a3
          | inr p =>
            rw [hn] at a3
            obtain ⟨x, k'⟩ := p
            obtain ⟨q1, b1, b2_, b3, b4⟩ := a3
            have b1 : MS tp n r k' (lcat Ls ++ (x.2.1 ++ x.2.2)) 0 h1 := b1
            have b3 : h1 173 (4 * i + 3) = nI (20 + x.1) ∧ h1 173 (4 * i) = nI (lcat Ls).length ∧ h1 173 (4 * i + 1) = nI ((lcat Ls).length + x.2.1.length) ∧ h1 173 (4 * i + 2) = nI ((lcat Ls).length + x.2.1.length + x.2.2.length) := b3
            obtain ⟨o1, o2, o3, o4, o5⟩ := lnf_ok hK kK st hn
            have l1 := cln_ge x.2.1
            have l2 := cln_ge x.2.2
            rw [if_neg (by rw [q1]; decide), q1, b2_, nI_1]
            have eL : lcat (Ls ++ [x]) = lcat Ls ++ (x.2.1 ++ x.2.2) := by rw [lcat_app, lcat_1]
            have e1 : ∀ j, j ≠ 14 → pm_up h1 169 14 (nI (i + 1)) 169 j = h1 169 j := fun j hj => pm_up_j hj
            have e1o : ∀ a, a ≠ 169 → pm_up h1 169 14 (nI (i + 1)) a = h1 a := fun a x => pm_up_n x
            obtain ⟨q2, h2, c1, c2, c3⟩ := ih (i + 1) k' (Ls ++ [x]) (pm_up h1 169 14 (nI (i + 1))) (by omega) (by omega) (by rw [List.length_append, hL]; rfl) (by
              rw [eL]
              obtain ⟨s1, s2, s3, s4, s5, s6⟩ := b1
              exact ⟨s1.to (e1 18 (by omega)) (e1o 177 (by omega)), (e1 12 (by omega)).trans s2, ⟨(e1 20 (by omega)).trans s3.1, (e1 21 (by omega)).trans s3.2.1, (e1 19 (by omega)).trans s3.2.2.1, fun z => (e1 22 (by omega)).trans (s3.2.2.2 z)⟩, (e1 15 (by omega)).trans s4, fseg_to _ 0 (fun j _ => by rw [e1o 174 (by omega)]) s5⟩) pm_up_s (by
              refine MR_app Ls _ 0 0 (MR_to Ls 0 0 (fun j hj => by rw [e1o 173 (by omega)]; exact b4 j (by omega)) R) ⟨?_, trivial⟩
              rw [e1o 173 (by omega), Nat.zero_add, Nat.zero_add, hL]
              exact b3) (by rw [eL, List.length_append, List.length_append]; omega) (by omega)
            exact ⟨q2, h2, c1, (a2.up (by omega)).tr c2, OV.next c3⟩
      · rw [if_neg st] at a3 ⊢
        exact flt (1, k) a3
theorem m_law {d : Nat} {h : pm_Hp} (hd : 39 ≤ d) (B : HB tp n K r) (t : TM tp n h) (e12 : h 169 12 = nI r) (M : MA r (tks tp n 0) h) : ∃ q h', pm_ev d 198 [.ref 169] h = some (q, h') ∧ FM h h' ∧ OV tp n [] h' q (lsf (tc tp n) (tv tp n) r 17 0 0) := by
  obtain ⟨d, rfl, -⟩ := dpos hd
  rw [e_X10_readsLaw]
  have e : ∀ j, j ≠ 14 → j ≠ 15 → pm_up (pm_up h 169 14 0) 169 15 0 169 j = h 169 j := fun j x y => by rw [pm_up_j y, pm_up_j x]
  have eo : ∀ a, a ≠ 169 → pm_up (pm_up h 169 14 0) 169 15 0 a = h a := fun a x => by rw [pm_up_n x, pm_up_n x]
  obtain ⟨q, h', a1, a2, a3⟩ := m_lawL (d := d) (by omega) B 17 0 0 [] _ (by omega) (by omega) rfl ⟨t.to (e 18 (by omega) (by omega)) (eo 177 (by omega)), (e 12 (by omega) (by omega)).trans e12, ⟨(e 20 (by omega) (by omega)).trans M.1, (e 21 (by omega) (by omega)).trans M.2.1, (e 19 (by omega) (by omega)).trans M.2.2.1, fun z => (e 22 (by omega) (by omega)).trans (M.2.2.2 z)⟩, pm_up_s, trivial⟩ (by rw [pm_up_j (by omega), pm_up_s]; rfl) trivial (Nat.le_refl 0) (Nat.zero_le _)
  exact ⟨q, h', a1, ((FM.rf.up (by omega)).up (by omega)).tr a2, a3⟩
/-- every line that is read runs -/
theorem lsf_ok (hK : KE tp n K) (hr : r < 2) : ∀ (f i k : Nat) (xs : List Ln), k ≤ K → lsf (tc tp n) (tv tp n) r f i k = .inr xs → ∀ x, x ∈ xs → okLn x := by
  intro f
  induction f with
  | zero => intro i k xs _ e x hx; rw [← Sum.inr.inj e] at hx; cases hx
  | succ f ih =>
    intro i k xs hk e x hx
    by_cases c0 : tc tp n k = 0
    · have e0 : lsf (tc tp n) (tv tp n) r (f + 1) i k = .inr [] := if_pos c0
      rw [e0] at e
      rw [← Sum.inr.inj e] at hx
      cases hx
    · have kK := hK.2.2.1 k c0
      have el : lsf (tc tp n) (tv tp n) r (f + 1) i k = if stw r (tc tp n k) then (if i = 16 then .inl (3, k) else lcs (lnf (tc tp n) (tv tp n) k) (lsf (tc tp n) (tv tp n) r f (i + 1))) else .inl (1, k) := if_neg c0
      rw [el] at e
      by_cases st : stw r (tc tp n k)
      · rw [if_pos st] at e
        by_cases g : i = 16
        · rw [if_pos g] at e; cases e
        · rw [if_neg g] at e
          cases hn : lnf (tc tp n) (tv tp n) k with
          | inl e' => rw [hn] at e; cases e
          | inr p =>
            rw [hn] at e
            obtain ⟨y, k'⟩ := p
            obtain ⟨o1, o2, o3, o4, o5⟩ := lnf_ok hK kK st hn
            cases hs : lsf (tc tp n) (tv tp n) r f (i + 1) k' with
            | inl e' =>
              have e : rl (lsf (tc tp n) (tv tp n) r f (i + 1) k') (fun xs => (.inr (y :: xs) : Rs)) = .inr xs := e
              rw [hs] at e; cases e
            | inr ys =>
              have e : rl (lsf (tc tp n) (tv tp n) r f (i + 1) k') (fun xs => (.inr (y :: xs) : Rs)) = .inr xs := e
              rw [hs] at e
              have e2 : y :: ys = xs := Sum.inr.inj e
              rw [← e2] at hx
              rcases List.mem_cons.mp hx with e3 | e3
              · rw [e3]; exact o1
              · exact ih (i + 1) k' ys o3 hs x e3
      · rw [if_neg st] at e; cases e
end
