theorem kwi_ne2 (w : List Nat) : ∀ (l : List (List Nat)) (j : Nat), 3 ≤ j → kwi w l j ≠ 2 := by
  intro l
  induction l with
  | nil => intro j _; exact fun z => absurd z (by show ¬ (1 = 2); omega)
  | cons x l ih =>
    intro j hj
    unfold kwi
    by_cases e : w = x
    · rw [if_pos e]; omega
    · rw [if_neg e]; exact ih (j + 1) (by omega)
def FN (h h' : pm_Hp) : Prop := (∀ k, k ≠ 169 → h' k = h k) ∧ ∀ j, (j < 19 ∨ 22 < j) → h' 169 j = h 169 j
theorem FN.rf {h : pm_Hp} : FN h h := ⟨fun _ _ => rfl, fun _ _ => rfl⟩
theorem FN.up {h h' : pm_Hp} {j : Nat} {v : Int32} (a : FN h h') (h1 : 19 ≤ j) (h2 : j ≤ 22) : FN h (pm_up h' 169 j v) := ⟨fun k hk => by rw [pm_up_n hk]; exact a.1 k hk, fun i hi => by rw [pm_up_j (by omega)]; exact a.2 i hi⟩
theorem FN.tm {tp : Nat → Nat} {n : Nat} {h h' : pm_Hp} (a : FN h h') (t : TM tp n h) : TM tp n h' := t.to (a.2 18 (by omega)) (a.1 177 (by omega))
theorem FN.tr {h h' h'' : pm_Hp} (a : FN h h') (b : FN h' h'') : FN h h'' := ⟨fun k hk => (b.1 k hk).trans (a.1 k hk), fun j hj => (b.2 j hj).trans (a.2 j hj)⟩
theorem m_wordL {d n r p0 : Nat} {tp : Nat → Nat} (hd : 6 ≤ d) (hb : ∀ i, tp i < 256) (hn : n ≤ 400) (hr : r < 3) (u1 u2 : Value) : ∀ (m q : Nat) (g : pm_Hp), n - q = m → q ≤ n → p0 ≤ q → TM tp n g → g 169 19 = nI q → g 169 21 = nI p0 → g 169 12 = nI r → ∃ h', pm_rn d kX10_next0 76 [.ref 169, u1, u2] [] g = some (0, h') ∧ FN g h' ∧ h' 169 19 = nI (rnE isL tp n q) ∧ h' 169 20 = nI (mt r (kwi (wbs tp p0 (rnE isL tp n q - p0)) kwl 200)) ∧ h' 169 21 = nI p0 := by
  intro m
  induction m with
  | zero =>
    intro q g hq hq2 hp t e19 e21 e12
    rw [b_X10_next0_76, e19, m_see (by omega) t hn (by omega), if_neg (by omega), pm_bd_s, m_isLetter_e (by omega), pm_bd_s, if_pos rfl, m_word (by omega) t hb e21 e19 hp hq2 hn hr e12, pm_bd_s, show rnE isL tp n q = q from rne_e (by omega)]
    exact ⟨_, rfl, FN.rf.up (by omega) (by omega), by rw [pm_up_j (by omega)]; exact e19, pm_up_s, by rw [pm_up_j (by omega)]; exact e21⟩
  | succ m ih =>
    intro q g hq hq2 hp t e19 e21 e12
    rw [b_X10_next0_76, e19, m_see (by omega) t hn (by omega), if_pos (by omega), pm_bd_s, m_isLetter (by omega) (hb q), pm_bd_s]
    by_cases c : isL (tp q)
    · rw [b2_t c, if_neg (by decide), e19, nI_1, show rnE isL tp n q = rnE isL tp n (q + 1) from rne_s (by omega) c]
      have F1 : FN g (pm_up g 169 19 (nI (q + 1))) := FN.rf.up (by omega) (by omega)
      obtain ⟨h', a1, a2, a3, a4, a5⟩ := ih (q + 1) (pm_up g 169 19 (nI (q + 1))) (by omega) (by omega) (by omega) (F1.tm t) pm_up_s (by rw [pm_up_j (by omega)]; exact e21) (by rw [pm_up_j (by omega)]; exact e12)
      exact ⟨h', a1, F1.tr a2, a3, a4, a5⟩
    · rw [b2_f c, if_pos rfl, m_word (by omega) t hb e21 e19 hp hq2 hn hr e12, pm_bd_s, show rnE isL tp n q = q from rne_e (fun z => c z.2)]
      exact ⟨_, rfl, FN.rf.up (by omega) (by omega), by rw [pm_up_j (by omega)]; exact e19, pm_up_s, by rw [pm_up_j (by omega)]; exact e21⟩
theorem m_digL {d n p0 : Nat} {tp : Nat → Nat} (hd : 3 ≤ d) (hb : ∀ i, tp i < 256) (hn : n ≤ 400) (u1 u2 : Value) : ∀ (m q : Nat) (g : pm_Hp), n - q = m → q ≤ n → p0 ≤ q → (∀ x, x < q - p0 → isD (tp (p0 + x))) → TM tp n g → g 169 19 = nI q → g 169 21 = nI p0 → g 169 22 = nI (nm tp p0 (min (q - p0) 4)) → ∃ h', pm_rn d kX10_next0 126 [.ref 169, u1, u2] [] g = some (0, h') ∧ FN g h' ∧ h' 169 19 = nI (rnE isD tp n q) ∧ h' 169 20 = nI (if rnE isD tp n q - p0 ≤ 4 then 2 else 1) ∧ h' 169 21 = nI p0 ∧ h' 169 22 = nI (nm tp p0 (min (rnE isD tp n q - p0) 4)) := by
  have fin : ∀ (q : Nat) (g : pm_Hp), q ≤ n → p0 ≤ q → TM tp n g → g 169 19 = nI q → g 169 21 = nI p0 → g 169 22 = nI (nm tp p0 (min (q - p0) 4)) → ∃ h', (if (g 169 19) - (g 169 21) < nI 5 then (some ((0 : Int32), (pm_up g 169 20 (nI 2)))) else (some (0, (pm_up g 169 20 1)))) = some (0, h') ∧ FN g h' ∧ h' 169 19 = nI q ∧ h' 169 20 = nI (if q - p0 ≤ 4 then 2 else 1) ∧ h' 169 21 = nI p0 ∧ h' 169 22 = nI (nm tp p0 (min (q - p0) 4)) := fun q g hq hp t e19 e21 e22 => by
    rw [e19, e21, pk_sub hp, ltn_ite (by omega) (by omega)]
    by_cases c : q - p0 ≤ 4
    · rw [if_pos (by omega), if_pos c]
      exact ⟨_, rfl, FN.rf.up (by omega) (by omega), by rw [pm_up_j (by omega)]; exact e19, pm_up_s, by rw [pm_up_j (by omega)]; exact e21, by rw [pm_up_j (by omega)]; exact e22⟩
    · rw [if_neg (by omega), if_neg c]
      exact ⟨_, rfl, FN.rf.up (by omega) (by omega), by rw [pm_up_j (by omega)]; exact e19, pm_up_s, by rw [pm_up_j (by omega)]; exact e21, by rw [pm_up_j (by omega)]; exact e22⟩
  intro m
  induction m with
  | zero =>
    intro q g hq hq2 hp hdg t e19 e21 e22
    rw [b_X10_next0_126, e19, m_see (by omega) t hn (by omega), if_neg (by omega), pm_bd_s, m_isDigit_e (by omega), pm_bd_s, if_pos rfl, show rnE isD tp n q = q from rne_e (by omega)]
    exact fin q g hq2 hp t e19 e21 e22
  | succ m ih =>
    intro q g hq hq2 hp hdg t e19 e21 e22
    rw [b_X10_next0_126, e19, m_see (by omega) t hn (by omega), if_pos (by omega), pm_bd_s, m_isDigit (by omega) (hb q), pm_bd_s]
    by_cases c : isD (tp q)
    · rw [b2_t c, if_neg (by decide), e19, e21, nI_add, ltn_ite (by omega) (by omega), show rnE isD tp n q = rnE isD tp n (q + 1) from rne_s (by omega) c]
      have dg' : ∀ x, x < q + 1 - p0 → isD (tp (p0 + x)) := fun x hx => by
        by_cases ex : p0 + x = q
        · rw [ex]; exact c
        · exact hdg x (by omega)
      by_cases c4 : q < p0 + 4
      · rw [if_pos c4, m_see (by omega) t hn (by omega), if_pos (by omega), pm_bd_s, e22, e19, pk_mul, nI_add, pk_sub (by unfold isD at c; omega), nI_1]
        have F1 : FN g (pm_up (pm_up g 169 22 (nI (10 * nm tp p0 (min (q - p0) 4) + tp q - 48))) 169 19 (nI (q + 1))) := (FN.rf.up (by omega) (by omega)).up (by omega) (by omega)
        obtain ⟨h', a1, a2, a3, a4, a5, a6⟩ := ih (q + 1) _ (by omega) (by omega) (by omega) dg' (F1.tm t) pm_up_s (by rw [pm_up_j (by omega), pm_up_j (by omega)]; exact e21) (by
          rw [pm_up_j (by omega), pm_up_s, show min (q + 1 - p0) 4 = (q - p0) + 1 by omega, show min (q - p0) 4 = q - p0 by omega]
          show nI (10 * nm tp p0 (q - p0) + tp q - 48) = nI (nm tp p0 (q - p0) * 10 + (tp (p0 + (q - p0)) - 48))
          rw [show p0 + (q - p0) = q by omega]
          congr 1
          unfold isD at c
          omega)
        exact ⟨h', a1, F1.tr a2, a3, a4, a5, a6⟩
      · rw [if_neg c4, nI_1]
        have F1 : FN g (pm_up g 169 19 (nI (q + 1))) := FN.rf.up (by omega) (by omega)
        obtain ⟨h', a1, a2, a3, a4, a5, a6⟩ := ih (q + 1) (pm_up g 169 19 (nI (q + 1))) (by omega) (by omega) (by omega) dg' (F1.tm t) pm_up_s (by rw [pm_up_j (by omega)]; exact e21) (by rw [pm_up_j (by omega), show min (q + 1 - p0) 4 = min (q - p0) 4 by omega]; exact e22)
        exact ⟨h', a1, F1.tr a2, a3, a4, a5, a6⟩
    · rw [b2_f c, if_pos rfl, show rnE isD tp n q = q from rne_e (fun z => c z.2)]
      exact fin q g hq2 hp t e19 e21 e22
/-- the model stands at a token -/
def MA (r : Nat) (T : Tok) (h : pm_Hp) : Prop := h 169 20 = nI (mt r T.1) ∧ h 169 21 = nI T.2.1 ∧ h 169 19 = nI T.2.2.2 ∧ (T.1 = 2 → h 169 22 = nI T.2.2.1)
theorem m_nextL {d n r : Nat} {tp : Nat → Nat} (hd : 6 ≤ d) (hb : ∀ i, tp i < 256) (hn : n ≤ 400) (hr : r < 3) (u1 u2 : Value) : ∀ (m p : Nat) (g : pm_Hp), n - p = m → p ≤ n → TM tp n g → g 169 19 = nI p → g 169 12 = nI r → ∃ h', pm_rn d kX10_next0 0 [.ref 169, u1, u2] [] g = some (0, h') ∧ FN g h' ∧ MA r (tkF tp n p) h' := by
  intro m
  induction m with
  | zero =>
    intro p g hp hp2 t e19 e12
    have : p = n := by omega
    subst this
    have F1 : FN g (pm_up g 169 21 (nI p)) := FN.rf.up (by omega) (by omega)
    have see := m_see (d := d) (n := p) (k := p) (tp := tp) (h := g) (by omega) t hn (by omega)
    rw [if_neg (by omega)] at see
    rw [b_X10_next0_0, e19, see, pm_bd_s, if_neg (by decide), e19, see, pm_bd_s, if_neg (by decide), e19, m_see (by omega) (F1.tm t) hn (by omega), if_neg (by omega), pm_bd_s, if_pos rfl, tkF_end (Nat.le_refl _)]
    exact ⟨_, rfl, F1.up (by omega) (by omega), pm_up_s, by rw [pm_up_j (by omega), pm_up_s], by rw [pm_up_j (by omega), pm_up_j (by omega)]; exact e19, fun z => absurd z (by show ¬ (0 = 2); omega)⟩
  | succ m ih =>
    intro p g hp hp2 t e19 e12
    have hb2 := hb p
    have see := m_see (d := d) (n := n) (k := p) (tp := tp) (h := g) (by omega) t hn (by omega)
    rw [if_pos (by omega)] at see
    have nx : isSp (tp p) → ∃ h', pm_rn d kX10_next0 0 [.ref 169, u1, u2] [] (pm_up g 169 19 (nI (p + 1))) = some (0, h') ∧ FN g h' ∧ MA r (tkF tp n p) h' := fun hs => by
      have F1 : FN g (pm_up g 169 19 (nI (p + 1))) := FN.rf.up (by omega) (by omega)
      obtain ⟨h', a1, a2, a3⟩ := ih (p + 1) (pm_up g 169 19 (nI (p + 1))) (by omega) (by omega) (F1.tm t) pm_up_s (by rw [pm_up_j (by omega)]; exact e12)
      exact ⟨h', a1, F1.tr a2, by rw [tkF_sp (by omega) hs]; exact a3⟩
    rw [b_X10_next0_0, e19, see, pm_bd_s]
    by_cases s1 : tp p = 32
    · rw [if_pos (by rw [s1]), e19, nI_1]
      exact nx (Or.inl s1)
    · rw [if_neg (fun z => s1 ((nI_eq (by omega) (by omega)).mp z)), e19, see, pm_bd_s]
      by_cases s2 : tp p = 10
      · rw [if_pos (by rw [s2]), e19, nI_1]
        exact nx (Or.inr s2)
      · have ns : ¬ isSp (tp p) := by unfold isSp; omega
        have F1 : FN g (pm_up g 169 21 (nI p)) := FN.rf.up (by omega) (by omega)
        have t1 := F1.tm t
        have f19 : pm_up g 169 21 (nI p) 169 19 = nI p := by rw [pm_up_j (by omega)]; exact e19
        have f21 : pm_up g 169 21 (nI p) 169 21 = nI p := pm_up_s
        rw [if_neg (fun z => s2 ((nI_eq (by omega) (by omega)).mp z)), e19, m_see (by omega) t1 hn (by omega), if_pos (by omega), pm_bd_s, if_neg (by rw [nI_m1 (by omega)]; exact id), m_isLetter (by omega) hb2, pm_bd_s, tkF_tk (by omega) ns]
        unfold tkA
        by_cases c1 : isL (tp p)
        · rw [b2_t c1, if_neg (by decide), if_pos c1]
          obtain ⟨h', a1, a2, a3, a4, a5⟩ := m_wordL (d := d) (n := n) (r := r) (p0 := p) (tp := tp) hd hb hn hr (.int (nI (tp p))) u2 (n - p) p (pm_up g 169 21 (nI p)) rfl (by omega) (Nat.le_refl _) t1 f19 f21 (by rw [pm_up_j (by omega)]; exact e12)
          refine ⟨h', a1, F1.tr a2, a4, a5, a3, fun z => ?_⟩
          exact absurd z (kwi_ne2 _ _ _ (by omega))
        · rw [b2_f c1, if_pos rfl, if_neg c1, m_isDigit (by omega) hb2, pm_bd_s]
          by_cases c2 : isD (tp p)
          · rw [b2_t c2, if_neg (by decide), if_pos c2]
            have F2 : FN g (pm_up (pm_up g 169 21 (nI p)) 169 22 0) := F1.up (by omega) (by omega)
            obtain ⟨h', a1, a2, a3, a4, a5, a6⟩ := m_digL (d := d) (n := n) (p0 := p) (tp := tp) (by omega) hb hn (.int (nI (tp p))) u2 (n - p) p (pm_up (pm_up g 169 21 (nI p)) 169 22 0) rfl (by omega) (Nat.le_refl _) (fun x hx => absurd hx (by omega)) (F2.tm t) (by rw [pm_up_j (by omega)]; exact f19) (by rw [pm_up_j (by omega)]; exact f21) (by rw [pm_up_s, show min (p - p) 4 = 0 by omega]; rfl)
            refine ⟨h', a1, F2.tr a2, ?_, a5, a3, fun _ => a6⟩
            rw [a4]
            show nI _ = nI (mt r (if rnE isD tp n p - p ≤ 4 then 2 else 1))
            by_cases c4 : rnE isD tp n p - p ≤ 4
            · rw [if_pos c4]; rfl
            · rw [if_neg c4]; rfl
          · rw [b2_f c2, if_pos rfl, if_neg c2, f19, nI_1]
            have F3 : ∀ v : Int32, FN g (pm_up (pm_up (pm_up g 169 21 (nI p)) 169 19 (nI (p + 1))) 169 20 v) := fun v => (F1.up (by omega) (by omega)).up (by omega) (by omega)
            have sg : ∀ b : Nat, tp p = b → (40 ≤ b ∧ b ≤ 62) → isSg b → ∃ h', (some ((0 : Int32), pm_up (pm_up (pm_up g 169 21 (nI p)) 169 19 (nI (p + 1))) 169 20 (nI 100 + nI (tp p)))) = some (0, h') ∧ FN g h' ∧ MA r ((if isSg (tp p) then tp p else 1), p, 0, p + 1) h' := fun b eb hb3 hs => by
              refine ⟨_, rfl, F3 _, ?_, ?_, ?_, fun z => ?_⟩
              · rw [pm_up_s, nI_add]
                show nI (100 + tp p) = nI (mt r (if isSg (tp p) then tp p else 1))
                rw [eb, if_pos hs]
                unfold mt
                rw [if_neg (by omega), if_pos (by omega)]
              · rw [pm_up_j (by omega), pm_up_j (by omega)]; exact f21
              · rw [pm_up_j (by omega), pm_up_s]
              · have z : (if isSg (tp p) then tp p else 1) = 2 := z
                rw [eb, if_pos hs] at z; omega
            have nsg : ¬ isSg (tp p) → ∃ h', (some ((0 : Int32), pm_up (pm_up (pm_up g 169 21 (nI p)) 169 19 (nI (p + 1))) 169 20 1)) = some (0, h') ∧ FN g h' ∧ MA r ((if isSg (tp p) then tp p else 1), p, 0, p + 1) h' := fun hs => by
              refine ⟨_, rfl, F3 _, ?_, ?_, ?_, fun z => ?_⟩
              · rw [pm_up_s]
                show 1 = nI (mt r (if isSg (tp p) then tp p else 1))
                rw [if_neg hs]; rfl
              · rw [pm_up_j (by omega), pm_up_j (by omega)]; exact f21
              · rw [pm_up_j (by omega), pm_up_s]
              · have z : (if isSg (tp p) then tp p else 1) = 2 := z
                rw [if_neg hs] at z; omega
            rw [nI_ite (by omega) (by omega)]
            by_cases k1 : tp p = 59
            · rw [if_pos k1]; exact sg 59 k1 (by omega) (by decide)
            rw [if_neg k1, nI_ite (by omega) (by omega)]
            by_cases k2 : tp p = 43
            · rw [if_pos k2]; exact sg 43 k2 (by omega) (by decide)
            rw [if_neg k2, nI_ite (by omega) (by omega)]
            by_cases k3 : tp p = 45
            · rw [if_pos k3]; exact sg 45 k3 (by omega) (by decide)
            rw [if_neg k3, nI_ite (by omega) (by omega)]
            by_cases k4 : tp p = 42
            · rw [if_pos k4]; exact sg 42 k4 (by omega) (by decide)
            rw [if_neg k4, nI_ite (by omega) (by omega)]
            by_cases k5 : tp p = 47
            · rw [if_pos k5]; exact sg 47 k5 (by omega) (by decide)
            rw [if_neg k5, nI_ite (by omega) (by omega)]
            by_cases k6 : tp p = 40
            · rw [if_pos k6]; exact sg 40 k6 (by omega) (by decide)
            rw [if_neg k6, nI_ite (by omega) (by omega)]
            by_cases k7 : tp p = 41
            · rw [if_pos k7]; exact sg 41 k7 (by omega) (by decide)
            rw [if_neg k7, nI_ite (by omega) (by omega)]
            by_cases k8 : tp p = 60
            · rw [if_pos k8]; exact sg 60 k8 (by omega) (by decide)
            rw [if_neg k8, nI_ite (by omega) (by omega)]
            by_cases k9 : tp p = 61
            · rw [if_pos k9]; exact sg 61 k9 (by omega) (by decide)
            rw [if_neg k9, nI_ite (by omega) (by omega)]
            by_cases k10 : tp p = 62
            · rw [if_pos k10]; exact sg 62 k10 (by omega) (by decide)
            rw [if_neg k10]
            exact nsg (by unfold isSg; omega)
theorem m_next {d n r p : Nat} {tp : Nat → Nat} {g : pm_Hp} (hd : 7 ≤ d) (hb : ∀ i, tp i < 256) (hn : n ≤ 400) (hr : r < 3) (hp : p ≤ n) (t : TM tp n g) (e19 : g 169 19 = nI p) (e12 : g 169 12 = nI r) : ∃ h', pm_ev d 186 [.ref 169] g = some (0, h') ∧ FN g h' ∧ MA r (tkF tp n p) h' := by
  obtain ⟨d, rfl, -⟩ := dpos hd
  rw [(e_X10_next0 d g).trans (b_X10_next0_0 d g .null .null).symm]
  exact m_nextL (by omega) hb hn hr _ _ (n - p) p g rfl hp t e19 e12
