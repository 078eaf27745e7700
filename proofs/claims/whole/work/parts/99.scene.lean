/-! SCENES as numbers, and the class reads them -/
abbrev Wr : Type := Nat × (Nat → Nat × Nat × Nat)
def insc (w : Wr) (s a : Nat) : Prop := ∃ i, i < w.1 ∧ (w.2 i).1 = s ∧ (w.2 i).2.1 = a
def wadd (w : Wr) (x : Nat × Nat × Nat) : Wr := (w.1 + 1, fun i => if i = w.1 then x else w.2 i)
theorem wadd_n {w : Wr} {x : Nat × Nat × Nat} : (wadd w x).1 = w.1 + 1 := rfl
theorem wadd_s {w : Wr} {x : Nat × Nat × Nat} : (wadd w x).2 w.1 = x := if_pos rfl
theorem wadd_o {w : Wr} {x : Nat × Nat × Nat} {i : Nat} (h : i ≠ w.1) : (wadd w x).2 i = w.2 i := if_neg h
noncomputable def ck {α : Type} (P : Prop) (x y : α) : α := @ite _ P (Classical.propDecidable P) x y
theorem ck_t {α : Type} {P : Prop} {x y : α} (h : P) : ck P x y = x := @if_pos P (Classical.propDecidable P) h _ x y
theorem ck_f {α : Type} {P : Prop} {x y : α} (h : ¬ P) : ck P x y = y := @if_neg P (Classical.propDecidable P) h _ x y
abbrev Rw : Type := (Nat × Nat) ⊕ (Wr × Nat)
noncomputable def wrf (c v : Nat → Nat) (A s : Nat) : Nat → Wr → Nat → Rw
  | 0, w, k => .inr (w, k)
  | f + 1, w, k => if c k = 218 then (if w.1 = 6 then .inl (3, k) else if c (k + 1) = 2 then (if v (k + 1) < A then ck (insc w s (v (k + 1))) (.inl (3, k + 1)) (if 219 ≤ c (k + 2) ∧ c (k + 2) ≤ 223 then wrf c v A s f (wadd w (s, v (k + 1), c (k + 2) - 219)) (k + 3) else .inl (1, k + 2)) else .inl (2, k + 1)) else .inl (1, k + 1)) else .inr (w, k)
abbrev Mn : Type := Nat × (Nat → Nat)
def madd (m : Mn) (x : Nat) : Mn := (m.1 + 1, fun i => if i = m.1 then x else m.2 i)
theorem madd_s {m : Mn} {x : Nat} : (madd m x).2 m.1 = x := if_pos rfl
theorem madd_o {m : Mn} {x i : Nat} (h : i ≠ m.1) : (madd m x).2 i = m.2 i := if_neg h
abbrev Rc : Type := (Nat × Nat) ⊕ (Mn × Wr)
noncomputable def scf (c v : Nat → Nat) (A : Nat) : Nat → Mn → Wr → Nat → Rc
  | 0, m, w, _ => .inr (m, w)
  | f + 1, m, w, k => if c k = 0 then .inr (m, w) else if c k = 217 then (if m.1 = 6 then .inl (3, k) else if c (k + 1) = 2 then (if v (k + 1) ≤ 99 then rl (wrf c v A m.1 (7 - w.1) w (k + 2)) (fun q => if c q.2 = 59 then scf c v A f (madd m (v (k + 1))) q.1 (q.2 + 1) else .inl (1, q.2)) else .inl (2, k + 1)) else .inl (1, k + 1)) else .inl (1, k)
/-- what stands in the scenes below N -/
def WI (w : Wr) (N A : Nat) : Prop := w.1 ≤ 6 ∧ ∀ i, i < w.1 → (w.2 i).1 < N ∧ (w.2 i).2.1 < A ∧ (w.2 i).2.2 ≤ 4
theorem WI.le {w : Wr} {N N' A : Nat} (h : N ≤ N') (a : WI w N A) : WI w N' A := ⟨a.1, fun i hi => ⟨by have := (a.2 i hi).1; omega, (a.2 i hi).2⟩⟩
theorem WI.add {w : Wr} {N A s a k : Nat} (I : WI w N A) (h6 : w.1 < 6) (hs : s < N) (ha : a < A) (hk : k ≤ 4) : WI (wadd w (s, a, k)) N A := by
  refine ⟨by rw [wadd_n]; omega, fun i hi => ?_⟩
  rw [wadd_n] at hi
  by_cases e : i = w.1
  · rw [e, wadd_s]; exact ⟨hs, ha, hk⟩
  · rw [wadd_o e]; exact I.2 i (by omega)
section
variable {tp : Nat → Nat} {n K : Nat}
def CT (tp : Nat → Nat) (n K k : Nat) (h : pm_Hp) : Prop := h 133 9 = nI (K + 1) ∧ TKR tp n (K + 1) h ∧ h 133 10 = nI k ∧ k ≤ K
theorem CT.to {k : Nat} {h h' : pm_Hp} (S : CT tp n K k h) (e1 : h' 133 = h 133) (e2 : h' 147 = h 147) (e3 : h' 148 = h 148) (e4 : h' 149 = h 149) : CT tp n K k h' := ⟨by rw [e1]; exact S.1, S.2.1.to e2 e3 e4, by rw [e1]; exact S.2.2.1, S.2.2.2⟩
theorem CT.adv {k k' : Nat} {h : pm_Hp} (S : CT tp n K k h) (hk : k' ≤ K) : CT tp n K k' (pm_up h 133 10 (nI k')) := ⟨by rw [pm_up_j (by omega)]; exact S.1, S.2.1.to (pm_up_n (by omega)) (pm_up_n (by omega)) (pm_up_n (by omega)), pm_up_s, hk⟩
theorem t_token {d k : Nat} {h : pm_Hp} (hd : 1 ≤ d) (hK : KE tp n K) (S : CT tp n K k h) : pm_ev d 84 [.ref 133] h = some (nI (tc tp n k), h) := by
  obtain ⟨d, rfl, -⟩ := dpos hd
  obtain ⟨s1, s2, s3, s4⟩ := S
  have := hK.1
  rw [e_X5_token, s1, s3, if_pos (nI_lt (by omega) (by omega)), pm_at_c (by omega) (by omega), (s2 k (by omega)).1]
theorem t_value {d k : Nat} {h : pm_Hp} (hd : 1 ≤ d) (hK : KE tp n K) (S : CT tp n K k h) : pm_ev d 85 [.ref 133] h = some (nI (tv tp n k), h) := by
  obtain ⟨d, rfl, -⟩ := dpos hd
  obtain ⟨s1, s2, s3, s4⟩ := S
  have := hK.1
  rw [e_X5_value, s1, s3, if_pos (nI_lt (by omega) (by omega)), pm_at_c (by omega) (by omega), (s2 k (by omega)).2.2]
theorem t_refuse {d k : Nat} {h : pm_Hp} (hd : 1 ≤ d) (hK : KE tp n K) (S : CT tp n K k h) (e : Int32) : pm_ev d 86 [.ref 133, .int e] h = some (0, pm_up (pm_up h 133 2 e) 133 3 (nI (tl_ tp n k))) := by
  obtain ⟨d, rfl, -⟩ := dpos hd
  obtain ⟨s1, s2, s3, s4⟩ := S
  have := hK.1
  rw [e_X5_refuse, s1, s3, if_pos (nI_lt (by omega) (by omega)), pm_at_c (by omega) (by omega), (s2 k (by omega)).2.1]
theorem t_pass {d k t : Nat} {h : pm_Hp} (hd : 2 ≤ d) (hK : KE tp n K) (S : CT tp n K k h) (ht : t < 300) : (tc tp n k = t → pm_ev d 87 [.ref 133, .int (nI t)] h = some (1, pm_up h 133 10 (nI (k + 1)))) ∧ (tc tp n k ≠ t → pm_ev d 87 [.ref 133, .int (nI t)] h = some (0, pm_up (pm_up h 133 2 1) 133 3 (nI (tl_ tp n k)))) := by
  obtain ⟨d, rfl, -⟩ := dpos hd
  have c3 := hK.2.2.2.1 k
  refine ⟨fun g => ?_, fun g => ?_⟩
  · rw [e_X5_pass, t_token (by omega) hK S, pm_bd_s, if_pos (by rw [g]), S.2.2.1, nI_1]
  · rw [e_X5_pass, t_token (by omega) hK S, pm_bd_s, if_neg (fun z => g ((nI_eq (by omega) (by omega)).mp z)), t_refuse (by omega) hK S, pm_bd_s, pm_bw_0]
def CWr (w : Wr) (h : pm_Hp) : Prop := h 142 5 = nI w.1 ∧ ∀ i, i < w.1 → h 144 i = nI (w.2 i).1 ∧ h 145 i = nI (w.2 i).2.1 ∧ h 146 i = nI (w.2 i).2.2
def FW (h h' : pm_Hp) : Prop := (∀ a, (a < 133 ∨ (133 < a ∧ a < 142) ∨ 146 < a) → h' a = h a) ∧ ∀ j, j ≠ 2 → j ≠ 3 → j ≠ 10 → h' 133 j = h 133 j
theorem FW.rf {h : pm_Hp} : FW h h := ⟨fun _ _ => rfl, fun _ _ _ _ => rfl⟩
theorem FW.tr {h h' h'' : pm_Hp} (a : FW h h') (b : FW h' h'') : FW h h'' := ⟨fun k x => (b.1 k x).trans (a.1 k x), fun j x y z => (b.2 j x y z).trans (a.2 j x y z)⟩
theorem FW.at_ {h h' : pm_Hp} {j : Nat} {v : Int32} (a : FW h h') (hj : j = 2 ∨ j = 3 ∨ j = 10) : FW h (pm_up h' 133 j v) := ⟨fun k x => by rw [pm_up_n (by omega)]; exact a.1 k x, fun i x y z => by rw [pm_up_j (by omega)]; exact a.2 i x y z⟩
theorem FW.ro {h h' : pm_Hp} {b j : Nat} {v : Int32} (a : FW h h') (hb : 142 ≤ b ∧ b ≤ 146) : FW h (pm_up h' b j v) := ⟨fun k x => by rw [pm_up_n (by omega)]; exact a.1 k x, fun i x y z => by rw [pm_up_k (by omega)]; exact a.2 i x y z⟩
def OW (tp : Nat → Nat) (n K s A : Nat) (h h' : pm_Hp) (r1 : Int32) (R : Rw) : Prop := match R with
  | .inl e => r1 = 0 ∧ h' 133 2 = nI e.1 ∧ h' 133 3 = nI (tl_ tp n e.2)
  | .inr q => r1 = 1 ∧ CT tp n K q.2 h' ∧ CWr q.1 h' ∧ WI q.1 (s + 1) A ∧ h' 133 2 = h 133 2 ∧ h' 133 3 = h 133 3 ∧ h' 142 4 = h 142 4 ∧ h' 143 = h 143
theorem c_wearL {d A s : Nat} (hd : 2 ≤ d) (hK : KE tp n K) (hA : A ≤ 6) (hs : s < 6) : ∀ (f : Nat) (w : Wr) (k t b : Nat) (h : pm_Hp) (u4 u5 : Value), f + w.1 = 7 → WI w (s + 1) A → t ≤ w.1 → CT tp n K k h → CWr w h → h 142 4 = nI s → b < 2 ^ 6 → (∀ a, a < 6 → (b.testBit a = true ↔ insc w s a)) → ∃ r1 h', pm_rn d kX5_readWears 4 [.ref 133, .int (nI A), .int (nI b), .int (nI t), u4, u5] [] h = some (r1, h') ∧ FW h h' ∧ OW tp n K s A h h' r1 (wrf (tc tp n) (tv tp n) A s f w k) := by
  have K4 := hK.1
  intro f
  induction f with
  | zero => intro w k t b h u4 u5 hf I; have := I.1; omega
  | succ f ih =>
    intro w k t b h u4 u5 hf I ht S W e4 hb hbit
    have w6 := I.1
    have c3 := hK.2.2.2.1 k
    rw [b_X5_readWears_4, if_pos (nI_le (by omega) (by omega)), t_token (by omega) hK S, pm_bd_s, nI_ite (by omega) (by omega)]
    unfold wrf
    by_cases g1 : tc tp n k = 218
    · have kK := hK.2.2.1 k (by omega)
      rw [if_pos g1, if_pos g1, W.1, ltn_ite (by omega) (by omega)]
      by_cases g2 : w.1 = 6
      · rw [if_neg (by omega), if_pos g2, t_refuse (by omega) hK S, pm_bd_s, pm_bw_0]
        exact ⟨0, _, rfl, (FW.rf.at_ (by omega)).at_ (by omega), rfl, by rw [pm_up_j (by omega), pm_up_s], pm_up_s⟩
      · rw [if_pos (by omega), if_neg g2, S.2.2.1, nI_1]
        have A1 := S.adv (k' := k + 1) (by omega)
        have F1 : FW h (pm_up h 133 10 (nI (k + 1))) := FW.rf.at_ (by omega)
        have c31 := hK.2.2.2.1 (k + 1)
        have v31 := (hK.2.2.2.2.2 (k + 1)).1
        rw [t_value (by omega) hK A1, pm_bd_s, t_token (by omega) hK A1, pm_bd_s, nI_ite (by omega) (by omega)]
        obtain ⟨p1, p2⟩ := t_pass (d := d) (t := 2) (by omega) hK A1 (by omega)
        by_cases g3 : tc tp n (k + 1) = 2
        · have kK1 := hK.2.2.1 (k + 1) (by omega)
          rw [if_pos g3, if_pos g3, ltn_ite (by omega) (by omega)]
          by_cases g4 : tv tp n (k + 1) < A
          · rw [if_pos g4, if_pos g4, t_token (by omega) hK A1, pm_bd_s, g3, if_pos rfl, c_has (by omega) _ (by omega) (by omega), pm_bd_s]
            by_cases g5 : insc w s (tv tp n (k + 1))
            · rw [b2_t ((hbit _ (by omega)).mpr g5), if_neg (by decide), ck_t g5, t_refuse (by omega) hK A1, pm_bd_s, pm_bw_0]
              exact ⟨0, _, rfl, (F1.at_ (by omega)).at_ (by omega), rfl, by rw [pm_up_j (by omega), pm_up_s], pm_up_s⟩
            · have A2 := A1.adv (k' := k + 1 + 1) (by omega)
              have c32 := hK.2.2.2.1 (k + 1 + 1)
              rw [b2_f (fun z => g5 ((hbit _ (by omega)).mp z)), if_pos rfl, ck_f g5, p1 g3, pm_bd_s, if_neg (by decide), t_token (by omega) hK A2, pm_bd_s, ltn_ite (by omega) (by omega)]
              generalize hg : pm_up (pm_up h 133 10 (nI (k + 1))) 133 10 (nI (k + 1 + 1)) = g at A2
              have Fg : FW h g := by rw [← hg]; exact F1.at_ (by omega)
              have go : ∀ a, a ≠ 133 → g a = h a := fun a x => by rw [← hg, pm_up_n x, pm_up_n x]
              have g2_ : g 133 2 = h 133 2 := by rw [← hg, pm_up_j (by omega), pm_up_j (by omega)]
              have g3_ : g 133 3 = h 133 3 := by rw [← hg, pm_up_j (by omega), pm_up_j (by omega)]
              by_cases g6 : 219 ≤ tc tp n (k + 2) ∧ tc tp n (k + 2) ≤ 223
              · have g6' : 219 ≤ tc tp n (k + 1 + 1) ∧ tc tp n (k + 1 + 1) ≤ 223 := g6
                have kK2 := hK.2.2.1 (k + 1 + 1) (by omega)
                have A3 := A2.adv (k' := k + 3) (by omega)
                rw [if_neg (by omega), if_pos g6, len_ite (by omega) (by omega), if_pos g6'.2, go 142 (by omega), W.1, e4, pm_at_c (by omega) (by omega), pm_at_c (by omega) (by omega), pm_at_c (by omega) (by omega), A2.2.2.1, nI_1, nI_1, nI_1, pk_sub g6'.1, shl1 _ (by omega), nI_or]
                show ∃ r1 h', pm_rn d kX5_readWears 4 _ [] (pm_up (pm_up (pm_up (pm_up (pm_up g 133 10 (nI (k + 3))) 144 w.1 (nI s)) 145 w.1 (nI (tv tp n (k + 1)))) 146 w.1 (nI (tc tp n (k + 2) - 219))) 142 5 (nI (w.1 + 1))) = some (r1, h') ∧ FW h h' ∧ OW tp n K s A h h' r1 (wrf (tc tp n) (tv tp n) A s f (wadd w (s, tv tp n (k + 1), tc tp n (k + 2) - 219)) (k + 3))
                generalize hh : pm_up (pm_up (pm_up (pm_up (pm_up g 133 10 (nI (k + 3))) 144 w.1 (nI s)) 145 w.1 (nI (tv tp n (k + 1)))) 146 w.1 (nI (tc tp n (k + 2) - 219))) 142 5 (nI (w.1 + 1)) = y
                have Fy : FW h y := by rw [← hh]; exact ((((Fg.at_ (by omega)).ro (by omega)).ro (by omega)).ro (by omega)).ro (by omega)
                have yo : ∀ a, (a < 133 ∨ (133 < a ∧ a < 142) ∨ a = 143 ∨ 146 < a) → y a = h a := fun a x => by rw [← hh, pm_up_n (by omega), pm_up_n (by omega), pm_up_n (by omega), pm_up_n (by omega), pm_up_n (by omega)]; exact go a (by omega)
                have y133 : y 133 = (pm_up g 133 10 (nI (k + 3))) 133 := by rw [← hh, pm_up_n (by omega), pm_up_n (by omega), pm_up_n (by omega), pm_up_n (by omega)]
                have Sy : CT tp n K (k + 3) y := A3.to y133 (by rw [yo 147 (by omega), pm_up_n (by omega), go 147 (by omega)]) (by rw [yo 148 (by omega), pm_up_n (by omega), go 148 (by omega)]) (by rw [yo 149 (by omega), pm_up_n (by omega), go 149 (by omega)])
                have y4 : y 142 4 = nI s := by rw [← hh, pm_up_j (by omega), pm_up_k (by omega), pm_up_k (by omega), pm_up_k (by omega), pm_up_k (by omega), go 142 (by omega)]; exact e4
                have Wy : CWr (wadd w (s, tv tp n (k + 1), tc tp n (k + 2) - 219)) y := by
                  refine ⟨by rw [← hh, pm_up_s]; rfl, fun i hi => ?_⟩
                  rw [wadd_n] at hi
                  have f1 : y 144 i = pm_up (pm_up g 133 10 (nI (k + 3))) 144 w.1 (nI s) 144 i := by rw [← hh, pm_up_k (by omega), pm_up_k (by omega), pm_up_k (by omega)]
                  have f2 : y 145 i = pm_up (pm_up (pm_up g 133 10 (nI (k + 3))) 144 w.1 (nI s)) 145 w.1 (nI (tv tp n (k + 1))) 145 i := by rw [← hh, pm_up_k (by omega), pm_up_k (by omega)]
                  have f3 : y 146 i = pm_up (pm_up (pm_up (pm_up g 133 10 (nI (k + 3))) 144 w.1 (nI s)) 145 w.1 (nI (tv tp n (k + 1)))) 146 w.1 (nI (tc tp n (k + 2) - 219)) 146 i := by rw [← hh, pm_up_k (by omega)]
                  rw [f1, f2, f3]
                  by_cases ei : i = w.1
                  · rw [ei, wadd_s, pm_up_s, pm_up_s, pm_up_s]; exact ⟨rfl, rfl, rfl⟩
                  · refine ⟨?_, ?_, ?_⟩
                    · rw [wadd_o ei, pm_up_j ei, pm_up_k (by omega), go 144 (by omega)]; exact (W.2 i (by omega)).1
                    · rw [wadd_o ei, pm_up_j ei, pm_up_k (by omega), pm_up_k (by omega), go 145 (by omega)]; exact (W.2 i (by omega)).2.1
                    · rw [wadd_o ei, pm_up_j ei, pm_up_k (by omega), pm_up_k (by omega), pm_up_k (by omega), go 146 (by omega)]; exact (W.2 i (by omega)).2.2
                obtain ⟨r1, h', a1, a2, a3⟩ := ih (wadd w (s, tv tp n (k + 1), tc tp n (k + 2) - 219)) (k + 3) (t + 1) (b ||| 2 ^ tv tp n (k + 1)) y (.int (nI (tv tp n (k + 1)))) (.int (nI (tc tp n (k + 1 + 1)))) (by rw [wadd_n]; omega) (I.add (by omega) (by omega) g4 (by omega)) (by rw [wadd_n]; omega) Sy Wy y4 (add_lt hb (by omega)) (fun a ha => by
                  rw [bit_add, Bool.or_eq_true, hbit a ha, decide_eq_true_eq]
                  refine ⟨fun z => ?_, fun z => ?_⟩
                  · rcases z with ⟨i, z1, z2, z3⟩ | z
                    · exact ⟨i, by rw [wadd_n]; omega, by rw [wadd_o (by omega)]; exact z2, by rw [wadd_o (by omega)]; exact z3⟩
                    · exact ⟨w.1, by rw [wadd_n]; omega, by rw [wadd_s], by rw [wadd_s]; exact z⟩
                  · obtain ⟨i, z1, z2, z3⟩ := z
                    rw [wadd_n] at z1
                    by_cases ei : i = w.1
                    · rw [ei, wadd_s] at z3; exact Or.inr z3
                    · rw [wadd_o ei] at z2 z3; exact Or.inl ⟨i, by omega, z2, z3⟩)
                refine ⟨r1, h', a1, Fy.tr a2, ?_⟩
                have ye2 : y 133 2 = h 133 2 := by rw [y133, pm_up_j (by omega)]; exact g2_
                have ye3 : y 133 3 = h 133 3 := by rw [y133, pm_up_j (by omega)]; exact g3_
                cases hR : wrf (tc tp n) (tv tp n) A s f (wadd w (s, tv tp n (k + 1), tc tp n (k + 2) - 219)) (k + 3) with
                | inl e => rw [hR] at a3; exact a3
                | inr q =>
                  rw [hR] at a3
                  obtain ⟨x1, x2, x3, x4, x5, x6, x7, x8⟩ := a3
                  exact ⟨x1, x2, x3, x4, x5.trans ye2, x6.trans ye3, by rw [x7, y4, e4], by rw [x8, yo 143 (by omega)]⟩
              · have no : ∃ r1 h', (pm_bd (pm_ev d 86 [.ref 133, .int 1] g) fun r8 y8 => pm_bw r8 (some (r8, y8))) = some (r1, h') ∧ FW h h' ∧ OW tp n K s A h h' r1 (.inl (1, k + 2)) := by
                  rw [t_refuse (by omega) hK A2, pm_bd_s, pm_bw_0]
                  exact ⟨0, _, rfl, (Fg.at_ (by omega)).at_ (by omega), rfl, by rw [pm_up_j (by omega), pm_up_s]; rfl, pm_up_s⟩
                rw [if_neg g6]
                have g6' : ¬ (219 ≤ tc tp n (k + 1 + 1) ∧ tc tp n (k + 1 + 1) ≤ 223) := g6
                by_cases g7 : tc tp n (k + 1 + 1) < 219
                · rw [if_pos g7]; exact no
                · rw [if_neg g7, len_ite (by omega) (by omega), if_neg (by omega)]; exact no
          · rw [if_neg g4, if_neg g4, t_refuse (by omega) hK A1, pm_bd_s, pm_bw_0]
            exact ⟨0, _, rfl, (F1.at_ (by omega)).at_ (by omega), rfl, by rw [pm_up_j (by omega), pm_up_s], pm_up_s⟩
        · rw [if_neg g3, if_neg g3, t_token (by omega) hK A1, pm_bd_s, nI_ite (by omega) (by omega), if_neg g3, p2 g3, pm_bd_s, if_pos rfl]
          exact ⟨0, _, rfl, (F1.at_ (by omega)).at_ (by omega), rfl, by rw [pm_up_j (by omega), pm_up_s]; rfl, pm_up_s⟩
    · rw [if_neg g1, if_neg g1]
      exact ⟨1, h, rfl, FW.rf, rfl, S, W, I, rfl, rfl, rfl, rfl⟩
end
