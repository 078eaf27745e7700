section
variable {T W : Nat} {cd ce : Nat → Nat → Prop} {co : Nat → Nat → Nat} {gt : Nat → Nat → Nat → Nat → Prop}
/-- the best so far -/
def SRr (W : Nat) (s : Sr) (h : pm_Hp) : Prop := h 150 13 = nI (if s.1 = true then s.2.1 else MAXI) ∧ (s.1 = true → s.2.1 ≤ 6000000 ∧ ∀ k, k < W → h 164 k = nI (s.2.2 k))
def FSr (i : Nat) (h h' : pm_Hp) : Prop := (∀ a, (a < 150 ∨ (150 < a ∧ a ≤ 156 + i) ∨ 164 < a) → h' a = h a) ∧ (∀ j, j ≠ 13 → h' 150 j = h 150 j) ∧ ∀ k, k < i → h' 163 k = h 163 k
theorem FSr.rf {i : Nat} {h : pm_Hp} : FSr i h h := ⟨fun _ _ => rfl, fun _ _ => rfl, fun _ _ => rfl⟩
theorem FSr.tr {i : Nat} {h h' h'' : pm_Hp} (a : FSr i h h') (b : FSr i h' h'') : FSr i h h'' := ⟨fun k x => (b.1 k x).trans (a.1 k x), fun k x => (b.2.1 k x).trans (a.2.1 k x), fun k x => (b.2.2 k x).trans (a.2.2 k x)⟩
theorem FSr.le {i j : Nat} {h h' : pm_Hp} (hi : i ≤ j) (a : FSr j h h') : FSr i h h' := ⟨fun k x => a.1 k (by omega), a.2.1, fun k x => a.2.2 k (by omega)⟩
theorem SRr.to {s : Sr} {h h' : pm_Hp} (a : SRr W s h) (e1 : h' 150 13 = h 150 13) (e2 : h' 164 = h 164) : SRr W s h' := by
  unfold SRr
  rw [e1, e2]
  exact a
theorem LFR.to {i : Nat} {f : Nat → Nat} {h h' : pm_Hp} (a : LFR T W ce gt i f h) (e : h' (156 + i) = h (156 + i)) : LFR T W ce gt i f h' := fun j h1 h2 => by rw [e]; exact a j h1 h2
theorem cp_a {h : pm_Hp} {k0 k1 sp dp n a : Nat} (e : a ≠ k1) : pm_cp h k0 k1 sp dp n a = h a := by
  funext b
  exact if_neg (fun z => e z.1)
theorem cp_b {h : pm_Hp} {k0 k1 n b : Nat} (e : b < n) : pm_cp h k0 k1 0 0 n k1 b = h k0 b := by
  show (if k1 = k1 ∧ 0 ≤ b ∧ b < 0 + n then h k0 (0 + (b - 0)) else h k1 b) = _
  rw [if_pos ⟨rfl, Nat.zero_le _, by omega⟩, Nat.sub_zero, Nat.zero_add]
theorem PRw.fs {i : Nat} {h h' : pm_Hp} (R : PRw T W cd co gt h) (a : FSr i h h') : PRw T W cd co gt h' := R.to (a.2.1 5 (by omega)) (a.2.1 6 (by omega)) (a.1 152 (by omega)) (a.1 153 (by omega)) (a.1 154 (by omega))
theorem c_search (hT : T ≤ 16) (hW : W ≤ 6) (hc : ∀ i t, co i t ≤ 1000000) (he : ∀ i b, ce i b → cd i b) : ∀ (r i : Nat) (f : Nat → Nat) (c : Nat) (s : Sr) (d : Nat) (g : pm_Hp), i + r = W → 6 + r ≤ d → PRw T W cd co gt g → LFR T W ce gt i f g → (∀ k, k < i → g 163 k = nI (f k)) → c ≤ i * 1000000 → SRr W s g → (s.1 = true → r = 0 → c < s.2.1) → ∃ g', pm_ev d 63 [.ref 150, .int (nI i), .int (nI c)] g = some (0, g') ∧ FSr i g g' ∧ SRr W (exs T ce co gt r i f c s) g' := by
  intro r
  induction r with
  | zero =>
    intro i f c s d g hi hd R L F hcc S hs
    obtain ⟨d, rfl, -⟩ := dpos (show 5 + 1 ≤ d by omega)
    have : i = W := by omega
    subst this
    have i6 : i * 1000000 ≤ 6 * 1000000 := Nat.mul_le_mul_right _ hW
    have ex : exs T ce co gt 0 i f c s = (true, c, f) := if_neg (fun z => by have := hs z.1 rfl; omega)
    rw [e_X4_search, R.1, if_neg (nI_nlt (by omega) (by omega)), r_163_164 (by omega), pm_bd_s, ex]
    refine ⟨_, rfl, ⟨fun a ha => by rw [cp_a (by omega), pm_up_n (by omega)], fun j hj => by rw [cp_a (by omega), pm_up_j hj], fun k _ => by rw [cp_a (by omega), pm_up_n (by omega)]⟩, ?_, fun _ => ⟨by show c ≤ 6000000; omega, fun k hk => ?_⟩⟩
    · rw [cp_a (by omega), pm_up_s]; rfl
    · rw [cp_b (by omega), pm_up_n (by omega)]; exact F k hk
  | succ r ih =>
    intro i f c s d g hi hd R L F hcc S hs
    obtain ⟨d, rfl, -⟩ := dpos (show (6 + r) + 1 ≤ d by omega)
    rw [e_X4_search, R.1, if_pos (nI_lt (by omega) (by omega))]
    have key : ∀ (m t : Nat) (s : Sr) (g0 : pm_Hp) (u4 u5 : Value), t + m = T → FSr i g g0 → SRr W s g0 → ∃ g', pm_rn d kX4_search 27 [.ref 150, .int (nI i), .int (nI c), .int (nI t), u4, u5] [] g0 = some (0, g') ∧ FSr i g g' ∧ SRr W (itr (fun t s => ck (vd ce gt i f t) (exs T ce co gt r (i + 1) (sup f i t) (c + co i t) s) s) t m s) g' := by
      intro m
      induction m with
      | zero =>
        intro t s g0 u4 u5 ht G S0
        have R0 := R.fs G
        rw [b_X4_search_27, R0.2.1, if_neg (nI_nlt (by omega) (by omega))]
        exact ⟨g0, rfl, G, S0⟩
      | succ m ih2 =>
        intro t s g0 u4 u5 ht G S0
        have R0 := R.fs G
        have L0 : LFR T W ce gt i f g0 := L.to (G.1 _ (by omega))
        have F0 : ∀ k, k < i → g0 163 k = nI (f k) := fun k hk => by rw [G.2.2 k hk]; exact F k hk
        have hb := (L0 i (Nat.le_refl _) (by omega)).has (d := d) (t := t) (by omega) hT (by omega) g0
        rw [b_X4_search_27, R0.2.1, if_pos (nI_lt (by omega) (by omega)), pm_at_c (by omega) (by omega), ob155 i (by omega), b_srch (by omega) (by omega), pm_at_c (by omega) (by omega), hb, pm_bd_s]
        show ∃ g', _ ∧ FSr i g g' ∧ SRr W (itr _ (t + 1) m (ck (vd ce gt i f t) (exs T ce co gt r (i + 1) (sup f i t) (c + co i t) s) s)) g'
        by_cases v : vd ce gt i f t
        · have ct : cd i t := he i t v.1
          have ci := hc i t
          rw [show ck (ce i t ∧ ∀ k, k < i → gt k (f k) i t) (1 : Int32) 0 = 1 from ck_t v, if_neg (by decide), pk_mul, nI_add, pm_at_c (by omega) (by omega), R0.2.2.2.1 i t (by omega) (by omega) ct, nI_add, ck_t v]
          obtain ⟨r1, g1, a1, a2, a3⟩ := c_narrow (d := d) (by omega) hT hW hc he R0 (by omega) (by omega) ct L0
          rw [a1, pm_bd_s]
          have ne : ∀ a, a ≠ 156 + (i + 1) → g1 a = g0 a := fun a ha => a2 a (by simp; omega)
          have G1 : FSr i g g1 := G.tr ⟨fun a ha => ne a (by omega), fun j _ => by rw [ne 150 (by omega)], fun k _ => by rw [ne 163 (by omega)]⟩
          have S1 : SRr W s g1 := S0.to (by rw [ne 150 (by omega)]) (ne 164 (by omega))
          rcases a3 with ⟨e1, j, j1, j2, j3⟩ | ⟨mm, e1, j1, j2⟩
          · rw [if_pos e1, nI_1, exs_no r (i + 1) (sup f i t) (c + co i t) s (lb_no (j := j) (by omega) (by omega) j3)]
            exact ih2 (t + 1) s g1 _ _ (by omega) G1 S1
          · have sB : sm mm (i + 1) (W - (i + 1)) ≤ (W - (i + 1)) * 1000000 := sm_le _ _ (fun j x1 x2 => (j1 j (by omega) (by omega)).1)
            have w5 : (W - (i + 1)) * 1000000 ≤ 5 * 1000000 := Nat.mul_le_mul_right _ (by omega)
            have i5 : i * 1000000 ≤ 5 * 1000000 := Nat.mul_le_mul_right _ (by omega)
            have LB := lb_sum (T := T) (cd := ce) (co := co) (gt := gt) mm r (i + 1) (sup f i t) (c + co i t) (fun j x1 x2 b hb c1 c2 => (j1 j (by omega) (by omega)).2 b hb c1 c2)
            rw [if_neg (by rw [e1, nI_m1 (by omega)]; exact id), e1, nI_add, S1.1]
            rw [show W - (i + 1) = r by omega] at sB ⊢
            have lt : (if s.1 = true then s.2.1 else MAXI) < 2 ^ 31 := by
              by_cases q : s.1 = true
              · rw [if_pos q]; have := (S1.2 q).1; omega
              · rw [if_neg q]; decide
            rw [ltn_ite (by omega) lt]
            by_cases q : c + co i t + sm mm (i + 1) r < (if s.1 = true then s.2.1 else MAXI)
            · rw [if_pos q, pm_at_c (by omega) (by omega), nI_1, nI_1]
              have ne2 : ∀ a, a ≠ 163 → (pm_up g1 163 i (nI t)) a = g1 a := fun a ha => pm_up_n ha
              have G2 : FSr i g (pm_up g1 163 i (nI t)) := G1.tr ⟨fun a ha => ne2 a (by omega), fun j _ => by rw [ne2 150 (by omega)], fun k hk => pm_up_j (by omega)⟩
              obtain ⟨g3, b1, b2_, b3⟩ := ih (i + 1) (sup f i t) (c + co i t) s d (pm_up g1 163 i (nI t)) (by omega) (by omega) (R.fs G2) (j2.to (ne2 _ (by omega))) (fun k hk => by
                by_cases e : k = i
                · subst e; rw [pm_up_s, sup_s]
                · rw [pm_up_j e, sup_o e, ne 163 (by omega)]; exact F0 k (by omega)) (by rw [Nat.succ_mul]; omega) (S1.to (by rw [ne2 150 (by omega)]) (ne2 164 (by omega))) (fun z r0 => by
                rw [if_pos z, r0] at q
                have : sm mm (i + 1) 0 = 0 := rfl
                omega)
              rw [b1, pm_bd_s]
              exact ih2 (t + 1) _ g3 _ _ (by omega) (G2.tr (b2_.le (by omega))) b3
            · rw [if_neg q, nI_1]
              have s1 : s.1 = true := by
                by_cases z : s.1 = true
                · exact z
                · rw [if_neg z] at q
                  unfold MAXI at q
                  omega
              rw [if_pos s1] at q
              rw [exs_lb r (i + 1) (sup f i t) (c + co i t) s s1 (lb_mono _ _ _ _ _ _ (by omega) LB)]
              exact ih2 (t + 1) s g1 _ _ (by omega) G1 S1
        · rw [show ck (ce i t ∧ ∀ k, k < i → gt k (f k) i t) (1 : Int32) 0 = 0 from ck_f v, if_pos rfl, nI_1, ck_f v]
          exact ih2 (t + 1) s g0 _ _ (by omega) G S0
    exact key T 0 s g .null .null (by omega) FSr.rf S
def s00 : Sr := (false, 0, fun _ => 0)
/-- all that is searched -/
theorem c_searchAll {d : Nat} {g : pm_Hp} (hd : 14 ≤ d) (hT : T ≤ 16) (hW : W ≤ 6) (hc : ∀ i t, co i t ≤ 1000000) (he : ∀ i b, ce i b → cd i b) (R : PRw T W cd co gt g) (L : LFR T W ce gt 0 (fun _ => 0) g) : ∃ g', pm_ev d 62 [.ref 150] g = some (b2 ((exs T ce co gt W 0 (fun _ => 0) 0 s00).1 = true), g') ∧ FSr 0 g g' ∧ SRr W (exs T ce co gt W 0 (fun _ => 0) 0 s00) g' := by
  obtain ⟨d, rfl, -⟩ := dpos hd
  have R1 : PRw T W cd co gt (pm_up g 150 13 (nI 2147483647)) := R.to (pm_up_j (by omega)) (pm_up_j (by omega)) (pm_up_n (by omega)) (pm_up_n (by omega)) (pm_up_n (by omega))
  obtain ⟨g', a1, a2, a3⟩ := c_search (T := T) (W := W) (cd := cd) (ce := ce) (co := co) (gt := gt) hT hW hc he W 0 (fun _ => 0) 0 s00 d (pm_up g 150 13 (nI 2147483647)) (by omega) (by omega) R1 (L.to (pm_up_n (by omega))) (fun k hk => absurd hk (Nat.not_lt_zero k)) (Nat.zero_le _) ⟨pm_up_s, fun z => absurd z (by decide)⟩ (fun z => absurd z (by decide))
  have a1 : pm_ev d 63 [.ref 150, .int 0, .int 0] (pm_up g 150 13 (nI 2147483647)) = some (0, g') := a1
  refine ⟨g', ?_, FSr.tr ⟨fun a ha => pm_up_n (by omega), fun j hj => pm_up_j hj, fun k _ => by rw [pm_up_n (by omega)]⟩ a2, a3⟩
  rw [e_X4_searchAll, a1, pm_bd_s]
  generalize exs T ce co gt W 0 (fun _ => 0) 0 s00 = s at a3
  by_cases q : s.1 = true
  · have := (a3.2 q).1
    rw [b2_t q, if_neg (by
      rw [a3.1, if_pos q]
      intro z
      have := (nI_eq (by omega) (by omega)).mp z
      omega)]
  · rw [b2_f q, if_pos (by rw [a3.1, if_neg q]; rfl)]
theorem c_startS {d : Nat} {g : pm_Hp} (hd : 1 ≤ d) (hW : W ≤ 6) (R : PRw T W cd co gt g) : ∃ g', pm_ev d 61 [.ref 150] g = some (0, g') ∧ eqi [156] g g' ∧ ∀ j, j < W → g' 156 j = g 152 j := by
  obtain ⟨d, rfl, -⟩ := dpos hd
  rw [e_X4_startSearch]
  have key : ∀ (m i : Nat) (y : pm_Hp), i + m = W → eqi [156] g y → (∀ j, j < i → y 156 j = g 152 j) → ∃ g', pm_rn d kX4_startSearch 2 [.ref 150, .int (nI i)] [] y = some (0, g') ∧ eqi [156] g g' ∧ ∀ j, j < W → g' 156 j = g 152 j := by
    intro m
    induction m with
    | zero =>
      intro i y hi E D
      have e5 : y 150 5 = nI W := by rw [E 150 (by simp)]; exact R.1
      rw [b_X4_startSearch_2, e5, if_neg (nI_nlt (by omega) (by omega))]
      exact ⟨y, rfl, E, fun j hj => D j (by omega)⟩
    | succ m ih =>
      intro i y hi E D
      have e5 : y 150 5 = nI W := by rw [E 150 (by simp)]; exact R.1
      rw [b_X4_startSearch_2, e5, if_pos (nI_lt (by omega) (by omega)), pm_at_c (by omega) (by omega), pm_at_c (by omega) (by omega), nI_1, E 152 (by simp)]
      refine ih (i + 1) _ (by omega) (fun a ha => by
        have : a ≠ 156 := by simpa using ha
        rw [pm_up_n this]; exact E a ha) (fun j hj => ?_)
      by_cases e : j = i
      · rw [e, pm_up_s]
      · rw [pm_up_j e]; exact D j (by omega)
  exact key W 0 g (by omega) eqi.rf (fun j hj => absurd hj (Nat.not_lt_zero j))
end
