/-! THE SEARCH FROM A WEAR ON: only what lies from p on binds -/
def gtF (p : Nat) (gt : Nat → Nat → Nat → Nat → Prop) : Nat → Nat → Nat → Nat → Prop := fun j a i b => p ≤ j → gt j a i b
theorem gtF_0 {gt : Nat → Nat → Nat → Nat → Prop} : gtF 0 gt = gt := funext fun _ => funext fun _ => funext fun _ => funext fun _ => propext ⟨fun h => h (Nat.zero_le _), fun h _ => h⟩
/-- b is as good as a -/
def btr (a b : Sr) : Prop := a.1 = true → b.1 = true ∧ b.2.1 ≤ a.2.1
theorem btr.rf {s : Sr} : btr s s := fun h => ⟨h, Nat.le_refl _⟩
theorem btr.tr {a b c : Sr} (x : btr a b) (y : btr b c) : btr a c := fun h => ⟨(y (x h).1).1, Nat.le_trans (y (x h).1).2 (x h).2⟩
theorem itr_btr {g : Nat → Sr → Sr} : ∀ (n i : Nat) (s : Sr), (∀ t s, btr s (g t s)) → btr s (itr g i n s) := by
  intro n
  induction n with
  | zero => intro i s _; exact btr.rf
  | succ n ih =>
    intro i s h
    exact (h i s).tr (ih (i + 1) (g i s) h)
section
variable {T : Nat} {cd : Nat → Nat → Prop} {co : Nat → Nat → Nat} {gt : Nat → Nat → Nat → Nat → Prop}
theorem exs_btr : ∀ (r i : Nat) (f : Nat → Nat) (c : Nat) (s : Sr), btr s (exs T cd co gt r i f c s) := by
  intro r
  induction r with
  | zero =>
    intro i f c s
    unfold exs
    by_cases g : s.1 = true ∧ s.2.1 ≤ c
    · rw [if_pos g]; exact btr.rf
    · rw [if_neg g]
      intro h
      refine ⟨rfl, ?_⟩
      show c ≤ s.2.1
      by_cases q : s.2.1 ≤ c
      · exact absurd ⟨h, q⟩ g
      · omega
  | succ r ih =>
    intro i f c s
    refine itr_btr T 0 s (fun t s => ?_)
    by_cases g : vd cd gt i f t
    · rw [ck_t g]; exact ih _ _ _ s
    · rw [ck_f g]; exact btr.rf
/-- what is found costs no more than any plan from here; nothing found: there is none -/
theorem exs_lbs : ∀ (r i : Nat) (f : Nat → Nat) (c : Nat) (s : Sr) (m : Nat), ((exs T cd co gt r i f c s).1 = true → m ≤ (exs T cd co gt r i f c s).2.1) → lb T cd co gt r i f c m := by
  intro r
  induction r with
  | zero =>
    intro i f c s m hm
    show m ≤ c
    unfold exs at hm
    by_cases g : s.1 = true ∧ s.2.1 ≤ c
    · rw [if_pos g] at hm; exact Nat.le_trans (hm g.1) g.2
    · rw [if_neg g] at hm; exact hm rfl
  | succ r ih =>
    intro i f c s m hm t ht v
    have st : ∀ t s, btr s (ck (vd cd gt i f t) (exs T cd co gt r (i + 1) (sup f i t) (c + co i t) s) s) := fun t s => by
      by_cases g : vd cd gt i f t
      · rw [ck_t g]; exact exs_btr _ _ _ _ s
      · rw [ck_f g]; exact btr.rf
    have key : ∀ (n k : Nat) (s : Sr), k ≤ t → t < k + n → ((itr (fun t s => ck (vd cd gt i f t) (exs T cd co gt r (i + 1) (sup f i t) (c + co i t) s) s) k n s).1 = true → m ≤ (itr (fun t s => ck (vd cd gt i f t) (exs T cd co gt r (i + 1) (sup f i t) (c + co i t) s) s) k n s).2.1) → lb T cd co gt r (i + 1) (sup f i t) (c + co i t) m := by
      intro n
      induction n with
      | zero => intro k s h1 h2; omega
      | succ n ih2 =>
        intro k s h1 h2 hq
        by_cases e : k = t
        · subst e
          have b := itr_btr (g := fun t s => ck (vd cd gt i f t) (exs T cd co gt r (i + 1) (sup f i t) (c + co i t) s) s) n (k + 1) (ck (vd cd gt i f k) (exs T cd co gt r (i + 1) (sup f i k) (c + co i k) s) s) st
          have hq : (itr (fun t s => ck (vd cd gt i f t) (exs T cd co gt r (i + 1) (sup f i t) (c + co i t) s) s) (k + 1) n (ck (vd cd gt i f k) (exs T cd co gt r (i + 1) (sup f i k) (c + co i k) s) s)).1 = true → m ≤ (itr (fun t s => ck (vd cd gt i f t) (exs T cd co gt r (i + 1) (sup f i t) (c + co i t) s) s) (k + 1) n (ck (vd cd gt i f k) (exs T cd co gt r (i + 1) (sup f i k) (c + co i k) s) s)).2.1 := hq
          rw [ck_t v] at b hq
          exact ih (i + 1) (sup f i k) (c + co i k) s m (fun z => Nat.le_trans (hq (b z).1) (b z).2)
        · exact ih2 (k + 1) _ (by omega) (by omega) hq
    exact key T 0 s (Nat.zero_le _) (by omega) hm
/-- more binds: no cheaper -/
theorem lb_wk {p q x : Nat} (hpq : p ≤ q) : ∀ (r i : Nat) (f f' : Nat → Nat) (c m : Nat), (∀ k, q ≤ k → k < i → f' k = f k) → lb T cd co (gtF q gt) r i f' c m → lb T cd co (gtF p gt) r i f (c + x) (m + x) := by
  intro r
  induction r with
  | zero => intro i f f' c m _ h; exact Nat.add_le_add_right h x
  | succ r ih =>
    intro i f f' c m hf h t ht v
    have v' : vd cd (gtF q gt) i f' t := ⟨v.1, fun j hj hq => by
      rw [hf j hq hj]; exact v.2 j hj (Nat.le_trans hpq hq)⟩
    have := ih (i + 1) (sup f i t) (sup f' i t) (c + co i t) m (fun k h1 h2 => by
      by_cases e : k = i
      · rw [e, sup_s, sup_s]
      · rw [sup_o e, sup_o e]; exact hf k h1 (by omega)) (h t ht v')
    rw [Nat.add_right_comm c (co i t) x] at this
    exact this
/-- none from q on: none at all -/
theorem lb_none {q r : Nat} {f' : Nat → Nat} (h : ∀ m, lb T cd co (gtF q gt) r q f' 0 m) : ∀ (n i : Nat) (f : Nat → Nat) (c : Nat), i + n = q → ∀ m, lb T cd co gt (n + r) i f c m := by
  intro n
  induction n with
  | zero =>
    intro i f c hi m
    have e : i = q := by omega
    rw [e, Nat.zero_add]
    have := lb_wk (p := 0) (x := c) (Nat.zero_le q) r q f f' 0 m (fun k h1 h2 => by omega) (h m)
    rw [gtF_0, Nat.zero_add] at this
    exact lb_mono _ _ _ _ _ _ (Nat.le_add_right m c) this
  | succ n ih =>
    intro i f c hi m
    rw [show n + 1 + r = (n + r) + 1 by omega]
    intro t ht v
    exact ih (i + 1) _ _ (by omega) m
end
section
variable {T W p : Nat} {cd ce : Nat → Nat → Prop} {co : Nat → Nat → Nat} {gt : Nat → Nat → Nat → Nat → Prop}
/-- the best so far, from p on -/
def SRr (p W : Nat) (s : Sr) (h : pm_Hp) : Prop := h 150 13 = nI (if s.1 = true then s.2.1 else MAXI) ∧ (s.1 = true → s.2.1 ≤ (W - p) * 100000 ∧ ∀ k, p ≤ k → k < W → h 164 k = nI (s.2.2 k))
def FSr (i : Nat) (h h' : pm_Hp) : Prop := (∀ a, (a < 150 ∨ (150 < a ∧ a ≤ 156 + i) ∨ 164 < a) → h' a = h a) ∧ (∀ j, j ≠ 13 → h' 150 j = h 150 j) ∧ ∀ k, k < i → h' 163 k = h 163 k
theorem FSr.rf {i : Nat} {h : pm_Hp} : FSr i h h := ⟨fun _ _ => rfl, fun _ _ => rfl, fun _ _ => rfl⟩
theorem FSr.tr {i : Nat} {h h' h'' : pm_Hp} (a : FSr i h h') (b : FSr i h' h'') : FSr i h h'' := ⟨fun k x => (b.1 k x).trans (a.1 k x), fun k x => (b.2.1 k x).trans (a.2.1 k x), fun k x => (b.2.2 k x).trans (a.2.2 k x)⟩
theorem FSr.le {i j : Nat} {h h' : pm_Hp} (hi : i ≤ j) (a : FSr j h h') : FSr i h h' := ⟨fun k x => a.1 k (by omega), a.2.1, fun k x => a.2.2 k (by omega)⟩
theorem SRr.to {s : Sr} {h h' : pm_Hp} (a : SRr p W s h) (e1 : h' 150 13 = h 150 13) (e2 : h' 164 = h 164) : SRr p W s h' := by
  unfold SRr
  rw [e1, e2]
  exact a
theorem LFR.to {i : Nat} {f : Nat → Nat} {h h' : pm_Hp} (a : LFR T W ce gt i f h) (e : h' (156 + i) = h (156 + i)) : LFR T W ce gt i f h' := fun j h1 h2 => by rw [e]; exact a j h1 h2
theorem cp_a {h : pm_Hp} {k0 k1 sp dp n a : Nat} (e : a ≠ k1) : pm_cp h k0 k1 sp dp n a = h a := by
  funext b
  exact if_neg (fun z => e z.1)
theorem cp_b {h : pm_Hp} {k0 k1 n b : Nat} (e : b < n) : pm_cp h k0 k1 0 0 n k1 b = h k0 b := by
  show (if k1 = k1 ∧ 0 ≤ b ∧ b < 0 + n then h k0 (0 + (b - 0)) else h k1 b) = _
  rw [if_pos ⟨rfl, Nat.zero_le _, by omega⟩, Nat.sub_zero, Nat.zero_add]
theorem PRw.fs {i : Nat} {h h' : pm_Hp} (R : PRw T W cd co gt h) (a : FSr i h h') : PRw T W cd co gt h' := R.to (a.2.1 5 (by omega)) (a.2.1 6 (by omega)) (a.1 152 (by omega)) (a.1 153 (by omega)) (a.1 154 (by omega))
/-- what the wears behind p cost at least, as the row tells -/
def BHr (T W : Nat) (ce : Nat → Nat → Prop) (co : Nat → Nat → Nat) (gt : Nat → Nat → Nat → Nat → Prop) (p : Nat) (h : pm_Hp) : Prop := ∀ q, p < q → q < W → ∃ m, h 185 q = nI m ∧ m ≤ (W - q) * 100000 ∧ lb T ce co (gtF q gt) (W - q) q (fun _ => 0) 0 m
theorem BHr.to {h h' : pm_Hp} (a : BHr T W ce co gt p h) (e : h' 185 = h 185) : BHr T W ce co gt p h' := fun q h1 h2 => by rw [e]; exact a q h1 h2
theorem c_search (hT : T ≤ 16) (hW : W ≤ 6) (hc : ∀ i t, co i t ≤ 100000) (he : ∀ i b, ce i b → cd i b) : ∀ (r i : Nat) (f : Nat → Nat) (c : Nat) (s : Sr) (d : Nat) (g : pm_Hp), p ≤ i → i + r = W → 6 + r ≤ d → PRw T W cd co gt g → LFR T W ce (gtF p gt) i f g → (∀ k, p ≤ k → k < i → g 163 k = nI (f k)) → c ≤ (i - p) * 100000 → SRr p W s g → (s.1 = true → r = 0 → c < s.2.1) → BHr T W ce co gt p g → ∃ g', pm_ev d 63 [.ref 150, .int (nI i), .int (nI c)] g = some (0, g') ∧ FSr i g g' ∧ SRr p W (exs T ce co (gtF p gt) r i f c s) g' := by
  intro r
  induction r with
  | zero =>
    intro i f c s d g hp hi hd R L F hcc S hs B
    obtain ⟨d, rfl, -⟩ := dpos (show 5 + 1 ≤ d by omega)
    have : i = W := by omega
    subst this
    have ex : exs T ce co (gtF p gt) 0 i f c s = (true, c, f) := if_neg (fun z => by have := hs z.1 rfl; omega)
    rw [e_X4_search, R.1, if_neg (nI_nlt (by omega) (by omega)), r_163_164 (by omega), pm_bd_s, ex]
    refine ⟨_, rfl, ⟨fun a ha => by rw [cp_a (by omega), pm_up_n (by omega)], fun j hj => by rw [cp_a (by omega), pm_up_j hj], fun k _ => by rw [cp_a (by omega), pm_up_n (by omega)]⟩, ?_, fun _ => ⟨hcc, fun k hk1 hk => ?_⟩⟩
    · rw [cp_a (by omega), pm_up_s]; rfl
    · rw [cp_b (by omega), pm_up_n (by omega)]; exact F k hk1 hk
  | succ r ih =>
    intro i f c s d g hp hi hd R L F hcc S hs B
    obtain ⟨d, rfl, -⟩ := dpos (show (6 + r) + 1 ≤ d by omega)
    /- what lies behind -/
    obtain ⟨bh, eb, lbh, hbh⟩ : ∃ bh : Nat, pm_ev (d + 1) 63 [.ref 150, .int (nI i), .int (nI c)] g = pm_rn d kX4_search 51 [.ref 150, .int (nI i), .int (nI c), .int (nI bh), .int (nI 0), .null, .null] [] g ∧ bh ≤ (W - (i + 1)) * 100000 ∧ lb T ce co (gtF (i + 1) gt) r (i + 1) (fun _ => 0) 0 bh := by
      rw [e_X4_search, R.1, if_pos (nI_lt (by omega) (by omega)), nI_1]
      by_cases e : i + 1 < W
      · obtain ⟨m, m1, m2, m3⟩ := B (i + 1) (by omega) e
        rw [show W - (i + 1) = r by omega] at m3
        refine ⟨m, ?_, m2, m3⟩
        rewrite [if_pos (nI_lt e (by omega)), pm_at_c (by omega) (by omega), m1]
        rfl
      · have r0 : r = 0 := by omega
        subst r0
        refine ⟨0, ?_, Nat.zero_le _, Nat.le_refl 0⟩
        rewrite [if_neg (nI_nlt (by omega) (by omega))]
        rfl
    rw [eb]
    have key : ∀ (m t : Nat) (s : Sr) (g0 : pm_Hp) (u5 u6 : Value), t + m = T → FSr i g g0 → SRr p W s g0 → ∃ g', pm_rn d kX4_search 51 [.ref 150, .int (nI i), .int (nI c), .int (nI bh), .int (nI t), u5, u6] [] g0 = some (0, g') ∧ FSr i g g' ∧ SRr p W (itr (fun t s => ck (vd ce (gtF p gt) i f t) (exs T ce co (gtF p gt) r (i + 1) (sup f i t) (c + co i t) s) s) t m s) g' := by
      intro m
      induction m with
      | zero =>
        intro t s g0 u5 u6 ht G S0
        have R0 := R.fs G
        rw [b_X4_search_51, R0.2.1, if_neg (nI_nlt (by omega) (by omega))]
        exact ⟨g0, rfl, G, S0⟩
      | succ m ih2 =>
        intro t s g0 u5 u6 ht G S0
        have R0 := R.fs G
        have L0 : LFR T W ce (gtF p gt) i f g0 := L.to (G.1 _ (by omega))
        have F0 : ∀ k, p ≤ k → k < i → g0 163 k = nI (f k) := fun k hk1 hk => by rw [G.2.2 k hk]; exact F k hk1 hk
        have hb := (L0 i (Nat.le_refl _) (by omega)).has (d := d) (t := t) (by omega) hT (by omega) g0
        rw [b_X4_search_51, R0.2.1, if_pos (nI_lt (by omega) (by omega)), pk_mul, nI_add, pm_at_c (by omega) (by omega), pm_at_c (by omega) (by omega), ob155 i (by omega), b_srch (by omega) (by omega), pm_at_c (by omega) (by omega), hb, pm_bd_s]
        show ∃ g', _ ∧ FSr i g g' ∧ SRr p W (itr _ (t + 1) m (ck (vd ce (gtF p gt) i f t) (exs T ce co (gtF p gt) r (i + 1) (sup f i t) (c + co i t) s) s)) g'
        by_cases v : vd ce (gtF p gt) i f t
        · have ct : cd i t := he i t v.1
          have ci := hc i t
          have lt : (if s.1 = true then s.2.1 else MAXI) < 2 ^ 31 := by
            by_cases q : s.1 = true
            · rw [if_pos q]; have := (S0.2 q).1; omega
            · rw [if_neg q]; decide
          have fnd : ∀ x, x ≤ (W - p) * 100000 → ¬ x < (if s.1 = true then s.2.1 else MAXI) → s.1 = true := fun x hx q => by
            by_cases z : s.1 = true
            · exact z
            · rw [if_neg z] at q
              unfold MAXI at q
              omega
          rw [show ck (ce i t ∧ ∀ k, k < i → gtF p gt k (f k) i t) (1 : Int32) 0 = 1 from ck_t v, if_neg (by decide), R0.2.2.2.1 i t (by omega) (by omega) ct, nI_add, nI_add, S0.1, ck_t v, ltn_ite (by omega) lt]
          by_cases q0 : c + co i t + bh < (if s.1 = true then s.2.1 else MAXI)
          · rw [if_pos q0]
            obtain ⟨r1, g1, a1, a2, a3⟩ := c_narrow (gp := gtF p gt) (d := d) (by omega) hT hW hc he (fun a j b => ⟨fun z => z hp, fun z _ => z⟩) R0 (by omega) (by omega) ct L0
            rw [a1, pm_bd_s]
            have ne : ∀ a, a ≠ 156 + (i + 1) → g1 a = g0 a := fun a ha => a2 a (by simp; omega)
            have G1 : FSr i g g1 := G.tr ⟨fun a ha => ne a (by omega), fun j _ => by rw [ne 150 (by omega)], fun k _ => by rw [ne 163 (by omega)]⟩
            have S1 : SRr p W s g1 := S0.to (by rw [ne 150 (by omega)]) (ne 164 (by omega))
            rcases a3 with ⟨e1, j, j1, j2, j3⟩ | ⟨mm, e1, j1, j2⟩
            · rw [if_pos e1, nI_1, exs_no r (i + 1) (sup f i t) (c + co i t) s (lb_no (j := j) (by omega) (by omega) j3)]
              exact ih2 (t + 1) s g1 _ _ (by omega) G1 S1
            · have sB : sm mm (i + 1) (W - (i + 1)) ≤ (W - (i + 1)) * 100000 := sm_le _ _ (fun j x1 x2 => (j1 j (by omega) (by omega)).1)
              have LB := lb_sum (T := T) (cd := ce) (co := co) (gt := gtF p gt) mm r (i + 1) (sup f i t) (c + co i t) (fun j x1 x2 b hb c1 c2 => (j1 j (by omega) (by omega)).2 b hb c1 c2)
              rw [if_neg (by rw [e1, nI_m1 (by omega)]; exact id), e1, nI_add, S1.1]
              rw [show W - (i + 1) = r by omega] at sB ⊢
              rw [ltn_ite (by omega) lt]
              by_cases q : c + co i t + sm mm (i + 1) r < (if s.1 = true then s.2.1 else MAXI)
              · rw [if_pos q, pm_at_c (by omega) (by omega), nI_1, nI_1]
                have ne2 : ∀ a, a ≠ 163 → (pm_up g1 163 i (nI t)) a = g1 a := fun a ha => pm_up_n ha
                have G2 : FSr i g (pm_up g1 163 i (nI t)) := G1.tr ⟨fun a ha => ne2 a (by omega), fun j _ => by rw [ne2 150 (by omega)], fun k hk => pm_up_j (by omega)⟩
                obtain ⟨g3, b1, b2_, b3⟩ := ih (i + 1) (sup f i t) (c + co i t) s d (pm_up g1 163 i (nI t)) (by omega) (by omega) (by omega) (R.fs G2) (j2.to (ne2 _ (by omega))) (fun k hk1 hk => by
                  by_cases e : k = i
                  · subst e; rw [pm_up_s, sup_s]
                  · rw [pm_up_j e, sup_o e, ne 163 (by omega)]; exact F0 k hk1 (by omega)) (by omega) (S1.to (by rw [ne2 150 (by omega)]) (ne2 164 (by omega))) (fun z r0 => by
                  rw [if_pos z, r0] at q
                  have : sm mm (i + 1) 0 = 0 := rfl
                  omega) (B.to (G2.1 185 (by omega)))
                rw [b1, pm_bd_s]
                exact ih2 (t + 1) _ g3 _ _ (by omega) (G2.tr (b2_.le (by omega))) b3
              · rw [if_neg q, nI_1]
                have s1 : s.1 = true := fnd _ (by omega) q
                rw [if_pos s1] at q
                rw [exs_lb r (i + 1) (sup f i t) (c + co i t) s s1 (lb_mono _ _ _ _ _ _ (by omega) LB)]
                exact ih2 (t + 1) s g1 _ _ (by omega) G1 S1
          · rw [if_neg q0, nI_1]
            have s1 : s.1 = true := fnd _ (by omega) q0
            rw [if_pos s1] at q0
            have LW := lb_wk (T := T) (cd := ce) (co := co) (gt := gt) (p := p) (q := i + 1) (x := c + co i t) (by omega) r (i + 1) (sup f i t) (fun _ => 0) 0 bh (fun k h1 h2 => by omega) hbh
            rw [Nat.zero_add] at LW
            rw [exs_lb r (i + 1) (sup f i t) (c + co i t) s s1 (lb_mono _ _ _ _ _ _ (by omega) LW)]
            exact ih2 (t + 1) s g0 _ _ (by omega) G S0
        · rw [show ck (ce i t ∧ ∀ k, k < i → gtF p gt k (f k) i t) (1 : Int32) 0 = 0 from ck_f v, if_pos rfl, nI_1, ck_f v]
          exact ih2 (t + 1) s g0 _ _ (by omega) G S0
    exact key T 0 s g .null .null (by omega) FSr.rf S
end
def s00 : Sr := (false, 0, fun _ => 0)
section
variable {T W : Nat} {cd ce : Nat → Nat → Prop} {co : Nat → Nat → Nat} {gt : Nat → Nat → Nat → Nat → Prop}
/-- what all searches change, those from n on -/
def FAr (n : Nat) (h h' : pm_Hp) : Prop := (∀ a, (a < 150 ∨ (150 < a ∧ a ≤ 156 + n) ∨ (164 < a ∧ a ≠ 185)) → h' a = h a) ∧ (∀ j, j ≠ 13 → h' 150 j = h 150 j) ∧ True
/-- all that is searched -/
theorem c_searchAll {d : Nat} {g : pm_Hp} (hd : 14 ≤ d) (hT : T ≤ 16) (hW : W ≤ 6) (hc : ∀ i t, co i t ≤ 100000) (he : ∀ i b, ce i b → cd i b) (R : PRw T W cd co gt g) (L : ∀ p j, p ≤ j → j < W → bs T (g (156 + p) j) (ce j)) : ∃ g', pm_ev d 62 [.ref 150] g = some (b2 ((exs T ce co gt W 0 (fun _ => 0) 0 s00).1 = true), g') ∧ FAr 0 g g' ∧ SRr 0 W (exs T ce co gt W 0 (fun _ => 0) 0 s00) g' := by
  obtain ⟨d, rfl, -⟩ := dpos hd
  rw [e_X4_searchAll, R.1]
  have key : ∀ (n : Nat) (y : pm_Hp), n ≤ W → FAr n g y → (exs T ce co (gtF n gt) (W - n) n (fun _ => 0) 0 s00).1 = true → SRr n W (exs T ce co (gtF n gt) (W - n) n (fun _ => 0) 0 s00) y → (∀ q, n ≤ q → q < W → ∃ m, y 185 q = nI m ∧ m ≤ (W - q) * 100000 ∧ lb T ce co (gtF q gt) (W - q) q (fun _ => 0) 0 m) → ∃ g', pm_rn d kX4_searchAll 12 [.ref 150, .int (nI n - 1)] [] y = some (b2 ((exs T ce co gt W 0 (fun _ => 0) 0 s00).1 = true), g') ∧ FAr 0 g g' ∧ SRr 0 W (exs T ce co gt W 0 (fun _ => 0) 0 s00) g' := by
    intro n
    induction n with
    | zero =>
      intro y hn G f1 S B
      rw [gtF_0, Nat.sub_zero] at f1 S
      rw [b_X4_searchAll_12, if_pos (by decide +kernel), b2_t f1]
      exact ⟨y, rfl, G, S⟩
    | succ n ih =>
      intro y hn G f1 S B
      have y0o : ∀ a, a ≠ 150 → pm_up y 150 13 (nI 1000000) a = y a := fun a ha => pm_up_n ha
      have R1 : PRw T W cd co gt (pm_up y 150 13 (nI 1000000)) := R.to (by rw [pm_up_j (by omega)]; exact G.2.1 5 (by omega)) (by rw [pm_up_j (by omega)]; exact G.2.1 6 (by omega)) (by rw [y0o 152 (by omega)]; exact G.1 152 (by omega)) (by rw [y0o 153 (by omega)]; exact G.1 153 (by omega)) (by rw [y0o 154 (by omega)]; exact G.1 154 (by omega))
      have L1 : LFR T W ce (gtF n gt) n (fun _ => 0) (pm_up y 150 13 (nI 1000000)) := fun j h1 h2 => by
        rw [y0o (156 + n) (by omega), G.1 (156 + n) (by omega)]
        exact (L n j h1 h2).cg (fun b _ => ⟨fun z => ⟨z, fun k hk hk2 => absurd hk (by omega)⟩, fun z => z.1⟩)
      obtain ⟨y1, a1, a2, a3⟩ := c_search (T := T) (W := W) (p := n) (cd := cd) (ce := ce) (co := co) (gt := gt) hT hW hc he (W - n) n (fun _ => 0) 0 s00 d (pm_up y 150 13 (nI 1000000)) (Nat.le_refl _) (by omega) (by omega) R1 L1 (fun k h1 h2 => by omega) (Nat.zero_le _) ⟨pm_up_s, fun z => absurd z (by decide)⟩ (fun z => absurd z (by decide)) (fun q h1 h2 => by rw [y0o 185 (by omega)]; exact B q (by omega) h2)
      have a1 : pm_ev d 63 [.ref 150, .int (nI n), .int 0] (pm_up y 150 13 (nI 1000000)) = some (0, y1) := a1
      rw [nI_pred, b_X4_searchAll_12, if_neg (nI_pos (by omega)), a1, pm_bd_s, pm_at_c (by omega) (by omega)]
      have y1o : ∀ a, (a < 150 ∨ (150 < a ∧ a ≤ 156 + n) ∨ 164 < a) → y1 a = y a := fun a ha => by rw [a2.1 a ha, y0o a (by omega)]
      have G1 : ∀ v : Int32, FAr n g (pm_up y1 185 n v) := fun v => ⟨fun a ha => by rw [pm_up_n (by omega), y1o a (by omega)]; exact G.1 a (by omega), fun j hj => by rw [pm_up_k (by omega), a2.2.1 j hj, pm_up_j hj]; exact G.2.1 j hj, trivial⟩
      by_cases q : (exs T ce co (gtF n gt) (W - n) n (fun _ => 0) 0 s00).1 = true
      · have hle := (a3.2 q).1
        have e13 : y1 150 13 = nI (exs T ce co (gtF n gt) (W - n) n (fun _ => 0) 0 s00).2.1 := by rw [a3.1, if_pos q]
        rw [if_neg (by
          rw [e13]
          intro z
          have := (nI_eq (by omega) (by omega)).mp z
          omega), e13, show nI n + (-1) = nI n - 1 by rw [Int32.sub_eq_add_neg]]
        refine ih _ (by omega) (G1 _) q (a3.to (by rw [pm_up_k (by omega)]) (pm_up_n (by omega))) (fun x h1 h2 => ?_)
        by_cases e : x = n
        · rw [e, pm_up_s]
          exact ⟨_, rfl, hle, exs_lbs _ _ _ _ s00 _ (fun _ => Nat.le_refl _)⟩
        · rw [pm_up_j e, y1o 185 (by omega)]
          exact B x (by omega) h2
      · have e13 : y1 150 13 = nI 1000000 := by rw [a3.1, if_neg q]; rfl
        have no := lb_none (T := T) (cd := ce) (co := co) (gt := gt) (q := n) (r := W - n) (f' := fun _ => 0) (fun m => exs_lbs _ _ _ _ s00 m (fun z => absurd z q)) n 0 (fun _ => 0) 0 (by omega)
        rw [show n + (W - n) = W by omega] at no
        have ex : exs T ce co gt W 0 (fun _ => 0) 0 s00 = s00 := exs_no _ _ _ _ _ no
        rw [if_pos e13, ex, b2_f (by decide)]
        refine ⟨_, rfl, ⟨fun a ha => (G1 _).1 a (by omega), (G1 _).2.1, trivial⟩, ?_, fun z => absurd z (by decide)⟩
        rw [pm_up_k (by omega), e13]
        rfl
  have f1 : exs T ce co (gtF W gt) (W - W) W (fun _ => 0) 0 s00 = (true, 0, fun _ => 0) := by
    rw [Nat.sub_self]
    exact if_neg (fun z => absurd z.1 (by decide))
  refine key W _ (Nat.le_refl _) ⟨fun a ha => pm_up_n (by omega), fun j hj => pm_up_j hj, trivial⟩ (congrArg Prod.fst f1) ?_ (fun q h1 h2 => by omega)
  rw [f1]
  exact ⟨pm_up_s.trans (nI_0.symm.trans rfl), fun _ => ⟨Nat.zero_le _, fun k h1 h2 => by omega⟩⟩
theorem c_startS {d : Nat} {g : pm_Hp} (hd : 3 ≤ d) (hW : W ≤ 6) (R : PRw T W cd co gt g) : ∃ g', pm_ev d 61 [.ref 150] g = some (0, g') ∧ (∀ a, (a < 156 ∨ 161 < a) → g' a = g a) ∧ ∀ i j, i < W → j < W → g' (156 + i) j = g 152 j := by
  obtain ⟨d, rfl, -⟩ := dpos hd
  rw [e_X4_startSearch]
  have key : ∀ (m i : Nat) (y : pm_Hp), i + m = W → (∀ a, (a < 156 ∨ 161 < a) → y a = g a) → (∀ x j, x < i → j < W → y (156 + x) j = g 152 j) → ∃ g', pm_rn d kX4_startSearch 2 [.ref 150, .int (nI i)] [] y = some (0, g') ∧ (∀ a, (a < 156 ∨ 161 < a) → g' a = g a) ∧ ∀ i j, i < W → j < W → g' (156 + i) j = g 152 j := by
    intro m
    induction m with
    | zero =>
      intro i y hi E D
      have e5 : y 150 5 = nI W := by rw [E 150 (by omega)]; exact R.1
      rw [b_X4_startSearch_2, e5, if_neg (nI_nlt (by omega) (by omega))]
      exact ⟨y, rfl, E, fun x j hx hj => D x j (by omega) hj⟩
    | succ m ih =>
      intro i y hi E D
      have e5 : y 150 5 = nI W := by rw [E 150 (by omega)]; exact R.1
      rw [b_X4_startSearch_2, e5, if_pos (nI_lt (by omega) (by omega)), pm_at_c (by omega) (by omega), ob155 i (by omega), b_sts (by omega), r_left (by omega) (by omega), pm_bd_s, nI_1]
      refine ih (i + 1) _ (by omega) (fun a ha => by rw [cp_a (by omega)]; exact E a ha) (fun x j hx hj => ?_)
      by_cases e : x = i
      · rw [e, cp_b (by omega), E 152 (by omega)]
      · rw [cp_a (by omega)]; exact D x j (by omega) hj
  exact key W 0 g (by omega) (fun _ _ => rfl) (fun x j hx => absurd hx (Nat.not_lt_zero x))
end
