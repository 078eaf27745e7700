section
variable {T R A n0 n1 q N M : Nat} {L0 L1 : Nat → Ln} {h : pm_Hp}
/-- the model's best so far -/
def MSr (M : Nat) (s : Sr) (g : pm_Hp) : Prop := g 169 33 = b2 (s.1 = true) ∧ (s.1 = true → g 169 32 = nI s.2.1 ∧ s.2.1 ≤ 6000000 ∧ ∀ k, k < M → g 181 k = nI (s.2.2 k))
def FMp (i : Nat) (g g' : pm_Hp) : Prop := (∀ a, a ≠ 169 → a ≠ 178 → a ≠ 179 → a ≠ 180 → a ≠ 181 → g' a = g a) ∧ (∀ j, j ≠ 32 → j ≠ 33 → g' 169 j = g 169 j) ∧ ∀ k, k < i → g' 180 k = g 180 k
theorem FMp.rf {i : Nat} {g : pm_Hp} : FMp i g g := ⟨fun _ _ _ _ _ _ => rfl, fun _ _ _ => rfl, fun _ _ => rfl⟩
theorem FMp.tr {i : Nat} {g g' g'' : pm_Hp} (a : FMp i g g') (b : FMp i g' g'') : FMp i g g'' := ⟨fun k v w x y z => (b.1 k v w x y z).trans (a.1 k v w x y z), fun j x y => (b.2.1 j x y).trans (a.2.1 j x y), fun k x => (b.2.2 k x).trans (a.2.2 k x)⟩
theorem FMp.le {i j : Nat} {g g' : pm_Hp} (hi : i ≤ j) (a : FMp j g g') : FMp i g g' := ⟨a.1, a.2.1, fun k x => a.2.2 k (by omega)⟩
theorem FMp.e1 {i : Nat} {g g' : pm_Hp} (e : eqi [178, 179] g g') : FMp i g g' := ⟨fun k v w x y z => e k (by simp; omega), fun j _ _ => by rw [e 169 (by simp)], fun k _ => by rw [e 180 (by simp)]⟩
theorem MSr.e1 {s : Sr} {g g' : pm_Hp} (e : eqi [178, 179] g g') (a : MSr M s g) : MSr M s g' := by
  unfold MSr
  rw [e 169 (by simp), e 181 (by simp)]
  exact a
theorem MSr.to {s : Sr} {g g' : pm_Hp} (a : MSr M s g) (e1 : g' 169 = g 169) (e2 : g' 181 = g 181) : MSr M s g' := by
  unfold MSr
  rw [e1, e2]
  exact a
/-- a heap of the search over the state h -/
def FB (h g : pm_Hp) : Prop := (∀ a, (a ≤ 36 ∨ a = 170) → g a = h a) ∧ g 169 34 = h 169 34 ∧ g 169 35 = h 169 35
theorem FB.fm {i : Nat} {g g' : pm_Hp} (a : FB h g) (b : FMp i g g') : FB h g' := ⟨fun k hk => by rw [b.1 k (by omega) (by omega) (by omega) (by omega) (by omega)]; exact a.1 k hk, by rw [b.2.1 34 (by omega) (by omega)]; exact a.2.1, by rw [b.2.1 35 (by omega) (by omega)]; exact a.2.2⟩
theorem FB.fs {g : pm_Hp} (a : FB h g) (F : FS T R A n0 n1 q N M L0 L1 h) : FS T R A n0 n1 q N M L0 L1 g := F.cm a.1
theorem m_copyL {d c i : Nat} {f : Nat → Nat} (hi : i ≤ 6) (u2 u4 u5 : Value) : ∀ (m k : Nat) (g : pm_Hp), k + m = i → (∀ x, x < i → g 180 x = nI (f x)) → (∀ x, x < k → g 181 x = nI (f x)) → ∃ g', pm_rn d kX10_plans 47 [.ref 169, .int (nI i), u2, .int (nI k), u4, u5] [] g = some (0, g') ∧ eqi [181] g g' ∧ ∀ x, x < i → g' 181 x = nI (f x) := by
  intro m
  induction m with
  | zero =>
    intro k g hk F D
    rw [b_X10_plans_47, if_neg (nI_nlt (by omega) (by omega))]
    exact ⟨g, rfl, eqi.rf, fun x hx => D x (by omega)⟩
  | succ m ih =>
    intro k g hk F D
    rw [b_X10_plans_47, if_pos (nI_lt (by omega) (by omega)), pm_at_c (by omega) (by omega), pm_at_c (by omega) (by omega), nI_1, F k (by omega)]
    obtain ⟨g', a1, a2, a3⟩ := ih (k + 1) (pm_up g 181 k (nI (f k))) (by omega) (fun x hx => by rw [pm_up_k (by omega)]; exact F x hx) (fun x hx => by
      by_cases e : x = k
      · rw [e, pm_up_s]
      · rw [pm_up_j e]; exact D x (by omega))
    refine ⟨g', a1, fun a ha => ?_, a3⟩
    rw [a2 a ha, pm_up_n (by simpa using ha)]
theorem m_plans (F : FS T R A n0 n1 q N M L0 L1 h) (ex : ∀ j, j < M → ∃ b, b < T ∧ cdm h j b) : ∀ (r i : Nat) (f : Nat → Nat) (c : Nat) (s : Sr) (d : Nat) (g : pm_Hp), i + r = M → 10 + r ≤ d → FB h g → (∀ x, x ≤ M → g 182 x = nI (bdr n0 L0 T M h (M - x))) → (∀ k, k < i → g 180 k = nI (f k) ∧ f k < T) → c ≤ i * 1000000 → MSr M s g → ∃ g', pm_ev d 259 [.ref 169, .int (nI i), .int (nI c)] g = some (0, g') ∧ FMp i g g' ∧ MSr M (exs T (cdm h) (cow n0 L0 h) (gtw n1 L1 h) r i f c s) g' := by
  have hA := F.2.1.1
  have hT := F.1.1.1
  have hM := F.2.2.2.2.1.2.1
  have eM : h 170 328 = nI M := F.2.2.2.2.1.2.2.2.2.2.1
  have eT : h 170 324 = nI T := F.1.1.2.2.1
  intro r
  induction r with
  | zero =>
    intro i f c s d g hi hd B Bd W hc S
    obtain ⟨d, rfl, -⟩ := dpos (show 9 + 1 ≤ d by omega)
    have : i = M := by omega
    subst this
    have i6 : i * 1000000 ≤ 6 * 1000000 := Nat.mul_le_mul_right _ hM
    have gM : g 170 328 = nI i := by rw [B.1 170 (by omega)]; exact eM
    have b0 : g 182 i = nI 0 := by rw [Bd i (Nat.le_refl _), Nat.sub_self]; rfl
    have set : ¬ (s.1 = true ∧ s.2.1 ≤ c) → ∃ g', (if nI i = g 170 328 then (pm_rn d kX10_plans 47 [.ref 169, .int (nI i), .int (nI c), .int 0, .null, .null] [] (pm_up (pm_up g 169 33 1) 169 32 (nI c))) else (pm_rn d kX10_plans 73 [.ref 169, .int (nI i), .int (nI c), .int 0, .null, .null] [] g)) = some (0, g') ∧ FMp i g g' ∧ MSr i (exs T (cdm h) (cow n0 L0 h) (gtw n1 L1 h) 0 i f c s) g' := fun ns => by
      rw [if_pos gM.symm, show exs T (cdm h) (cow n0 L0 h) (gtw n1 L1 h) 0 i f c s = (true, c, f) from if_neg ns]
      obtain ⟨g', a1, a2, a3⟩ := m_copyL (d := d) (c := c) (i := i) (f := f) hM (.int (nI c)) .null .null i 0 (pm_up (pm_up g 169 33 1) 169 32 (nI c)) (by omega) (fun x hx => by rw [pm_up_k (by omega), pm_up_k (by omega)]; exact (W x hx).1) (fun x hx => absurd hx (Nat.not_lt_zero x))
      refine ⟨g', a1, ⟨fun a v w x y z => by rw [a2 a (by simpa using z), pm_up_n v, pm_up_n v], fun j x y => by rw [a2 169 (by simp), pm_up_j x, pm_up_j y], fun k _ => by rw [a2 180 (by simp), pm_up_n (by omega), pm_up_n (by omega)]⟩, ?_, fun _ => ⟨?_, by show c ≤ 6000000; omega, a3⟩⟩
      · rw [a2 169 (by simp), pm_up_j (by omega), pm_up_s]; rfl
      · rw [a2 169 (by simp), pm_up_s]
    rw [e_X10_plans]
    by_cases s1 : s.1 = true
    · obtain ⟨x1, x2, x3⟩ := S.2 s1
      rw [S.1, b2_t s1, if_neg (by decide), pm_at_c (by omega) (by omega), b0, nI_add, Nat.add_zero, x1, ltn_ite (by omega) (by omega)]
      by_cases z : c < s.2.1
      · rw [if_pos z]
        exact set (fun y => by omega)
      · rw [if_neg z, show exs T (cdm h) (cow n0 L0 h) (gtw n1 L1 h) 0 i f c s = s from if_pos ⟨s1, by omega⟩]
        exact ⟨g, rfl, FMp.rf, S⟩
    · rw [S.1, b2_f s1, if_pos rfl]
      exact set (fun y => s1 y.1)
  | succ r ih =>
    intro i f c s d g hi hd B Bd W hc S
    obtain ⟨d, rfl, -⟩ := dpos (show (10 + r) + 1 ≤ d by omega)
    have i5 : i * 1000000 ≤ 5 * 1000000 := Nat.mul_le_mul_right _ (by omega)
    have gM : g 170 328 = nI M := by rw [B.1 170 (by omega)]; exact eM
    obtain ⟨w1, w2, w3, w4, -⟩ := F.2.2.2.2.1.wr hA (show i < M by omega)
    have loop : ∀ (m t : Nat) (s : Sr) (g0 : pm_Hp) (u4 u5 : Value), t + m = T → FMp i g g0 → MSr M s g0 → ∃ g', pm_rn d kX10_plans 73 [.ref 169, .int (nI i), .int (nI c), .int (nI t), u4, u5] [] g0 = some (0, g') ∧ FMp i g g' ∧ MSr M (itr (fun t s => ck (vd (cdm h) (gtw n1 L1 h) i f t) (exs T (cdm h) (cow n0 L0 h) (gtw n1 L1 h) r (i + 1) (sup f i t) (c + cow n0 L0 h i t) s) s) t m s) g' := by
      intro m
      induction m with
      | zero =>
        intro t s g0 u4 u5 ht G S0
        have g324 : g0 170 324 = nI T := by rw [(B.fm G).1 170 (by omega)]; exact eT
        rw [b_X10_plans_73, g324, if_neg (nI_nlt (by omega) (by omega))]
        exact ⟨g0, rfl, G, S0⟩
      | succ m ih2 =>
        intro t s g0 u4 u5 ht G S0
        have B0 := B.fm G
        have tT : t < T := by omega
        have g324 : g0 170 324 = nI T := by rw [B0.1 170 (by omega)]; exact eT
        rw [b_X10_plans_73, g324, if_pos (nI_lt (by omega) (by omega)), m_canWear (by omega) (B0.fs F) (by omega) tT, pm_bd_s, cdm_eq (B0.1 170 (by omega)) B0.2, nI_1]
        show ∃ g', _ ∧ FMp i g g' ∧ MSr M (itr _ (t + 1) m (ck (vd (cdm h) (gtw n1 L1 h) i f t) (exs T (cdm h) (cow n0 L0 h) (gtw n1 L1 h) r (i + 1) (sup f i t) (c + cow n0 L0 h i t) s) s)) g'
        by_cases c1 : cdm h i t
        · rw [ck_t c1, if_neg (by decide)]
          have sk : ¬ vd (cdm h) (gtw n1 L1 h) i f t → ∀ (y : pm_Hp) (v4 v5 : Value), eqi [178, 179] g0 y → ∃ g', pm_rn d kX10_plans 73 [.ref 169, .int (nI i), .int (nI c), .int (nI (t + 1)), v4, v5] [] y = some (0, g') ∧ FMp i g g' ∧ MSr M (itr (fun t s => ck (vd (cdm h) (gtw n1 L1 h) i f t) (exs T (cdm h) (cow n0 L0 h) (gtw n1 L1 h) r (i + 1) (sup f i t) (c + cow n0 L0 h i t) s) s) (t + 1) m (ck (vd (cdm h) (gtw n1 L1 h) i f t) (exs T (cdm h) (cow n0 L0 h) (gtw n1 L1 h) r (i + 1) (sup f i t) (c + cow n0 L0 h i t) s) s)) g' := fun nv_ y v4 v5 E => by
            rw [ck_f nv_]
            exact ih2 (t + 1) s y v4 v5 (by omega) (G.tr (FMp.e1 E)) (S0.e1 E)
          have inn : ∀ (mm j : Nat) (y : pm_Hp), j + mm = i → eqi [178, 179] g0 y → (∀ k, k < j → gtw n1 L1 h k (f k) i t) → ∃ g', pm_rn d kX10_plans 103 [.ref 169, .int (nI i), .int (nI c), .int (nI t), .int 1, .int (nI j)] [] y = some (0, g') ∧ FMp i g g' ∧ MSr M (itr (fun t s => ck (vd (cdm h) (gtw n1 L1 h) i f t) (exs T (cdm h) (cow n0 L0 h) (gtw n1 L1 h) r (i + 1) (sup f i t) (c + cow n0 L0 h i t) s) s) (t + 1) m (ck (vd (cdm h) (gtw n1 L1 h) i f t) (exs T (cdm h) (cow n0 L0 h) (gtw n1 L1 h) r (i + 1) (sup f i t) (c + cow n0 L0 h i t) s) s)) g' := by
            intro mm
            induction mm with
            | zero =>
              intro j y hj E ok
              have v : vd (cdm h) (gtw n1 L1 h) i f t := ⟨c1, fun k hk => ok k (by omega)⟩
              have Gy : FMp i g y := G.tr (FMp.e1 E)
              have By := B.fm Gy
              have cl := cow_le (n := n0) (Ls := L0) (h := h) i t
              have Bz : FB h (pm_up y 180 i (nI t)) := ⟨fun a ha => by rw [pm_up_n (by omega)]; exact By.1 a ha, by rw [pm_up_k (by omega)]; exact By.2.1, by rw [pm_up_k (by omega)]; exact By.2.2⟩
              have z170 : (pm_up y 180 i (nI t)) 170 = h 170 := Bz.1 170 (by omega)
              obtain ⟨z, z1, z2⟩ := m_cost (d := d) (i := i) (t := t) (by omega) (Bz.fs F) (by omega) tT
              rw [show wac (pm_up y 180 i (nI t)) i = wac h i by unfold wac; rw [z170], cow_cg z170] at z1
              rw [b_X10_plans_103, if_neg (nI_nlt (by omega) (by omega)), if_neg (by decide), pm_at_c (by omega) (by omega), (show pm_ev d 253 [.ref 169, .int (nI i), .int 1] (pm_up y 180 i (nI t)) = some (nI (wac h i), pm_up y 180 i (nI t)) by
                rw [show (1 : Int32) = nI 1 from rfl, m_oW (by omega) _ (by omega) (by omega), z170, w4.2.1]), pm_bd_s, z1, pm_bd_s, nI_1, nI_add, ck_t v]
              have Gz : FMp i g (pm_up y 180 i (nI t)) := Gy.tr ⟨fun a _ _ _ x _ => pm_up_n x, fun j _ _ => by rw [pm_up_n (by omega)], fun k hk => pm_up_j (by omega)⟩
              have Gz2 : FMp i g z := Gz.tr (FMp.e1 z2)
              have zo : ∀ a, a ≠ 178 → a ≠ 179 → z a = (pm_up y 180 i (nI t)) a := fun a x1 x2 => z2 a (by simp; omega)
              obtain ⟨g3, k1, k2, k3⟩ := ih (i + 1) (sup f i t) (c + cow n0 L0 h i t) s d z (by omega) (by omega) (B.fm Gz2) (fun x hx => by rw [Gz2.1 182 (by omega) (by omega) (by omega) (by omega) (by omega)]; exact Bd x hx) (fun k hk => by
                by_cases e : k = i
                · rw [e, sup_s, zo 180 (by omega) (by omega), pm_up_s]; exact ⟨rfl, tT⟩
                · rw [sup_o e, Gz2.2.2 k (by omega)]; exact W k (by omega)) (by rw [Nat.succ_mul]; omega) ((S0.e1 E).to (by rw [zo 169 (by omega) (by omega), pm_up_n (by omega)]) (by rw [zo 181 (by omega) (by omega), pm_up_n (by omega)]))
              rw [k1, pm_bd_s, nI_1]
              exact ih2 (t + 1) _ g3 _ _ (by omega) (Gz2.tr (k2.le (by omega))) k3
            | succ mm ih3 =>
              intro j y hj E ok
              have Gy : FMp i g y := G.tr (FMp.e1 E)
              have By := B.fm Gy
              have y170 : y 170 = h 170 := By.1 170 (by omega)
              have fj : y 180 j = nI (f j) := by rw [Gy.2.2 j (by omega)]; exact (W j (by omega)).1
              obtain ⟨z, z1, z2⟩ := m_goT (d := d) (i := j) (j := i) (a := f j) (b := t) (by omega) (By.fs F) (by omega) (by omega) (W j (by omega)).2 tT
              rw [gtw_eq y170] at z1
              rw [b_X10_plans_103, if_pos (nI_lt (by omega) (by omega)), if_neg (by decide), pm_at_c (by omega) (by omega), fj, z1, pm_bd_s, nI_1]
              by_cases gg : gtw n1 L1 h j (f j) i t
              · rw [ck_t gg]
                refine ih3 (j + 1) z (by omega) (E.tr z2) (fun k hk => ?_)
                by_cases e : k = j
                · rw [e]; exact gg
                · exact ok k (by omega)
              · have nv_ : ¬ vd (cdm h) (gtw n1 L1 h) i f t := fun v => gg (v.2 j (by omega))
                rw [ck_f gg, b_X10_plans_103, nI_1]
                by_cases q : j + 1 < i
                · rw [if_pos (nI_lt q (by omega)), if_pos rfl, if_pos rfl]
                  exact sk nv_ z _ _ (E.tr z2)
                · rw [if_neg (nI_nlt (by omega) (by omega)), if_pos rfl]
                  exact sk nv_ z _ _ (E.tr z2)
          exact inn i 0 g0 (by omega) eqi.rf (fun k hk => absurd hk (Nat.not_lt_zero k))
        · rw [ck_f c1, if_pos rfl, ck_f (fun z => c1 z.1)]
          exact ih2 (t + 1) s g0 _ _ (by omega) G S0
    have go : ∃ g', (if nI i = g 170 328 then (pm_rn d kX10_plans 47 [.ref 169, .int (nI i), .int (nI c), .int 0, .null, .null] [] (pm_up (pm_up g 169 33 1) 169 32 (nI c))) else (pm_rn d kX10_plans 73 [.ref 169, .int (nI i), .int (nI c), .int 0, .null, .null] [] g)) = some (0, g') ∧ FMp i g g' ∧ MSr M (exs T (cdm h) (cow n0 L0 h) (gtw n1 L1 h) (r + 1) i f c s) g' := by
      rw [if_neg (by rw [gM]; intro z; have := (nI_eq (by omega) (by omega)).mp z; omega)]
      exact loop T 0 s g .null .null (by omega) FMp.rf S
    rw [e_X10_plans]
    by_cases s1 : s.1 = true
    · obtain ⟨x1, x2, x3⟩ := S.2 s1
      have bs_ := bdr_sum (n0 := n0) (L0 := L0) (T := T) (M := M) (h := h) (M - i) (by omega) hM (fun j _ h2 => ex j h2)
      rw [show M - (M - i) = i by omega] at bs_
      have sl : sm (loF n0 L0 T h) i (M - i) ≤ (M - i) * 1000000 := sm_le _ _ (fun j h1 h2 => by
        obtain ⟨b, hb, pb⟩ := ex j (by omega)
        exact mnf_ex (fun b => cow_le j b) T ⟨b, hb, pb⟩)
      have m6 : (M - i) * 1000000 ≤ 6 * 1000000 := Nat.mul_le_mul_right _ (by omega)
      rw [S.1, b2_t s1, if_neg (by decide), pm_at_c (by omega) (by omega), Bd i (by omega), bs_, nI_add, x1, ltn_ite (by omega) (by omega)]
      by_cases z : c + sm (loF n0 L0 T h) i (M - i) < s.2.1
      · rw [if_pos z]
        exact go
      · rw [if_neg z]
        have LB := lb_sum (T := T) (cd := cdm h) (co := cow n0 L0 h) (gt := gtw n1 L1 h) (loF n0 L0 T h) (r + 1) i f c (fun j h1 h2 b hb cb _ => mnf_le T b hb cb)
        rw [show r + 1 = M - i by omega] at LB ⊢
        rw [exs_lb (M - i) i f c s s1 (lb_mono _ _ _ _ _ _ (by omega) LB)]
        exact ⟨g, rfl, FMp.rf, S⟩
    · rw [S.1, b2_f s1, if_pos rfl]
      exact go
/-- the model lays a plan -/
theorem m_laysP {d : Nat} (hd : 18 ≤ d) (F : FS T R A n0 n1 q N M L0 L1 h) : ∃ h', pm_ev d 263 [.ref 169] h = some (b2 ((exs T (cdm h) (cow n0 L0 h) (gtw n1 L1 h) M 0 (fun _ => 0) 0 s00).1 = true), h') ∧ (∀ a, a ≠ 169 → (a < 178 ∨ 182 < a) → h' a = h a) ∧ (∀ j, j ≠ 32 → j ≠ 33 → h' 169 j = h 169 j) ∧ MSr M (exs T (cdm h) (cow n0 L0 h) (gtw n1 L1 h) M 0 (fun _ => 0) 0 s00) h' := by
  obtain ⟨d, rfl, -⟩ := dpos hd
  have hM := F.2.2.2.2.1.2.1
  have hT := F.1.1.1
  have o1 : ∀ a, a ≠ 169 → (pm_up h 169 33 0) a = h a := fun a x => pm_up_n x
  have F1 : FS T R A n0 n1 q N M L0 L1 (pm_up h 169 33 0) := F.cm (fun k hk => o1 k (by omega))
  have e9 : (pm_up h 169 33 0) 169 34 = h 169 34 ∧ (pm_up h 169 33 0) 169 35 = h 169 35 := ⟨pm_up_j (by omega), pm_up_j (by omega)⟩
  have lo : ∀ i, loF n0 L0 T (pm_up h 169 33 0) i = loF n0 L0 T h i := fun i => loF_eq (o1 170 (by omega)) e9 i
  have bd : ∀ r, bdr n0 L0 T M (pm_up h 169 33 0) r = bdr n0 L0 T M h r := by
    intro r
    induction r with
    | zero => rfl
    | succ r ih =>
      show min FARN (loF n0 L0 T (pm_up h 169 33 0) (M - (r + 1)) + bdr n0 L0 T M (pm_up h 169 33 0) r) = min FARN (loF n0 L0 T h (M - (r + 1)) + bdr n0 L0 T M h r)
      rw [lo, ih]
  obtain ⟨y, y1, y2, y3⟩ := m_bounds (d := d) (by omega) F1
  have yo : ∀ a, a ≠ 169 → a ≠ 178 → a ≠ 179 → a ≠ 182 → y a = h a := fun a x1 x2 x3 x4 => by rw [y2 a (by simp; omega), o1 a x1]
  have y169 : y 169 = (pm_up h 169 33 0) 169 := y2 169 (by simp)
  have y0 : MSr M s00 y := ⟨by rw [y169, pm_up_s]; rfl, fun z => absurd z (by decide)⟩
  have yB : FB h y := ⟨fun a ha => yo a (by omega) (by omega) (by omega) (by omega), by rw [y169, pm_up_j (by omega)], by rw [y169, pm_up_j (by omega)]⟩
  have b0 : bdr n0 L0 T M h M ≤ 1000000000 := bdr_le (n0 := n0) (L0 := L0) (T := T) (M := M) (h := h) M
  rw [e_X10_laysPlan, y1, pm_bd_s, y3 0 (Nat.zero_le _), Nat.sub_zero, bd M, nI_ite (by omega) (by omega)]
  have bwx : ∀ (s : Sr) (x : pm_Rs), pm_bw (b2 (s.1 = true)) x = x := fun s x => by
    by_cases z : s.1 = true
    · rw [b2_t z, pm_bw_1]
    · rw [b2_f z, pm_bw_0]
  by_cases ex : ∀ j, j < M → ∃ b, b < T ∧ cdm h j b
  · have bs_ := bdr_sum (n0 := n0) (L0 := L0) (T := T) (M := M) (h := h) M (Nat.le_refl _) hM (fun j _ h2 => ex j h2)
    rw [Nat.sub_self] at bs_
    have sl : sm (loF n0 L0 T h) 0 M ≤ M * 1000000 := sm_le _ _ (fun j h1 h2 => by
      obtain ⟨b, hb, pb⟩ := ex j (by omega)
      exact mnf_ex (fun b => cow_le j b) T ⟨b, hb, pb⟩)
    have m6 : M * 1000000 ≤ 6 * 1000000 := Nat.mul_le_mul_right _ hM
    obtain ⟨z, z1, z2, z3⟩ := m_plans F ex M 0 (fun _ => 0) 0 s00 d y (by omega) (by omega) yB (fun x hx => by rw [y3 x hx, bd]) (fun k hk => absurd hk (Nat.not_lt_zero k)) (Nat.zero_le _) y0
    have z1 : pm_ev d 259 [.ref 169, .int 0, .int 0] y = some (0, z) := z1
    rw [if_neg (by rw [bs_]; omega), z1, pm_bd_s, z3.1, bwx]
    refine ⟨z, rfl, fun a x1 x2 => ?_, fun j x1 x2 => ?_, z3⟩
    · rw [z2.1 a x1 (by omega) (by omega) (by omega) (by omega), yo a x1 (by omega) (by omega) (by omega)]
    · rw [z2.2.1 j x1 x2, y169, pm_up_j x2]
  · have ex' : ∃ j, j < M ∧ ∀ b, b < T → ¬ cdm h j b := by
      by_cases q : ∃ j, j < M ∧ ∀ b, b < T → ¬ cdm h j b
      · exact q
      · refine absurd (fun j hj => ?_) ex
        by_cases p : ∃ b, b < T ∧ cdm h j b
        · exact p
        · exact absurd ⟨j, hj, fun b hb z => p ⟨b, hb, z⟩⟩ q
    obtain ⟨j, hj, no⟩ := ex'
    rw [if_pos (bdr_far M j (Nat.le_refl _) (by omega) hj no), exs_no M 0 (fun _ => 0) 0 s00 (lb_no (j := j) (Nat.zero_le _) (by omega) (fun b hb cb => absurd cb (no b hb))), y0.1, bwx]
    exact ⟨y, rfl, fun a x1 x2 => yo a x1 (by omega) (by omega) (by omega), fun j x1 x2 => by rw [y169, pm_up_j x2], y0⟩
end
