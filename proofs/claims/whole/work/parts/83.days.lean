def VV (X B : Nat → Int32) (b : Int32) (g : pm_Hp) : pm_Hp := fun k => if k = 170 then X else if k = 172 then B else if k = 169 then (fun j => if j = 3 then b else g 169 j) else g k
theorem VV_o {X B : Nat → Int32} {b : Int32} {g : pm_Hp} {k : Nat} (h1 : k ≠ 169) (h2 : k ≠ 170) (h3 : k ≠ 172) : VV X B b g k = g k := by
  unfold VV
  rw [if_neg h2, if_neg h3, if_neg h1]
theorem VV_w {X B : Nat → Int32} {b : Int32} {g : pm_Hp} : VV X B b g 170 = X := rfl
theorem VV_cg {X B : Nat → Int32} {b : Int32} {g g' : pm_Hp} {k : Nat} (e : g' k = g k) : VV X B b g' k = VV X B b g k := by
  unfold VV
  by_cases a : k = 170
  · rw [if_pos a, if_pos a]
  · rw [if_neg a, if_neg a]
    by_cases b : k = 172
    · rw [if_pos b, if_pos b]
    · rw [if_neg b, if_neg b]
      by_cases c : k = 169
      · subst c; rw [if_pos rfl, if_pos rfl, e]
      · rw [if_neg c, if_neg c, e]
theorem VV_self (h : pm_Hp) : VV (h 170) (h 172) (h 169 3) h = h := by
  funext k
  unfold VV
  by_cases a : k = 170
  · rw [if_pos a, a]
  · rw [if_neg a]
    by_cases b : k = 172
    · rw [if_pos b, b]
    · rw [if_neg b]
      by_cases c : k = 169
      · rw [if_pos c, c]
        funext j
        by_cases e : j = 3
        · rw [if_pos e, e]
        · rw [if_neg e]
      · rw [if_neg c]
abbrev hX (X : Nat → Int32) : pm_Hp := fun _ => X
def dst (n1 : Nat) (L1 : Nat → Ln) (t : Nat) (s : (Nat → Int32) × Int32) : (Nat → Int32) × Int32 := if aw (hX s.1) t then (usX n1 L1 t s.1, if ucX n1 L1 t s.1 then s.2 + 1 else s.2) else s
theorem dst_o {n1 t j : Nat} {L1 : Nat → Ln} {s : (Nat → Int32) × Int32} (h0 : j ≠ 3) (h2 : j ≠ 4 + 20 * t + 2) (h3 : j ≠ 4 + 20 * t + 3) (h4 : j ≠ 4 + 20 * t + 4) : (dst n1 L1 t s).1 j = s.1 j := by
  unfold dst
  by_cases a : aw (hX s.1) t
  · rw [if_pos a]; exact us_o h0 h2 h3 h4
  · rw [if_neg a]
theorem itr_o {n1 j : Nat} {L1 : Nat → Ln} (hj : j < 3 ∨ 324 ≤ j) : ∀ (n i : Nat) (s : (Nat → Int32) × Int32), i + n ≤ 16 → (itr (dst n1 L1) i n s).1 j = s.1 j := by
  intro n
  induction n with
  | zero => intro i s _; rfl
  | succ n ih =>
    intro i s hi
    show (itr (dst n1 L1) (i + 1) n (dst n1 L1 i s)).1 j = _
    rw [ih (i + 1) _ (by omega), dst_o (by omega) (by omega) (by omega) (by omega)]
theorem dst_add {n1 : Nat} {L1 : Nat → Ln} (a : Int32) : ∀ (n i : Nat) (X : Nat → Int32) (b : Int32), itr (dst n1 L1) i n (X, a + b) = ((itr (dst n1 L1) i n (X, b)).1, a + (itr (dst n1 L1) i n (X, b)).2) := by
  intro n
  induction n with
  | zero => intro i X b; rfl
  | succ n ih =>
    intro i X b
    show itr (dst n1 L1) (i + 1) n (dst n1 L1 i (X, a + b)) = ((itr (dst n1 L1) (i + 1) n (dst n1 L1 i (X, b))).1, a + (itr (dst n1 L1) (i + 1) n (dst n1 L1 i (X, b))).2)
    unfold dst
    simp only
    by_cases g : aw (hX X) i
    · rw [if_pos g, if_pos g]
      by_cases g2 : ucX n1 L1 i X
      · rw [if_pos g2, if_pos g2, Int32.add_assoc]
        exact ih (i + 1) _ _
      · rw [if_neg g2, if_neg g2]
        exact ih (i + 1) _ _
    · rw [if_neg g, if_neg g]
      exact ih (i + 1) _ _
theorem agS.of {h h' : pm_Hp} (c : ∀ k, 1 ≤ k → k ≤ 15 → h' k = h k) (w : h' 170 = h 170) : agS h h' := ⟨fun _ _ => by rw [w], ⟨by rw [w], by rw [w]⟩, fun _ _ => by rw [w], ⟨by rw [c 1 (by omega) (by omega)], by rw [c 1 (by omega) (by omega)]⟩, fun _ _ => by rw [c 15 (by omega) (by omega)], fun _ _ _ => by rw [c 2 (by omega) (by omega)], fun k _ h1 h2 _ _ => by rw [c k (by omega) (by omega)], fun _ _ => ⟨by rw [c 10 (by omega) (by omega)], by rw [c 13 (by omega) (by omega)]⟩, fun _ _ => by rw [c 14 (by omega) (by omega)]⟩
theorem FK.us {T R A n1 t : Nat} {L1 : Nat → Ln} {X B : Nat → Int32} {b : Int32} {g g' : pm_Hp} (K : FK T R A (VV X B b g)) (ht : t < T) (fr : ∀ k, k ≠ 2 → k ≠ 3 → k ≠ 4 → k ≠ 5 → k ≠ 31 → k ≠ 37 → g' k = g k) (f2 : ∀ j, j ≠ 10 → g' 2 j = g 2 j) (f10 : g' 2 10 = usX n1 L1 t X 3) (c : CW t (fun f => usX n1 L1 t X (4 + 20 * t + f)) (VV X B b g) g') : FK T R A (VV (usX n1 L1 t X) B b g') := by
  have P := K.1
  have hT := P.1
  have S := K.2.2.1
  obtain ⟨s1, s2, s3, s4, s5, s6⟩ := S
  have o : ∀ f, f ≠ 2 → f ≠ 3 → f ≠ 4 → usX n1 L1 t X (4 + 20 * t + f) = X (4 + 20 * t + f) := fun f a b c => us_o (by omega) (by omega) (by omega) (by omega)
  refine K.tu (u := fun f => usX n1 L1 t X (4 + 20 * t + f)) ht (fun s f hs hf => ?_) (c.o (fun k h1 h2 => VV_o (by omega) (by omega) (by omega))) ?_ ?_ ?_ (fun x h1 h2 => us_o (by omega) (by omega) (by omega) (by omega)) (o 0 (by omega) (by omega) (by omega)) (MV.same P ht (o 0 (by omega) (by omega) (by omega)) (o 5 (by omega) (by omega) (by omega))) (QW.us (by omega) (QW.of (K.2.1 t ht))) (fun z => ?_) ⟨?_, ?_, ?_, ?_, ?_, ?_⟩
  · show usX n1 L1 t X (4 + 20 * s + f) = if s = t then _ else X (4 + 20 * s + f)
    by_cases e : s = t
    · rw [if_pos e, e]
    · rw [if_neg e]; exact us_o (by omega) (by omega) (by omega) (by omega)
  · rw [VV_o (by omega) (by omega) (by omega), VV_o (by omega) (by omega) (by omega), fr 1 (by omega) (by omega) (by omega) (by omega) (by omega) (by omega)]
  · rw [VV_o (by omega) (by omega) (by omega), VV_o (by omega) (by omega) (by omega), fr 14 (by omega) (by omega) (by omega) (by omega) (by omega) (by omega)]
  · rw [VV_o (by omega) (by omega) (by omega), VV_o (by omega) (by omega) (by omega), fr 15 (by omega) (by omega) (by omega) (by omega) (by omega) (by omega)]
  · have z : ¬ usX n1 L1 t X (4 + 20 * t + 5) = nI 100 := z
    show usX n1 L1 t X (4 + 20 * t + 7) = -1 ∧ usX n1 L1 t X (4 + 20 * t + 8) = 0
    rw [o 5 (by omega) (by omega) (by omega)] at z
    rw [o 7 (by omega) (by omega) (by omega), o 8 (by omega) (by omega) (by omega)]
    exact K.2.2.2.2 t ht z
  · rw [VV_o (by omega) (by omega) (by omega), f2 9 (by omega), VV_w, us_o (by omega) (by omega) (by omega) (by omega)]; exact s1
  · rw [VV_o (by omega) (by omega) (by omega), f2 8 (by omega), VV_w, us_o (by omega) (by omega) (by omega) (by omega)]; exact s2
  · rw [VV_o (by omega) (by omega) (by omega), f2 11 (by omega), VV_w, us_o (by omega) (by omega) (by omega) (by omega)]; exact s3
  · rw [VV_o (by omega) (by omega) (by omega), f10, VV_w]
  · rw [VV_w, us_o (by omega) (by omega) (by omega) (by omega)]; exact s5
  · rw [VV_w, us_o (by omega) (by omega) (by omega) (by omega)]; exact s6
theorem c_passL {d T R A n1 : Nat} {L1 : Nat → Ln} {B : Nat → Int32} {b : Int32} (hd : 6 ≤ d) : ∀ (n i : Nat) (X : Nat → Int32) (cnt : Int32) (g : pm_Hp), i + n = T → FK T R A (VV X B b g) → LW 1 n1 L1 g → (∃ dd, dd + 1 ≤ 9999 ∧ X 0 = nI dd) → ∃ g', pm_rn d kX1_passDay 4 [.ref 1, .int cnt, .int (nI i)] [] g = some ((itr (dst n1 L1) i n (X, cnt)).2, g') ∧ (∀ k, k ≠ 2 → k ≠ 3 → k ≠ 4 → k ≠ 5 → k ≠ 31 → k ≠ 37 → g' k = g k) ∧ FK T R A (VV (upd (itr (dst n1 L1) i n (X, cnt)).1 0 (X 0 + 1)) B b g') := by
  intro n
  induction n with
  | zero =>
    intro i X cnt g hi K L hdd
    have hi : i = T := by omega
    subst hi
    have P := K.1
    have hT := P.1
    have g11 : g 1 11 = nI i := P.2.2.2.1
    obtain ⟨s1, s2, s3, s4, s5, s6⟩ := K.2.2.1
    rw [b_X1_passDay_4, g11, if_neg (nI_nlt (by omega) (by omega))]
    have s1 : g 2 9 = X 0 := s1
    refine ⟨_, rfl, fun k q2 q3 q4 q5 q31 q37 => pm_up_n q2, ?_⟩
    show FK i R A (VV (upd X 0 (X 0 + 1)) B b (pm_up g 2 9 (g 2 9 + 1)))
    have vo : ∀ k, k ≠ 2 → k ≠ 169 → k ≠ 170 → k ≠ 172 → VV (upd X 0 (X 0 + 1)) B b (pm_up g 2 9 (g 2 9 + 1)) k = VV X B b g k := fun k a1 a2 a3 a4 => by rw [VV_o a2 a3 a4, VV_o a2 a3 a4, pm_up_n a1]
    have v2 : ∀ j, j ≠ 9 → VV (upd X 0 (X 0 + 1)) B b (pm_up g 2 9 (g 2 9 + 1)) 2 j = g 2 j := fun j hj => by rw [VV_o (by omega) (by omega) (by omega), pm_up_j hj]
    refine K.g (Nat.le_refl _) P.2.1 (Nat.le_refl _) (fun j h1 h2 => by rw [VV_w, VV_w, pk_un (by omega)]) (by rw [vo 1 (by omega) (by omega) (by omega) (by omega)]) (by rw [VV_w, pk_un (by omega)]; exact P.2.2.2.2.1) (by rw [vo 1 (by omega) (by omega) (by omega) (by omega)]; exact P.hR) (fun r hr => by
      rw [vo 15 (by omega) (by omega) (by omega) (by omega), VV_w, pk_un (by omega)]
      exact P.rack hr) (fun k h1 h2 => vo k (by omega) (by omega) (by omega) (by omega)) (fun j _ => by rw [vo 14 (by omega) (by omega) (by omega) (by omega)]) ⟨?_, ?_, ?_, ?_, ?_, ?_⟩
    · rw [VV_o (by omega) (by omega) (by omega), pm_up_s, VV_w, pk_us, s1]
    · rw [v2 8 (by omega), VV_w, pk_un (by omega)]; exact s2
    · rw [v2 11 (by omega), VV_w, pk_un (by omega)]; exact s3
    · rw [v2 10 (by omega), VV_w, pk_un (by omega)]; exact s4
    · obtain ⟨dd, h1, h2⟩ := hdd
      rw [VV_w, pk_us, h2, nI_1]; exact ⟨dd + 1, h1, rfl⟩
    · rw [VV_w, pk_un (by omega)]; exact s6
  | succ n ih =>
    intro i X cnt g hi K L hdd
    have P := K.1
    have hT := P.1
    have g11 : g 1 11 = nI T := P.2.2.2.1
    have e : ∀ k, k < 169 → g k = VV X B b g k := fun k hk => (VV_o (by omega) (by omega) (by omega)).symm
    rw [b_X1_passDay_4, g11, if_pos (nI_lt (by omega) (by omega)), v_isAway (by omega) P e (by omega), pm_bd_s, nI_1]
    show ∃ g', _ = some ((itr (dst n1 L1) (i + 1) n (dst n1 L1 i (X, cnt))).2, g') ∧ _ ∧ FK T R A (VV (upd (itr (dst n1 L1) (i + 1) n (dst n1 L1 i (X, cnt))).1 0 (X 0 + 1)) B b g')
    have ea : aw (VV X B b g) i = aw (hX X) i := aw_eq (by rfl) i
    by_cases ga : aw (hX X) i
    · have ga' : aw (VV X B b g) i := by rw [ea]; exact ga
      obtain ⟨g1, a1, f1, f2, f3, f4⟩ := c_use (d := d) (n1 := n1) (L1 := L1) hd K L e (show i < T by omega)
      rw [VV_w] at a1 f3 f4
      have K1 := K.us (show i < T by omega) f1 f2 f3 f4
      have L1' : LW 1 n1 L1 g1 := L.to (by omega) (f1 170 (by omega) (by omega) (by omega) (by omega) (by omega) (by omega)) (fun a q1 q2 _ => f1 a (by omega) (by omega) (by omega) (by omega) (by omega) (by omega))
      have x0 : usX n1 L1 i X 0 = X 0 := us_o (by omega) (by omega) (by omega) (by omega)
      rw [b2_t ga', if_neg (by decide), a1, pm_bd_s]
      unfold dst
      simp only
      rw [if_pos ga]
      by_cases gu : ucX n1 L1 i X
      · rw [b2_t gu, if_neg (by decide), if_pos gu]
        obtain ⟨g2, b1, b2', b3⟩ := ih (i + 1) (usX n1 L1 i X) (cnt + 1) g1 (by omega) K1 L1' (by rw [x0]; exact hdd)
        rw [x0] at b3
        exact ⟨g2, b1, fun k q2 q3 q4 q5 q31 q37 => (b2' k q2 q3 q4 q5 q31 q37).trans (f1 k q2 q3 q4 q5 q31 q37), b3⟩
      · rw [b2_f gu, if_pos rfl, if_neg gu]
        obtain ⟨g2, b1, b2', b3⟩ := ih (i + 1) (usX n1 L1 i X) cnt g1 (by omega) K1 L1' (by rw [x0]; exact hdd)
        rw [x0] at b3
        exact ⟨g2, b1, fun k q2 q3 q4 q5 q31 q37 => (b2' k q2 q3 q4 q5 q31 q37).trans (f1 k q2 q3 q4 q5 q31 q37), b3⟩
    · have ga' : ¬ aw (VV X B b g) i := by rw [ea]; exact ga
      rw [b2_f ga', if_pos rfl]
      unfold dst
      simp only
      rw [if_neg ga]
      exact ih (i + 1) X cnt g (by omega) K L hdd
/-! the days of the class -/
def keepB (c : Nat) (X B : Nat → Int32) : Nat → Int32 := fun x => if c = 6 then (if x < 1620 then B (x + 324) else if x < 1944 then X (x - 1620) else B x) else if 324 * c ≤ x ∧ x < 324 * c + 324 then X (x - 324 * c) else B x
abbrev DS : Type := ((Nat → Int32) × (Nat → Int32)) × (Nat × Int32)
def dyn (n1 : Nat) (L1 : Nat → Ln) (T : Nat) (s : DS) : DS := ((upd (itr (dst n1 L1) 0 T (s.1.1, 0)).1 0 (s.1.1 0 + 1), keepB s.2.1 s.1.1 s.1.2), (if s.2.1 = 6 then 6 else s.2.1 + 1, s.2.2 + (itr (dst n1 L1) 0 T (s.1.1, 0)).2))
def dyN (n1 : Nat) (L1 : Nat → Ln) (T : Nat) : Nat → DS → DS
  | 0, s => s
  | n + 1, s => dyN n1 L1 T n (dyn n1 L1 T s)
theorem kpM_V {c : Nat} {X B : Nat → Int32} {g : pm_Hp} : kpM c (VV X B (nI c) g) (VV X (keepB c X B) (nI (if c = 6 then 6 else c + 1)) g) := by
  refine ⟨fun k h1 h2 => ?_, fun j hj => ?_, ?_⟩
  · unfold VV
    by_cases a : k = 170
    · rw [if_pos a, if_pos a]
    · rw [if_neg a, if_neg a, if_neg h1, if_neg h1, if_neg h2, if_neg h2]
  · show (if j = 3 then _ else g 169 j) = if j = 3 then _ else g 169 j
    rw [if_neg hj, if_neg hj]
  · by_cases e : c = 6
    · subst e
      refine (if_pos rfl).mpr ⟨rfl, fun x hx => ?_, fun x hx => ?_⟩
      · show keepB 6 X B (1620 + x) = X x
        unfold keepB
        rw [if_pos rfl, if_neg (by omega), if_pos (by omega), show 1620 + x - 1620 = x by omega]
      · show keepB 6 X B x = B (x + 324)
        unfold keepB
        rw [if_pos rfl, if_pos hx]
    · rw [if_neg e, if_neg e]
      refine ⟨rfl, fun x hx => ?_, fun x hx => ?_⟩
      · show keepB c X B (324 * c + x) = X x
        unfold keepB
        rw [if_neg e, if_pos (by omega), show 324 * c + x - 324 * c = x by omega]
      · show keepB c X B x = B x
        unfold keepB
        rw [if_neg e, if_neg (by omega)]
theorem kpC_V {c nx : Nat} {X B : Nat → Int32} {b : Int32} {g g1 : pm_Hp} (hn : nx < 6) (C : kpC c nx g g1) : kpC c nx (VV X B b g) (VV X B b g1) := by
  obtain ⟨c1, c2, c3, c4, c5, c6, c7, c8, c9⟩ := C
  have vo : ∀ (y : pm_Hp) (k : Nat), k < 169 → VV X B b y k = y k := fun y k hk => VV_o (by omega) (by omega) (by omega)
  refine ⟨fun k h1 h2 h3 => VV_cg (c1 k h1 h2 h3), fun j h1 h2 => ?_, ?_, ?_, ?_, fun j hj => ?_, fun j h1 h2 => ?_, fun r j h1 h2 h3 => ?_, fun j hj => ?_⟩
  · rw [vo _ 77 (by omega), vo _ 77 (by omega)]; exact c2 j h1 h2
  · rw [vo _ 77 (by omega)]; exact c3
  · rw [vo _ 77 (by omega)]; exact c4
  · rw [vo _ 150 (by omega)]; exact c5
  · rw [vo _ 150 (by omega), vo _ 150 (by omega)]; exact c6 j hj
  · rw [vo _ _ (by omega), vo _ 2 (by omega)]; exact c7 j h1 h2
  · rw [vo _ _ (by omega), vo _ _ (by omega)]; exact c8 r j h1 h2 h3
  · rw [vo _ _ (by omega), vo _ 10 (by omega)]; exact c9 j hj
theorem c_daysL {d T R A n1 nn : Nat} {L1 : Nat → Ln} (hd : 8 ≤ d) (hnn : nn ≤ 60) : ∀ (n i nx : Nat) (s : DS) (g : pm_Hp), i + n = nn → FK T R A (VV s.1.1 s.1.2 (nI s.2.1) g) → KR T R A s.2.1 nx (VV s.1.1 s.1.2 (nI s.2.1) g) → LW 1 n1 L1 g → (∃ dd, dd + n ≤ 9999 ∧ s.1.1 0 = nI dd) → ∃ nx' g', pm_rn d kX9_days 35 [.ref 0, .int (nI nn), .int s.2.2, .int (nI i)] [] g = some ((dyN n1 L1 T n s).2.2, g') ∧ (∀ k, k ≠ 2 → k ≠ 3 → k ≠ 4 → k ≠ 5 → k ≠ 31 → k ≠ 37 → (k < 77 ∨ 132 < k) → k ≠ 150 → g' k = g k) ∧ FK T R A (VV (dyN n1 L1 T n s).1.1 (dyN n1 L1 T n s).1.2 (nI (dyN n1 L1 T n s).2.1) g') ∧ KR T R A (dyN n1 L1 T n s).2.1 nx' (VV (dyN n1 L1 T n s).1.1 (dyN n1 L1 T n s).1.2 (nI (dyN n1 L1 T n s).2.1) g') ∧ (0 < n ∨ g 150 0 = 0 → g' 150 0 = 0) := by
  intro n
  induction n with
  | zero =>
    intro i nx s g hi K Z L hdd
    rw [b_X9_days_35, if_neg (nI_nlt (by omega) (by omega))]
    exact ⟨nx, g, rfl, fun _ _ _ _ _ _ _ _ _ => rfl, K, Z, fun z => z.resolve_left (by omega)⟩
  | succ n ih =>
    intro i nx s g hi K Z L hdd
    obtain ⟨⟨X, B⟩, c, tot⟩ := s
    have K : FK T R A (VV X B (nI c) g) := K
    have Z : KR T R A c nx (VV X B (nI c) g) := Z
    have hT := K.1.1
    obtain ⟨dd, hd1, hd2⟩ := hdd
    have hd2 : X 0 = nI dd := hd2
    have Z' := Z
    obtain ⟨hc6, hn, z1, z2, z3, -⟩ := Z
    have vo : ∀ (X' B' : Nat → Int32) (b' : Int32) (y : pm_Hp) (k : Nat), k < 169 → VV X' B' b' y k = y k := fun _ _ _ y k hk => VV_o (by omega) (by omega) (by omega)
    rw [vo _ _ _ _ 77 (by omega)] at z1 z2
    obtain ⟨h1, a1, C⟩ := c_startAct (d := d) (h := g) (by omega) hc6 hn z1 z2
    obtain ⟨c1, c2⟩ := C12 C hn
    have K1 : FK T R A (VV X B (nI c) h1) := K.ag (agS.of (fun k q1 q2 => VV_cg (c1 k (by omega))) rfl)
    have Lh : LW 1 n1 L1 h1 := L.to (by omega) (c2 170 (by omega) (by omega)) (fun a q1 q2 _ => c1 a (by omega))
    obtain ⟨d, rfl, -⟩ := dpos (show 7 + 1 ≤ d by omega)
    obtain ⟨g2, a2, f2, K2⟩ := c_passL (d := d) (n1 := n1) (L1 := L1) (B := B) (b := nI c) (by omega) T 0 X 0 h1 (by omega) K1 Lh ⟨dd, by omega, hd2⟩
    have a2' : pm_ev (d + 1) 27 [.ref 1] h1 = some ((itr (dst n1 L1) 0 T (X, 0)).2, g2) := by rw [e_X1_passDay]; exact a2
    have xo : ∀ x, 324 ≤ x → upd (itr (dst n1 L1) 0 T (X, 0)).1 0 (X 0 + 1) x = X x := fun x hx => by rw [pk_un (by omega), itr_o (by omega) T 0 (X, 0) (by omega)]
    have K3 : FK T R A (VV (upd (itr (dst n1 L1) 0 T (X, 0)).1 0 (X 0 + 1)) (keepB c X B) (nI (if c = 6 then 6 else c + 1)) g2) := by
      have ag2 : agS (VV (upd (itr (dst n1 L1) 0 T (X, 0)).1 0 (X 0 + 1)) B (nI c) g2) (VV (upd (itr (dst n1 L1) 0 T (X, 0)).1 0 (X 0 + 1)) (keepB c X B) (nI (if c = 6 then 6 else c + 1)) g2) := agS.of (fun k q1 q2 => by rw [vo _ _ _ _ k (by omega), vo _ _ _ _ k (by omega)]) rfl
      exact K2.ag ag2
    have Z3 := KR.act (h4 := VV (upd (itr (dst n1 L1) 0 T (X, 0)).1 0 (X 0 + 1)) (keepB c X B) (nI (if c = 6 then 6 else c + 1)) g2) K Z' (kpC_V (X := X) (B := B) (b := nI c) hn C) (fun k q1 q2 => by rw [vo _ _ _ _ k (by omega), vo _ _ _ _ k (by omega), f2 k (by omega) (by omega) (by omega) (by omega) (by omega) (by omega)]) (h2 := VV X B (nI c) g2) (fun _ _ => rfl) rfl kpM_V rfl rfl (by rw [vo _ _ _ _ 1 (by omega), vo _ _ _ _ 1 (by omega), f2 1 (by omega) (by omega) (by omega) (by omega) (by omega) (by omega), c1 1 (by omega)]) (fun k q1 q2 => by rw [vo _ _ _ _ k (by omega), vo _ _ _ _ k (by omega), f2 k (by omega) (by omega) (by omega) (by omega) (by omega) (by omega), c1 k (by omega)]) (fun x q1 q2 => xo x q1)
    have L2 : LW 1 n1 L1 g2 := Lh.to (by omega) (f2 170 (by omega) (by omega) (by omega) (by omega) (by omega) (by omega)) (fun a q1 q2 _ => f2 a (by omega) (by omega) (by omega) (by omega) (by omega) (by omega))
    obtain ⟨nx', g3, b1, b2', b3, b4, b5⟩ := ih (i + 1) ((nx + 1) % 6) (dyn n1 L1 T ((X, B), (c, tot))) g2 (by omega) K3 Z3 L2 ⟨dd + 1, by omega, by show upd (itr (dst n1 L1) 0 T (X, 0)).1 0 (X 0 + 1) 0 = _; rw [pk_us, hd2, nI_1]⟩
    refine ⟨nx', g3, ?_, fun k q2 q3 q4 q5 q31 q37 q77 q150 => ?_, b3, b4, fun _ => b5 (Or.inr ?_)⟩
    · rw [b_X9_days_35, if_pos (nI_lt (by omega) (by omega)), a1, pm_bd_s, a2', pm_bd_s, nI_1]
      exact b1
    · rw [b2' k q2 q3 q4 q5 q31 q37 q77 q150, f2 k q2 q3 q4 q5 q31 q37]
      rcases q77 with q | q
      · exact c1 k q
      · exact c2 k (by omega) q150
    · rw [f2 150 (by omega) (by omega) (by omega) (by omega) (by omega) (by omega)]; exact C.2.2.2.2.1
