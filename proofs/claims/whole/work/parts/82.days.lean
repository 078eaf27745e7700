/-! DAYS: what a day makes of w, as a function -/
def dfc (X : Nat → Int32) (t : Nat) : Nat → Int32 := fct X t 0 0 0 0 (X (4 + 20 * t + 3))
def dtr (n1 : Nat) (L1 : Nat → Ln) (t : Nat) (X : Nat → Int32) : Int32 := tlw (dfc X t) L1 2 0 (nI 1000) 0 n1
def ddr (n1 : Nat) (L1 : Nat → Ln) (t : Nat) (X : Nat → Int32) : Int32 := tlw (dfc X t) L1 3 0 (nI 9) 0 n1
def lcg (v : Int32) : Int32 := nI 1664525 * v + nI 1013904223
def lcr (v : Int32) : Int32 := pm_ushr v (nI 8) - pm_ushr v (nI 8) / nI 1000 * nI 1000
def mn (a b : Int32) : Int32 := if a < b then a else b
def us1 (n1 : Nat) (L1 : Nat → Ln) (t : Nat) (X : Nat → Int32) : Nat → Int32 := upd (upd X (4 + 20 * t + 4) (mn (nI 999) (X (4 + 20 * t + 4) + 1))) (4 + 20 * t + 2) (mn (nI 9) (X (4 + 20 * t + 2) + ddr n1 L1 t X))
abbrev ucX (n1 : Nat) (L1 : Nat → Ln) (t : Nat) (X : Nat → Int32) : Prop := ¬ dtr n1 L1 t X = 0 ∧ lcr (lcg (X 3)) < dtr n1 L1 t X ∧ X (4 + 20 * t + 3) < nI 9
def usX (n1 : Nat) (L1 : Nat → Ln) (t : Nat) (X : Nat → Int32) : Nat → Int32 := if dtr n1 L1 t X = 0 then us1 n1 L1 t X else if lcr (lcg (X 3)) < dtr n1 L1 t X ∧ X (4 + 20 * t + 3) < nI 9 then upd (upd (us1 n1 L1 t X) 3 (lcg (X 3))) (4 + 20 * t + 3) (X (4 + 20 * t + 3) + 1) else upd (us1 n1 L1 t X) 3 (lcg (X 3))
theorem us1_o {n1 t j : Nat} {L1 : Nat → Ln} {X : Nat → Int32} (h2 : j ≠ 4 + 20 * t + 2) (h4 : j ≠ 4 + 20 * t + 4) : us1 n1 L1 t X j = X j := by
  unfold us1
  rw [pk_un h2, pk_un h4]
theorem us_o {n1 t j : Nat} {L1 : Nat → Ln} {X : Nat → Int32} (h0 : j ≠ 3) (h2 : j ≠ 4 + 20 * t + 2) (h3 : j ≠ 4 + 20 * t + 3) (h4 : j ≠ 4 + 20 * t + 4) : usX n1 L1 t X j = X j := by
  unfold usX
  by_cases a : dtr n1 L1 t X = 0
  · rw [if_pos a, us1_o h2 h4]
  · rw [if_neg a]
    by_cases b : lcr (lcg (X 3)) < dtr n1 L1 t X ∧ X (4 + 20 * t + 3) < nI 9
    · rw [if_pos b, pk_un h3, pk_un h0, us1_o h2 h4]
    · rw [if_neg b, pk_un h0, us1_o h2 h4]
theorem mn_nb {a : Nat} (ha : a < 2 ^ 29) {b : Int32} {k : Nat} (hk : k < 2 ^ 29) (hb : nb b k) : nb (mn (nI a) b) a := by
  obtain ⟨j, hj, rfl⟩ := hb
  unfold mn
  rw [ltn_ite (by omega) (by omega)]
  by_cases e : a < j
  · rw [if_pos e]; exact ⟨a, by omega, rfl⟩
  · rw [if_neg e]; exact ⟨j, by omega, rfl⟩
theorem nb_add {a b : Int32} {j k : Nat} (ha : nb a j) (hb : nb b k) : nb (a + b) (j + k) := by
  obtain ⟨x, hx, rfl⟩ := ha
  obtain ⟨y, hy, rfl⟩ := hb
  exact ⟨x + y, by omega, nI_add x y⟩
theorem nb1 : nb 1 1 := ⟨1, by omega, rfl⟩
/-- the row after a day -/
theorem QW.us {n1 t : Nat} {L1 : Nat → Ln} {X : Nat → Int32} (ht : t < 16) (Q : QW (fun f => X (4 + 20 * t + f))) : QW (fun f => usX n1 L1 t X (4 + 20 * t + f)) := by
  obtain ⟨q1, q2, q3, q4, q5, q6⟩ := Q
  have o : ∀ f, f ≠ 2 → f ≠ 3 → f ≠ 4 → usX n1 L1 t X (4 + 20 * t + f) = X (4 + 20 * t + f) := fun f a b c => us_o (by omega) (by omega) (by omega) (by omega)
  have nd : nb (ddr n1 L1 t X) 9 := tlw_nb (by omega) (nb0 _) _ _
  have r4 : us1 n1 L1 t X (4 + 20 * t + 4) = mn (nI 999) (X (4 + 20 * t + 4) + 1) := by unfold us1; rw [pk_un (by omega), pk_us]
  have r2 : us1 n1 L1 t X (4 + 20 * t + 2) = mn (nI 9) (X (4 + 20 * t + 2) + ddr n1 L1 t X) := by unfold us1; rw [pk_us]
  have r3 : us1 n1 L1 t X (4 + 20 * t + 3) = X (4 + 20 * t + 3) := us1_o (by omega) (by omega)
  have n4 : nb (mn (nI 999) (X (4 + 20 * t + 4) + 1)) 999 := mn_nb (by omega) (k := 999 + 1) (by omega) (nb_add q4 nb1)
  have n2 : nb (mn (nI 9) (X (4 + 20 * t + 2) + ddr n1 L1 t X)) 9 := mn_nb (by omega) (k := 9 + 9) (by omega) (nb_add q2 nd)
  refine ⟨by show nb (usX n1 L1 t X (4 + 20 * t + 1)) 20; rw [o 1 (by omega) (by omega) (by omega)]; exact q1, ?_, ?_, ?_, by show nb (usX n1 L1 t X (4 + 20 * t + 8)) 9999; rw [o 8 (by omega) (by omega) (by omega)]; exact q5, fun m hm => by
    show nb (usX n1 L1 t X (4 + 20 * t + (10 + m))) 99 ∧ nb (usX n1 L1 t X (4 + 20 * t + (15 + m))) 99 ∧ (usX n1 L1 t X (4 + 20 * t + (10 + m)) = 0 ↔ usX n1 L1 t X (4 + 20 * t + (15 + m)) = 0)
    rw [o (10 + m) (by omega) (by omega) (by omega), o (15 + m) (by omega) (by omega) (by omega)]
    exact q6 m hm⟩
  · show nb (usX n1 L1 t X (4 + 20 * t + 2)) 9
    unfold usX
    by_cases a : dtr n1 L1 t X = 0
    · rw [if_pos a, r2]; exact n2
    · rw [if_neg a]
      by_cases b : lcr (lcg (X 3)) < dtr n1 L1 t X ∧ X (4 + 20 * t + 3) < nI 9
      · rw [if_pos b, pk_un (by omega), pk_un (by omega), r2]; exact n2
      · rw [if_neg b, pk_un (by omega), r2]; exact n2
  · show nb (usX n1 L1 t X (4 + 20 * t + 3)) 9
    unfold usX
    by_cases a : dtr n1 L1 t X = 0
    · rw [if_pos a, r3]; exact q3
    · rw [if_neg a]
      by_cases b : lcr (lcg (X 3)) < dtr n1 L1 t X ∧ X (4 + 20 * t + 3) < nI 9
      · rw [if_pos b, pk_us]
        have q3 : nb (X (4 + 20 * t + 3)) 9 := q3
        obtain ⟨j, hj, ej⟩ := q3
        have b2 := b.2
        rw [ej, nI_ltI (by omega) (by omega)] at b2
        rw [ej, nI_1]
        exact ⟨j + 1, by omega, rfl⟩
      · rw [if_neg b, pk_un (by omega), r3]; exact q3
  · show nb (usX n1 L1 t X (4 + 20 * t + 4)) 999
    unfold usX
    by_cases a : dtr n1 L1 t X = 0
    · rw [if_pos a, r4]; exact n4
    · rw [if_neg a]
      by_cases b : lcr (lcg (X 3)) < dtr n1 L1 t X ∧ X (4 + 20 * t + 3) < nI 9
      · rw [if_pos b, pk_un (by omega), pk_un (by omega), r4]; exact n4
      · rw [if_neg b, pk_un (by omega), r4]; exact n4
/-! the class reads its own rows: a heap V that is whole, g alike in the class's part -/
theorem v_trunkOf {d T R t : Nat} {g V : pm_Hp} (hd : 1 ≤ d) (P : Pl T R V) (e : ∀ k, k < 169 → g k = V k) (ht : t < T) : pm_ev d 15 [.ref 1, .int (nI t)] g = some (o2 (pa V t), g) := by
  obtain ⟨d, rfl, -⟩ := dpos hd
  have hT := P.1
  rw [e_X1_trunkOf, pm_at_c (by omega) (by omega), e 6 (by omega), P.r5 ht]
  rcases pa_cases P ht with ⟨e1, e2, e3, e4⟩ | ⟨p, hp, e1, e2, e3⟩
  · rw [e1]
    rcases e4 with e | ⟨r, hr, e⟩ | e
    · rw [e]; rfl
    · have hR := P.2.1
      rw [e, if_pos (nI_lt (by omega) (by omega))]; rfl
    · rw [e, if_neg (by decide), if_pos rfl]; rfl
  · rw [e1, e2, if_neg (nI_nlt (by omega) (by omega)), if_neg (fun q => by have := (nI_eq (by omega) (by omega)).mp q; omega), pk_sub (by omega), show 10 + p - 10 = p by omega]
    rfl
theorem v_outL {d T R : Nat} {g V : pm_Hp} (hd : 1 ≤ d) (P : Pl T R V) (e : ∀ k, k < 169 → g k = V k) {rk : Nat → Nat} (K : RK T V rk) : ∀ (n t s : Nat) (u : Value), t < T → rk t < n → s + n ≤ 16 → pm_rn d kX1_outermost 4 [.ref 1, u, .int (nI t), .int (nI s)] [] g = some (nI (ou V n t), g) := by
  intro n
  induction n with
  | zero => intro t s u ht hn; omega
  | succ n ih =>
    intro t s u ht hn hs
    have hT := P.1
    rw [b_X1_outermost_4, if_pos (nI_lt (by omega) (by omega)), v_trunkOf hd P e ht, pm_bd_s]
    unfold ou
    rcases pa_cases P ht with ⟨e1, e2, e3, e4⟩ | ⟨p, hp, e1, e2, e3⟩
    · rw [e1]; rfl
    · rw [e1]
      show (if nI p = -1 then _ else _) = _
      rw [if_neg (by rw [nI_m1 (by omega)]; exact id), v_trunkOf hd P e ht, pm_bd_s, e1, nI_1]
      have := (K t ht).2.2.1 p hp e2
      exact ih p (s + 1) u hp (by omega) (by omega)
theorem v_isAway {d T R t : Nat} {g V : pm_Hp} (hd : 3 ≤ d) (P : Pl T R V) (e : ∀ k, k < 169 → g k = V k) (ht : t < T) : pm_ev d 17 [.ref 1, .int (nI t)] g = some (b2 (aw V t), g) := by
  obtain ⟨d, rfl, -⟩ := dpos hd
  have h1 := ou_lt P 4 t ht
  have h2 := P.1
  obtain ⟨rk, K⟩ := P.2.2.2.2.2.2.2.2.2
  have e1 : pm_ev d 16 [.ref 1, .int (nI t)] g = some (nI (ou V 4 t), g) := by
    obtain ⟨d, rfl, -⟩ := dpos (show 1 + 1 ≤ d by omega)
    rw [e_X1_outermost]
    exact v_outL (by omega) P e K 4 t 0 _ ht (by have := (K t ht).1; omega) (by omega)
  rw [e_X1_isAway, e1, pm_bd_s, pm_at_c (by omega) (by omega), e 6 (by omega), P.r5 h1]
  unfold b2
  split <;> rfl
theorem c_draw {d : Nat} {h : pm_Hp} (hd : 1 ≤ d) : pm_ev d 29 [.ref 1, .int (nI 1000)] h = some (lcr (lcg (h 2 10)), pm_up h 2 10 (lcg (h 2 10))) := by
  obtain ⟨d, rfl, -⟩ := dpos hd
  rw [e_X1_draw, if_neg (by decide), if_neg (by decide)]
  rfl
theorem n_draw {d : Nat} {h : pm_Hp} (hd : 1 ≤ d) : pm_ev d 169 [.ref 169, .int (nI 1000)] h = some (lcr (lcg (h 170 3)), pm_up h 170 3 (lcg (h 170 3))) := by
  obtain ⟨d, rfl, -⟩ := dpos hd
  rw [e_X10_draw, if_neg (by decide)]
  rfl
theorem c_use {d T R A n1 t : Nat} {L1 : Nat → Ln} {g V : pm_Hp} (hd : 6 ≤ d) (K : FK T R A V) (Lg : LW 1 n1 L1 g) (e : ∀ k, k < 169 → g k = V k) (ht : t < T) : ∃ g', pm_ev d 28 [.ref 1, .int (nI t)] g = some (b2 (ucX n1 L1 t (V 170)), g') ∧ (∀ k, k ≠ 2 → k ≠ 3 → k ≠ 4 → k ≠ 5 → k ≠ 31 → k ≠ 37 → g' k = g k) ∧ (∀ j, j ≠ 10 → g' 2 j = g 2 j) ∧ g' 2 10 = usX n1 L1 t (V 170) 3 ∧ CW t (fun f => usX n1 L1 t (V 170) (4 + 20 * t + f)) V g' := by
  obtain ⟨d, rfl, -⟩ := dpos hd
  have P := K.1
  have hT := P.1
  have W := K.2.1 t ht
  have RTt := fun f hf h9 => P.2.2.2.2.2.2.1 t f ht hf h9
  have ask : ∃ y1, pm_ev d 30 [.ref 1, .int (nI t)] g = some (0, y1) ∧ eqi [37] g y1 ∧ FP y1 (V 170) t 0 (wq V t 3) ∧ y1 37 0 = 0 ∧ y1 37 1 = 0 ∧ y1 37 2 = 0 := by
    obtain ⟨d, rfl, -⟩ := dpos (show 4 + 1 ≤ d by omega)
    have m37 : 37 ∈ [37] := List.mem_singleton.mpr rfl
    have r0 : g 11 t = wq V t 0 := by rw [e 11 (by omega)]; exact RTt 0 (by omega) (by omega)
    have r1 : g 12 t = wq V t 1 := by rw [e 12 (by omega)]; exact RTt 1 (by omega) (by omega)
    have r3 : g 4 t = wq V t 3 := by rw [e 4 (by omega)]; exact RTt 3 (by omega) (by omega)
    have r4 : g 5 t = wq V t 4 := by rw [e 5 (by omega)]; exact RTt 4 (by omega) (by omega)
    have r2 : g 3 t = wq V t 2 := by rw [e 3 (by omega)]; exact RTt 2 (by omega) (by omega)
    rw [e_X1_askAbout, pm_at_c (by omega) (by omega), pm_at_c (by omega) (by omega), pm_at_c (by omega) (by omega), pm_at_c (by omega) (by omega), pm_at_c (by omega) (by omega), r0, r1, r2, r3, r4]
    exact ⟨_, rfl, ((((((((eqi.rf.up m37).up m37).up m37).up m37).up m37).up m37).up m37).up m37).up m37, ⟨rfl, rfl, rfl, rfl, rfl, rfl⟩, rfl, rfl, rfl⟩
  obtain ⟨y1, a1, e1, f1, z0, z1, z2⟩ := ask
  have e1' : ∀ k, k ≠ 37 → y1 k = g k := fun k hk => e1 k (by simp; omega)
  obtain ⟨y2, a2, e2⟩ := c_tellE_1 (d := d) (w := 3) (n := n1) (Ls := L1) (h := y1) (by omega) (by omega) (Lg.to (by omega) (e1' 170 (by omega)) (fun a q1 q2 _ => e1' a (by omega))) (f1.full z0 z1 z2) 0 (nI 9)
  have e2' : ∀ k, k ≠ 31 → y2 k = y1 k := fun k hk => e2 k (by simp; omega)
  have f2 : ∀ k, 1 ≤ k → k ≤ 9 → y2 37 (cfi k) = fct (V 170) t 0 0 0 0 (wq V t 3) k := fun k q1 q2 => by rw [e2' 37 (by omega)]; exact f1.full z0 z1 z2 k q1 q2
  obtain ⟨y3, a3, e3⟩ := c_tellE_1 (d := d) (w := 2) (n := n1) (Ls := L1) (h := y2) (by omega) (by omega) (Lg.to (by omega) (by rw [e2' 170 (by omega), e1' 170 (by omega)]) (fun a q1 q2 _ => by rw [e2' a (by omega), e1' a (by omega)])) f2 0 (nI 1000)
  have e3' : ∀ k, k ≠ 31 → y3 k = y2 k := fun k hk => e3 k (by simp; omega)
  have a2 : pm_ev d 49 [.ref 25, .int (nI 203), .ref 37, .int 0, .int (nI 9)] y1 = some (ddr n1 L1 t (V 170), y2) := a2
  have a3 : pm_ev d 49 [.ref 25, .int (nI 202), .ref 37, .int 0, .int (nI 1000)] y2 = some (dtr n1 L1 t (V 170), y3) := a3
  have ey : ∀ k, k ≠ 31 → k ≠ 37 → y3 k = g k := fun k q1 q2 => by rw [e3' k q1, e2' k q1, e1' k q2]
  have t4 : y3 5 t = V 170 (4 + 20 * t + 4) := by rw [ey 5 (by omega) (by omega), e 5 (by omega)]; exact RTt 4 (by omega) (by omega)
  have t2 : y3 3 t = V 170 (4 + 20 * t + 2) := by rw [ey 3 (by omega) (by omega), e 3 (by omega)]; exact RTt 2 (by omega) (by omega)
  have t3 : y3 4 t = V 170 (4 + 20 * t + 3) := by rw [ey 4 (by omega) (by omega), e 4 (by omega)]; exact RTt 3 (by omega) (by omega)
  have d10 : y3 2 10 = V 170 3 := by rw [ey 2 (by omega) (by omega), e 2 (by omega)]; exact K.2.2.1.2.2.2.1
  have nt : nb (dtr n1 L1 t (V 170)) 1000 := tlw_nb (by omega) (nb0 _) _ _
  rw [e_X1_useForDay, a1, pm_bd_s, a2, pm_bd_s, a3, pm_bd_s, pm_at_c (by omega) (by omega), t4, e_min (by omega), minE, pm_bd_s, pm_at_c (by omega) (by omega), pm_at_c (by omega) (by omega), t2, e_min (by omega), minE, pm_bd_s, pm_at_c (by omega) (by omega)]
  show ∃ g', (if dtr n1 L1 t (V 170) ≤ 0 then some ((0 : Int32), pm_up (pm_up y3 5 t (mn (nI 999) (V 170 (4 + 20 * t + 4) + 1))) 3 t (mn (nI 9) (V 170 (4 + 20 * t + 2) + ddr n1 L1 t (V 170)))) else _) = _ ∧ _
  have cw1 : CW t (ur 2 (mn (nI 9) (V 170 (4 + 20 * t + 2) + ddr n1 L1 t (V 170))) (ur 4 (mn (nI 999) (V 170 (4 + 20 * t + 4) + 1)) (wq V t))) V (pm_up (pm_up y3 5 t (mn (nI 999) (V 170 (4 + 20 * t + 4) + 1))) 3 t (mn (nI 9) (V 170 (4 + 20 * t + 2) + ddr n1 L1 t (V 170)))) := (((CW.rf P ht).o (fun a q1 q2 => by rw [ey a (by omega) (by omega), e a (by omega)])).up9 (g := 4) (by omega) rfl).up9 (g := 2) (by omega) rfl
  have row1 : ∀ f, ur 2 (mn (nI 9) (V 170 (4 + 20 * t + 2) + ddr n1 L1 t (V 170))) (ur 4 (mn (nI 999) (V 170 (4 + 20 * t + 4) + 1)) (wq V t)) f = us1 n1 L1 t (V 170) (4 + 20 * t + f) := fun f => by
    unfold us1 ur
    by_cases c2 : f = 2
    · rw [if_pos c2, c2, pk_us]
    · rw [if_neg c2, pk_un (by omega)]
      by_cases c4 : f = 4
      · rw [if_pos c4, c4, pk_us]
      · rw [if_neg c4, pk_un (by omega)]
  obtain ⟨k, hk, ek⟩ := nt
  by_cases c0 : dtr n1 L1 t (V 170) = 0
  · have le0 : dtr n1 L1 t (V 170) ≤ 0 := by rw [c0]; decide
    have uX : usX n1 L1 t (V 170) = us1 n1 L1 t (V 170) := if_pos c0
    rw [if_pos le0, b2_f (fun z => z.1 c0), uX]
    refine ⟨_, rfl, fun k q2 q3 q4 q5 q31 q37 => ?_, fun j hj => ?_, ?_, cw1.cg (fun f _ => row1 f)⟩
    · rw [pm_up_n q3, pm_up_n q5, ey k q31 q37]
    · rw [pm_up_k (by omega), pm_up_k (by omega), ey 2 (by omega) (by omega)]
    · rw [pm_up_k (by omega), pm_up_k (by omega), d10, us1_o (by omega) (by omega)]
  · have le0 : ¬ dtr n1 L1 t (V 170) ≤ 0 := fun z => c0 (by
      rw [ek] at z ⊢
      rw [(nI_le0 (by omega)).mp z]
      rfl)
    rw [if_neg le0, c_draw (by omega), pm_bd_s, pm_up_k (by omega), pm_up_k (by omega), d10]
    by_cases c1 : lcr (lcg (V 170 3)) < dtr n1 L1 t (V 170)
    · rw [if_pos c1, pm_at_c (by omega) (by omega), pm_up_k (by omega), pm_up_k (by omega), pm_up_k (by omega), t3]
      by_cases c2 : V 170 (4 + 20 * t + 3) < nI 9
      · have uX : usX n1 L1 t (V 170) = upd (upd (us1 n1 L1 t (V 170)) 3 (lcg (V 170 3))) (4 + 20 * t + 3) (V 170 (4 + 20 * t + 3) + 1) := by unfold usX; rw [if_neg c0, if_pos ⟨c1, c2⟩]
        rw [if_pos c2, pm_at_c (by omega) (by omega), pm_at_c (by omega) (by omega), pm_up_k (by omega), pm_up_k (by omega), pm_up_k (by omega), t3, b2_t ⟨c0, c1, c2⟩, uX]
        refine ⟨_, rfl, fun k q2 q3 q4 q5 q31 q37 => ?_, fun j hj => ?_, ?_, ((cw1.o (fun a q1 q2 => pm_up_n (by omega))).up9 (g := 3) (by omega) rfl).cg (fun f _ => ?_)⟩
        · rw [pm_up_n q4, pm_up_n q2, pm_up_n q3, pm_up_n q5, ey k q31 q37]
        · rw [pm_up_k (by omega), pm_up_j hj, pm_up_k (by omega), pm_up_k (by omega), ey 2 (by omega) (by omega)]
        · rw [pm_up_k (by omega), pm_up_s, pk_un (by omega), pk_us]
        · by_cases c3 : f = 3
          · rw [c3, ur_s, pk_us]
          · rw [ur_n c3, row1, pk_un (by omega), pk_un (by omega)]
      · have uX : usX n1 L1 t (V 170) = upd (us1 n1 L1 t (V 170)) 3 (lcg (V 170 3)) := by unfold usX; rw [if_neg c0, if_neg (fun z => c2 z.2)]
        rw [if_neg c2, b2_f (fun z => c2 z.2.2), uX]
        refine ⟨_, rfl, fun k q2 q3 q4 q5 q31 q37 => ?_, fun j hj => ?_, ?_, (cw1.o (fun a q1 q2 => pm_up_n (by omega))).cg (fun f _ => ?_)⟩
        · rw [pm_up_n q2, pm_up_n q3, pm_up_n q5, ey k q31 q37]
        · rw [pm_up_j hj, pm_up_k (by omega), pm_up_k (by omega), ey 2 (by omega) (by omega)]
        · rw [pm_up_s, pk_us]
        · rw [row1, pk_un (by omega)]
    · have uX : usX n1 L1 t (V 170) = upd (us1 n1 L1 t (V 170)) 3 (lcg (V 170 3)) := by unfold usX; rw [if_neg c0, if_neg (fun z => c1 z.1)]
      rw [if_neg c1, b2_f (fun z => c1 z.2.1), uX]
      refine ⟨_, rfl, fun k q2 q3 q4 q5 q31 q37 => ?_, fun j hj => ?_, ?_, (cw1.o (fun a q1 q2 => pm_up_n (by omega))).cg (fun f _ => ?_)⟩
      · rw [pm_up_n q2, pm_up_n q3, pm_up_n q5, ey k q31 q37]
      · rw [pm_up_j hj, pm_up_k (by omega), pm_up_k (by omega), ey 2 (by omega) (by omega)]
      · rw [pm_up_s, pk_us]
      · rw [row1, pk_un (by omega)]
theorem m_worn {d n1 t : Nat} {L1 : Nat → Ln} {m : pm_Hp} (hd : 7 ≤ d) (W : WT m t) (L : LW 1 n1 L1 m) (ht : t < 16) : ∃ m', pm_ev d 241 [.ref 169, .int (nI t)] m = some (b2 (ucX n1 L1 t (m 170)), m') ∧ (∀ k, k ≠ 170 → k ≠ 178 → k ≠ 179 → m' k = m k) ∧ m' 170 = usX n1 L1 t (m 170) := by
  obtain ⟨d, rfl, -⟩ := dpos hd
  have up_upd : ∀ (h : pm_Hp) (j : Nat) (v : Int32), pm_up h 170 j v 170 = upd (h 170) j v := fun h j v => funext fun x => by
    by_cases e : x = j
    · rw [e, pm_up_s, pk_us]
    · rw [pm_up_j e, pk_un e]
  obtain ⟨x1, a1, e1, f1⟩ := m_lays (d := d) (t := t) (h := m) (by omega) ht 0
  have e1' : ∀ k, k ≠ 179 → x1 k = m k := fun k hk => e1 k (by simp; omega)
  obtain ⟨x2, a2, e2⟩ := m_says (d := d) (k := 1) (w := 2) (n := n1) (Ls := L1) (h := x1) (by omega) (by omega) (by omega) (L.to (by omega) (e1' 170 (by omega)) (fun a q1 q2 _ => e1' a (by omega))) f1 0 (nI 1000)
  have e2' : ∀ k, k ≠ 178 → x2 k = x1 k := fun k hk => e2 k (by simp; omega)
  have f2 : ∀ k, 1 ≤ k → k ≤ 9 → x2 179 k = fct (m 170) t 0 0 0 0 (wq m t 3) k := fun k q1 q2 => by rw [e2' 179 (by omega)]; exact f1 k q1 q2
  obtain ⟨x3, a3, e3⟩ := m_says (d := d) (k := 1) (w := 3) (n := n1) (Ls := L1) (h := x2) (by omega) (by omega) (by omega) (L.to (by omega) (by rw [e2' 170 (by omega), e1' 170 (by omega)]) (fun a q1 q2 _ => by rw [e2' a (by omega), e1' a (by omega)])) f2 0 (nI 9)
  have e3' : ∀ k, k ≠ 178 → x3 k = x2 k := fun k hk => e3 k (by simp; omega)
  have a2 : pm_ev d 211 [.ref 169, .int 1, .int (nI 22), .int 0, .int (nI 1000)] x1 = some (dtr n1 L1 t (m 170), x2) := a2
  have a3 : pm_ev d 211 [.ref 169, .int 1, .int (nI 23), .int 0, .int (nI 9)] x2 = some (ddr n1 L1 t (m 170), x3) := a3
  have ex : ∀ k, k ≠ 178 → k ≠ 179 → x3 k = m k := fun k q1 q2 => by rw [e3' k q1, e2' k q1, e1' k q2]
  have x170 : x3 170 = m 170 := ex 170 (by omega) (by omega)
  rw [e_X10_isWornOut, a1, pm_bd_s, a2, pm_bd_s, a3, pm_bd_s, m_of0 (by omega) x3 (nI t) (nI 4) t 4 rfl rfl ht (by omega), pm_bd_s, wq_eq x170, m_lesser (by omega), pm_bd_s, m_things (by omega) _ (nI t) (nI 4) _ t 4 rfl rfl ht (by omega), pm_bd_s, m_of0 (by omega) _ (nI t) (nI 2) t 2 rfl rfl ht (by omega), pm_bd_s]
  rw [show wq (pm_up x3 170 (4 + 20 * t + 4) (if nI 999 < wq m t 4 + 1 then nI 999 else wq m t 4 + 1)) t 2 = m 170 (4 + 20 * t + 2) by rw [show wq (pm_up x3 170 (4 + 20 * t + 4) (if nI 999 < wq m t 4 + 1 then nI 999 else wq m t 4 + 1)) t 2 = x3 170 (4 + 20 * t + 2) from pm_up_j (by omega), x170]]
  rw [m_lesser (by omega), pm_bd_s, m_things (by omega) _ (nI t) (nI 2) _ t 2 rfl rfl ht (by omega), pm_bd_s]
  generalize hz : pm_up (pm_up x3 170 (4 + 20 * t + 4) (if nI 999 < wq m t 4 + 1 then nI 999 else wq m t 4 + 1)) 170 (4 + 20 * t + 2) (if nI 9 < m 170 (4 + 20 * t + 2) + ddr n1 L1 t (m 170) then nI 9 else m 170 (4 + 20 * t + 2) + ddr n1 L1 t (m 170)) = z
  have z170 : z 170 = us1 n1 L1 t (m 170) := by
    rw [← hz, up_upd, up_upd, x170]
    rfl
  have zo : ∀ k, k ≠ 170 → k ≠ 178 → k ≠ 179 → z k = m k := fun k q1 q2 q3 => by rw [← hz, pm_up_n q1, pm_up_n q1, ex k q2 q3]
  by_cases c0 : dtr n1 L1 t (m 170) = 0
  · rw [if_pos c0, b2_f (fun q => q.1 c0)]
    exact ⟨z, rfl, zo, by rw [z170]; exact (if_pos c0).symm⟩
  · rw [if_neg c0, n_draw (by omega), pm_bd_s, show z 170 3 = m 170 3 by rw [z170, us1_o (by omega) (by omega)]]
    have y170 : pm_up z 170 3 (lcg (m 170 3)) 170 = upd (us1 n1 L1 t (m 170)) 3 (lcg (m 170 3)) := by rw [up_upd, z170]
    have y3 : wq (pm_up z 170 3 (lcg (m 170 3))) t 3 = m 170 (4 + 20 * t + 3) := by
      show pm_up z 170 3 (lcg (m 170 3)) 170 (4 + 20 * t + 3) = _
      rw [y170, pk_un (by omega), us1_o (by omega) (by omega)]
    by_cases c1 : lcr (lcg (m 170 3)) < dtr n1 L1 t (m 170)
    · rw [if_pos c1, m_of0 (by omega) _ (nI t) (nI 3) t 3 rfl rfl ht (by omega), pm_bd_s, y3]
      obtain ⟨j, hj, ej⟩ := W.2.2.2.1
      have ej : m 170 (4 + 20 * t + 3) = nI j := ej
      by_cases c2 : m 170 (4 + 20 * t + 3) < nI 9
      · have uX : usX n1 L1 t (m 170) = upd (upd (us1 n1 L1 t (m 170)) 3 (lcg (m 170 3))) (4 + 20 * t + 3) (m 170 (4 + 20 * t + 3) + 1) := by unfold usX; rw [if_neg c0, if_pos ⟨c1, c2⟩]
        have l9 : (if nI 9 < m 170 (4 + 20 * t + 3) + 1 then nI 9 else m 170 (4 + 20 * t + 3) + 1) = m 170 (4 + 20 * t + 3) + 1 := by
          have c2' := c2
          rw [ej, nI_ltI (by omega) (by omega)] at c2'
          rw [ej, nI_1, if_neg (nI_nlt (by omega) (by omega))]
        rw [if_pos c2, m_of0 (by omega) _ (nI t) (nI 3) t 3 rfl rfl ht (by omega), pm_bd_s, y3, m_lesser (by omega), l9, pm_bd_s, m_things (by omega) _ (nI t) (nI 3) _ t 3 rfl rfl ht (by omega), pm_bd_s, b2_t ⟨c0, c1, c2⟩]
        exact ⟨_, rfl, fun k q1 q2 q3 => by rw [pm_up_n q1, pm_up_n q1, zo k q1 q2 q3], by rw [up_upd, y170, uX]⟩
      · have uX : usX n1 L1 t (m 170) = upd (us1 n1 L1 t (m 170)) 3 (lcg (m 170 3)) := by unfold usX; rw [if_neg c0, if_neg (fun z => c2 z.2)]
        have j9 : j = 9 := by
          rw [ej, nI_ltI (by omega) (by omega)] at c2
          omega
        have l9 : (if nI 9 < m 170 (4 + 20 * t + 3) + 1 then nI 9 else m 170 (4 + 20 * t + 3) + 1) = m 170 (4 + 20 * t + 3) := by
          rw [ej, j9, nI_1, if_pos (nI_lt (by omega) (by omega))]
        rw [if_neg c2, m_of0 (by omega) _ (nI t) (nI 3) t 3 rfl rfl ht (by omega), pm_bd_s, y3, m_lesser (by omega), l9, pm_bd_s, m_things (by omega) _ (nI t) (nI 3) _ t 3 rfl rfl ht (by omega), pm_bd_s, b2_f (fun z => c2 z.2.2)]
        refine ⟨_, rfl, fun k q1 q2 q3 => by rw [pm_up_n q1, pm_up_n q1, zo k q1 q2 q3], ?_⟩
        rw [up_upd, y170, uX]
        funext x
        by_cases ex : x = 4 + 20 * t + 3
        · rw [ex, pk_us, pk_un (by omega), us1_o (by omega) (by omega)]
        · rw [pk_un ex]
    · have uX : usX n1 L1 t (m 170) = upd (us1 n1 L1 t (m 170)) 3 (lcg (m 170 3)) := by unfold usX; rw [if_neg c0, if_neg (fun z => c1 z.1)]
      rw [if_neg c1, b2_f (fun z => c1 z.2.1)]
      exact ⟨_, rfl, fun k q1 q2 q3 => by rw [pm_up_n q1, zo k q1 q2 q3], by rw [y170, uX]⟩
