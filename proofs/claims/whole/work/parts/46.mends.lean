def mlp (ch : Nat → Option Nat) (ml : Nat → Int32) (sum : Int32) : Nat → Nat → Int32 → Nat × Int32
  | 0, s, p => (s, p)
  | n + 1, s, p => match ch s with
    | none => (s, p)
    | some t => if p + ml t ≤ sum then mlp ch ml sum n (s ||| 2 ^ t) (p + ml t) else (s, p)
def mrr (T : Nat) (x : Int32) (r : Nat × Int32) : Int32 := if x = 0 then nI (pcn r.1 T) else if x = 1 then nI r.1 else r.2
abbrev chs (h : pm_Hp) (n0 : Nat) (L0 : Nat → Ln) (T s : Nat) : Option Nat := itr (chp h n0 L0 s) 0 T none
theorem pcn_0 : ∀ T, pcn 0 T = 0 := by
  intro T
  induction T with
  | zero => rfl
  | succ n ih =>
    unfold pcn
    rw [Nat.zero_testBit, if_neg (by decide), ih]
theorem chs_full {h : pm_Hp} {n0 T s : Nat} {L0 : Nat → Ln} (hf : pcn s T = T) : chs h n0 L0 T s = none := by
  cases e : chs h n0 L0 T s with
  | none => rfl
  | some t =>
    obtain ⟨h1, -, h3⟩ := chp_ok T (Nat.le_refl _) e
    rw [pcn_full hf t h1] at h3
    cases h3
theorem c_mendsL {d T R A n0 n1 : Nat} {L0 L1 : Nat → Ln} {h g : pm_Hp} (hd : 2 ≤ d) (S : St T R A n0 n1 L0 L1 h) (hg : eqi SCR h g) (hr : ∀ t, t < T → g 38 t = if mb h t then mal (h 170) n0 L0 t else -1) (v x : Int32) : ∀ (n i s : Nat) (p : Int32) (u : Value), i + n = T → pcn s T = i → s < 2 ^ T → pm_rn d kX9_mends 40 [.ref 0, .int v, .int x, .int (nI i), .int (nI s), .int p, .int (nI i), u] [] g = some (mrr T x (mlp (chs h n0 L0 T) (mal (h 170) n0 L0) v n s p), g) := by
  have hT := S.1.1
  have hp : 2 ^ T ≤ 2 ^ 16 := Nat.pow_le_pow_right (by omega) hT
  have fin : ∀ (i s : Nat) (p : Int32), pcn s T = i → (if x = 0 then (some (nI i, g)) else (if x = 1 then (some (nI s, g)) else (some (p, g)))) = some (mrr T x (s, p), g) := fun i s p hi => by
    unfold mrr
    rw [hi]
    by_cases x0 : x = 0
    · rw [if_pos x0, if_pos x0]
    · rw [if_neg x0, if_neg x0]
      by_cases x1 : x = 1
      · rw [if_pos x1, if_pos x1]
      · rw [if_neg x1, if_neg x1]
  intro n
  induction n with
  | zero =>
    intro i s p u hi hc hs
    have hi : i = T := by omega
    rw [b_X9_mends_40, hg 1 (by decide), S.1.2.2.2.1, if_neg (nI_nlt (by omega) (by omega))]
    exact fin i s p hc
  | succ n ih =>
    intro i s p u hi hc hs
    have cc : pm_ev d 35 [.ref 1, .int (nI s)] g = some (o2 (chs h n0 L0 T s), g) := c_cheapest (by omega) S hg hr (by omega)
    rw [b_X9_mends_40, hg 1 (by decide), S.1.2.2.2.1, if_pos (nI_lt (by omega) (by omega)), cc, pm_bd_s]
    show _ = some (mrr T x (match chs h n0 L0 T s with
      | none => (s, p)
      | some t => if p + mal (h 170) n0 L0 t ≤ v then mlp (chs h n0 L0 T) (mal (h 170) n0 L0) v n (s ||| 2 ^ t) (p + mal (h 170) n0 L0 t) else (s, p)), g)
    cases e : chs h n0 L0 T s with
    | none =>
      rw [if_pos (show o2 none = -1 from rfl)]
      exact fin i s p hc
    | some t =>
      obtain ⟨ht, mt, bt⟩ := chp_ok T (Nat.le_refl _) e
      rw [if_neg (show ¬ o2 (some t) = -1 by show ¬ nI t = -1; rw [nI_m1 (by omega)]; exact id)]
      show pm_at (nI t) 16 _ = some (mrr T x (if p + mal (h 170) n0 L0 t ≤ v then mlp (chs h n0 L0 T) (mal (h 170) n0 L0) v n (s ||| 2 ^ t) (p + mal (h 170) n0 L0 t) else (s, p)), g)
      rw [pm_at_c (by omega) (by omega), hr t ht, if_pos mt]
      by_cases c : p + mal (h 170) n0 L0 t ≤ v
      · rw [if_pos c, if_pos c]
        show pm_at (nI t) 16 (fun j2 => pm_rn d kX9_mends 40 [.ref 0, .int v, .int x, .int (nI i + 1), .int (nI s ||| pm_shl 1 (nI t)), .int (p + g 38 j2), .int (nI i + 1), .int (nI t)] [] g) = _
        rw [pm_at_c (by omega) (by omega), hr t ht, if_pos mt, shl1 t (by omega), nI_or, nI_1]
        exact ih (i + 1) (s ||| 2 ^ t) _ _ (by omega) (by rw [pcn_add bt, if_pos ht, hc]) (add_lt hs ht)
      · rw [if_neg c, if_neg c]
        exact fin i s p hc
theorem m_mendsL {d T R A n0 n1 : Nat} {L0 L1 : Nat → Ln} {h g : pm_Hp} (hd : 5 ≤ d) (S : St T R A n0 n1 L0 L1 h) (hg : eqi SCR h g) (hr : ∀ t, t < T → g 184 t = mal (h 170) n0 L0 t) (v x : Int32) : ∀ (n i s : Nat) (p : Int32), i + n = T → pcn s T = i → s < 2 ^ T → pm_rn d kX10_mends 65 [.ref 169, .int v, .int x, .int (nI s), .int p, .int (o2 (chs h n0 L0 T s))] [] g = some (mrr T x (mlp (chs h n0 L0 T) (mal (h 170) n0 L0) v n s p), g) := by
  have hT := S.1.1
  have hp : 2 ^ T ≤ 2 ^ 16 := Nat.pow_le_pow_right (by omega) hT
  have fin : ∀ (s : Nat) (p : Int32), s < 2 ^ T → (if x = 0 then (pm_bd (pm_ev d 274 [.int (nI s)] g) fun r1 y1 => some (r1, y1)) else (if x = 1 then (some (nI s, g)) else (some (p, g)))) = some (mrr T x (s, p), g) := fun s p hs => by
    unfold mrr
    rw [m_count (by omega) (by omega), pm_bd_s, pcn_hi hs 16 hT]
    by_cases x0 : x = 0
    · rw [if_pos x0, if_pos x0]
    · rw [if_neg x0, if_neg x0]
      by_cases x1 : x = 1
      · rw [if_pos x1, if_pos x1]
      · rw [if_neg x1, if_neg x1]
  intro n
  induction n with
  | zero =>
    intro i s p hi hc hs
    rw [chs_full (by omega), b_X10_mends_65, if_pos (show o2 none = -1 from rfl)]
    exact fin s p hs
  | succ n ih =>
    intro i s p hi hc hs
    show _ = some (mrr T x (match chs h n0 L0 T s with
      | none => (s, p)
      | some t => if p + mal (h 170) n0 L0 t ≤ v then mlp (chs h n0 L0 T) (mal (h 170) n0 L0) v n (s ||| 2 ^ t) (p + mal (h 170) n0 L0 t) else (s, p)), g)
    cases e : chs h n0 L0 T s with
    | none =>
      rw [b_X10_mends_65, if_pos (show o2 none = -1 from rfl)]
      exact fin s p hs
    | some t =>
      obtain ⟨ht, mt, bt⟩ := chp_ok T (Nat.le_refl _) e
      rw [b_X10_mends_65, if_neg (show ¬ o2 (some t) = -1 by show ¬ nI t = -1; rw [nI_m1 (by omega)]; exact id)]
      show pm_at (nI t) 16 _ = some (mrr T x (if p + mal (h 170) n0 L0 t ≤ v then mlp (chs h n0 L0 T) (mal (h 170) n0 L0) v n (s ||| 2 ^ t) (p + mal (h 170) n0 L0 t) else (s, p)), g)
      rw [pm_at_c (by omega) (by omega), hr t ht]
      by_cases c : p + mal (h 170) n0 L0 t ≤ v
      · rw [if_pos c, if_pos c]
        show pm_at (nI t) 16 (fun j2 => pm_bd (pm_ev d 279 [.ref 169, .int (nI s ||| pm_shl 1 (nI t))] g) fun r2 y2 => pm_rn d kX10_mends 65 [.ref 169, .int v, .int x, .int (nI s ||| pm_shl 1 (nI t)), .int (p + g 184 j2), .int r2] [] y2) = _
        have hs2 := add_lt hs ht
        rw [pm_at_c (by omega) (by omega), hr t ht, shl1 t (by omega), nI_or, m_cheapest (by omega) S hg hr (by omega), pm_bd_s]
        exact ih (i + 1) (s ||| 2 ^ t) _ (by omega) (by rw [pcn_add bt, if_pos ht, hc]) hs2
      · rw [if_neg c, if_neg c]
        exact fin s p hs
theorem q_mends {d T R A n0 n1 : Nat} {L0 L1 : Nat → Ln} {h : pm_Hp} (hd : 12 ≤ d) (S : St T R A n0 n1 L0 L1 h) (v x : Int32) : QE d 147 280 [.int v, .int x] h := by
  obtain ⟨d, rfl, -⟩ := dpos hd
  have hT := S.1.1
  have c0 : pm_ev (d + 1) 147 [.ref 0, .int v, .int x] h = if ¬ v < 0 ∧ v ≤ nI 99999 then (if ¬ x < 0 ∧ x ≤ nI 2 then (pm_bd (pm_ev d 34 [.ref 1] h) fun _ y1 => pm_rn d kX9_mends 40 [.ref 0, .int v, .int x, .int 0, .int 0, .int 0, .int 0, .null] [] y1) else some (-1, h)) else some (-1, h) := by
    rw [e_X9_mends]
    by_cases a1 : v < 0 <;> by_cases a2 : v ≤ nI 99999 <;> by_cases a3 : x < 0 <;> by_cases a4 : x ≤ nI 2 <;> simp only [a1, a2, a3, a4, if_true, if_false, not_true_eq_false, not_false_eq_true, and_true, and_false]
  by_cases hv : ¬ v < 0 ∧ v ≤ nI 99999
  · by_cases hx : ¬ x < 0 ∧ x ≤ nI 2
    · obtain ⟨g1, e1, e2, e3⟩ := c_priceMending (d := d) (by omega) S
      have s1 : eqi SCR h g1 := e2.mono (by decide)
      have z := pcn_0 T
      have mk : ∀ (n i : Nat) (g : pm_Hp) (u u' : Value), i + n = T → eqi SCR h g → (∀ t, t < i → g 184 t = mal (h 170) n0 L0 t) → ∃ g', pm_rn d kX10_mends 24 [.ref 169, .int v, .int x, .int (nI i), u, u'] [] g = some (mrr T x (mlp (chs h n0 L0 T) (mal (h 170) n0 L0) v T 0 0), g') ∧ eqi SCR h g' := by
        intro n
        induction n with
        | zero =>
          intro i g u u' hi hg hr
          have hi : i = T := by omega
          subst hi
          refine ⟨g, ?_, hg⟩
          have mc := m_cheapest (d := d) (s := 0) (by omega) S hg hr (by omega)
          have mc : pm_ev d 279 [.ref 169, .int 0] g = _ := mc
          rw [b_X10_mends_24, hg 170 (by decide), S.1.2.2.1, if_neg (nI_nlt (by omega) (by omega)), mc, pm_bd_s]
          exact m_mendsL (d := d) (by omega) S hg hr v x i 0 0 0 (by omega) z (Nat.two_pow_pos _)
        | succ n ih =>
          intro i g u u' hi hg hr
          obtain ⟨y, f1, f2⟩ := m_mendAll (d := d) (by omega) (S.scr hg) (show i < T by omega)
          have hy := hg.tr (f2.mono (by decide))
          rw [b_X10_mends_24, hg 170 (by decide), S.1.2.2.1, if_pos (nI_lt (by omega) (by omega)), f1, pm_bd_s, pm_at_c (by omega) (by omega), nI_1, hg 170 (by decide)]
          refine ih (i + 1) _ u u' (by omega) (hy.up (by decide)) (fun t ht => ?_)
          by_cases e : t = i
          · subst e; rw [pm_up_s]
          · rw [pm_up_j e, f2 184 (by decide)]; exact hr t (by omega)
      obtain ⟨g2, f1, f2⟩ := mk T 0 g1 .null .null (by omega) s1 (fun t ht => absurd ht (Nat.not_lt_zero t))
      refine ⟨mrr T x (mlp (chs h n0 L0 T) (mal (h 170) n0 L0) v T 0 0), g1, g2, ?_, ?_, f2⟩
      · refine c0.trans ?_
        rw [if_pos hv, if_pos hx, e1, pm_bd_s]
        exact c_mendsL (d := d) (by omega) S s1 e3 v x T 0 0 0 .null (by omega) z (Nat.two_pow_pos _)
      · rw [e_X10_mends, m_isIn (by omega), pm_bd_s, b2_t hv, if_neg (by decide), m_isIn (by omega), pm_bd_s, b2_t hx, if_neg (by decide)]
        exact f1
    · refine QE.mk (r := -1) (c0.trans ?_) ?_
      · rw [if_pos hv, if_neg hx]
      · rw [e_X10_mends, m_isIn (by omega), pm_bd_s, b2_t hv, if_neg (by decide), m_isIn (by omega), pm_bd_s, b2_f hx, if_pos rfl]
  · refine QE.mk (r := -1) (c0.trans ?_) ?_
    · rw [if_neg hv]
    · rw [e_X10_mends, m_isIn (by omega), pm_bd_s, b2_f hv, if_pos rfl]
