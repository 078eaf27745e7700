/-! THE CLASS'S TOKENS -/
abbrev KB (k : Nat) : Int32 := (bytJS.getD 0 []).getD k 0
theorem chrK {d k : Nat} {h : pm_Hp} (hd : 2 ≤ d) (hk : k < 122) : pm_ev d 300 [.ref 400, .int (nI k)] h = some (KB k, h) := chr_400 hd hk
def layB : Nat → List (List Nat) → Bool
  | k, [] => decide (k = 122)
  | k, w :: l => (List.range w.length).all (fun x => decide (KB (k + x) = nI (w.getD x 0)) && decide (w.getD x 0 ≠ 32) && decide (w.getD x 0 < 256)) && decide (KB (k + w.length) = nI 32) && layB (k + w.length + 1) l
theorem lay_kwl : layB 0 kwl = true := by decide +kernel
theorem lay_le : ∀ (l : List (List Nat)) (k : Nat), layB k l = true → k ≤ 122 := by
  intro l
  induction l with
  | nil => intro k h; have : k = 122 := of_decide_eq_true h; omega
  | cons w l ih =>
    intro k h
    unfold layB at h
    rw [Bool.and_eq_true] at h
    have := ih _ h.2
    omega
theorem wbs_len {tp : Nat → Nat} {p k : Nat} : (wbs tp p k).length = k := by unfold wbs; rw [List.length_map, List.length_range]
theorem wbs_at {tp : Nat → Nat} {p k x : Nat} (hx : x < k) : (wbs tp p k).getD x 0 = tp (p + x) := by
  unfold wbs
  rw [List.getD_eq_getElem?_getD, List.getElem?_map, List.getElem?_range hx]
  rfl
theorem wbs_eq {tp : Nat → Nat} {p k : Nat} {w : List Nat} : wbs tp p k = w ↔ k = w.length ∧ ∀ x, x < k → tp (p + x) = w.getD x 0 := by
  constructor
  · intro h
    subst h
    rw [wbs_len]
    exact ⟨rfl, fun x hx => (wbs_at hx).symm⟩
  · rintro ⟨h1, h2⟩
    refine List.ext_getElem (by rw [wbs_len, h1]) (fun i h3 h4 => ?_)
    have a := h2 i (by omega)
    have b := wbs_at (tp := tp) (p := p) (k := k) (x := i) (by omega)
    rw [List.getD_eq_getElem?_getD, List.getElem?_eq_getElem h3] at b
    rw [List.getD_eq_getElem?_getD, List.getElem?_eq_getElem h4] at a
    simp only [Option.getD_some] at a b
    rw [b, a]
abbrev alk (tp : Nat → Nat) (p e : Nat) (w : List Nat) (o : Nat) : Prop := o ≤ e - p ∧ ∀ x, x < o → tp (p + x) = w.getD x 0
theorem c_kwW {d n p e k wd : Nat} {tp : Nat → Nat} {h : pm_Hp} {w : List Nat} (hd : 2 ≤ d) (et : ∀ i, i < n → h 134 i = nI (tp i)) (hb : ∀ i, tp i < 256) (hp : p < e) (he : e ≤ n) (hn : n ≤ 400) (hw : ∀ x, x < w.length → KB (k + x) = nI (w.getD x 0) ∧ w.getD x 0 ≠ 32 ∧ w.getD x 0 < 256) (h32 : KB (k + w.length) = nI 32) (hk : k + w.length < 122) : ∀ (m o : Nat) (u : Value), o + m = w.length → pm_rn d kX5_keyword 13 [.ref 133, .int (nI p), .int (nI e), .int (nI wd), .int (nI (p + o)), .int (b2 (alk tp p e w o)), .int (nI (k + o)), u] [] h = if wbs tp p (e - p) = w then some (nI wd, h) else pm_rn d kX5_keyword 13 [.ref 133, .int (nI p), .int (nI e), .int (nI (wd + 1)), .int (nI p), .int 1, .int (nI (k + w.length + 1)), .int (nI 32)] [] h := by
  intro m
  induction m with
  | zero =>
    intro o u ho
    have ho : o = w.length := by omega
    subst ho
    rw [b_X5_keyword_13, len_400 hd, pm_bd_s, if_pos (nI_lt (by omega) (by omega)), chrK hd (by omega), pm_bd_s, h32, if_pos rfl, nI_1, nI_1]
    by_cases g : alk tp p e w w.length
    · rw [b2_t g, if_neg (by decide), nI_ite (by omega) (by omega)]
      by_cases g2 : p + w.length = e
      · rw [if_pos g2, if_pos (wbs_eq.mpr ⟨by omega, fun x hx => g.2 x (by omega)⟩)]
      · rw [if_neg g2, if_neg (fun z => g2 (by have := (wbs_eq.mp z).1; omega))]
    · rw [b2_f g, if_pos rfl, if_neg (fun z => g ⟨by have := (wbs_eq.mp z).1; omega, fun x hx => (wbs_eq.mp z).2 x (by have := (wbs_eq.mp z).1; omega)⟩)]
  | succ m ih =>
    intro o u ho
    obtain ⟨w1, w2, w3⟩ := hw o (by omega)
    have ih1 := fun u => ih (o + 1) u (by omega)
    rw [b_X5_keyword_13, len_400 hd, pm_bd_s, if_pos (nI_lt (by omega) (by omega)), chrK hd (by omega), pm_bd_s, w1, if_neg (fun z => w2 ((nI_eq (by omega) (by omega)).mp z)), nI_1, nI_1]
    by_cases g : alk tp p e w o
    · rw [b2_t g, if_neg (by decide), ltn_ite (by omega) (by omega)]
      by_cases g2 : p + o < e
      · rw [if_pos g2, pm_at_c (by omega) (by omega), et _ (by omega), nI_ite (by have := hb (p + o); omega) (by omega)]
        by_cases g3 : tp (p + o) = w.getD o 0
        · rw [if_pos g3]
          have := ih1 (.int (nI (w.getD o 0)))
          rw [b2_t (show alk tp p e w (o + 1) from ⟨by omega, fun x hx => by
            by_cases ex : x = o
            · rw [ex]; exact g3
            · exact g.2 x (by omega)⟩)] at this
          exact this
        · rw [if_neg g3]
          have := ih1 (.int (nI (w.getD o 0)))
          rw [b2_f (show ¬ alk tp p e w (o + 1) from fun z => g3 (z.2 o (by omega)))] at this
          exact this
      · rw [if_neg g2]
        have := ih1 (.int (nI (w.getD o 0)))
        rw [b2_f (show ¬ alk tp p e w (o + 1) from fun z => by have := z.1; omega)] at this
        exact this
    · rw [b2_f g, if_pos rfl]
      have := ih1 (.int (nI (w.getD o 0)))
      rw [b2_f (show ¬ alk tp p e w (o + 1) from fun z => g ⟨by have := z.1; omega, fun x hx => z.2 x (by omega)⟩)] at this
      exact this
theorem c_kwL {d n p e : Nat} {tp : Nat → Nat} {h : pm_Hp} (hd : 2 ≤ d) (et : ∀ i, i < n → h 134 i = nI (tp i)) (hb : ∀ i, tp i < 256) (hp : p < e) (he : e ≤ n) (hn : n ≤ 400) : ∀ (l : List (List Nat)) (k wd : Nat) (u : Value), layB k l = true → pm_rn d kX5_keyword 13 [.ref 133, .int (nI p), .int (nI e), .int (nI wd), .int (nI p), .int 1, .int (nI k), u] [] h = some (nI (kwi (wbs tp p (e - p)) l wd), h) := by
  intro l
  induction l with
  | nil =>
    intro k wd u hl
    have hk : k = 122 := of_decide_eq_true hl
    subst hk
    rw [b_X5_keyword_13, len_400 hd, pm_bd_s, if_neg (nI_nlt (by omega) (by omega))]
    rfl
  | cons w l ih =>
    intro k wd u hl
    have hl0 := hl
    unfold layB at hl
    rw [Bool.and_eq_true, Bool.and_eq_true] at hl
    have le := lay_le _ _ hl.2
    have hw : ∀ x, x < w.length → KB (k + x) = nI (w.getD x 0) ∧ w.getD x 0 ≠ 32 ∧ w.getD x 0 < 256 := fun x hx => by
      have := List.all_eq_true.mp hl.1.1 x (List.mem_range.mpr hx)
      rw [Bool.and_eq_true, Bool.and_eq_true, decide_eq_true_iff, decide_eq_true_iff, decide_eq_true_iff] at this
      exact ⟨this.1.1, this.1.2, this.2⟩
    have := c_kwW (d := d) (n := n) (p := p) (e := e) (k := k) (wd := wd) (w := w) hd et hb hp he hn hw (of_decide_eq_true hl.1.2) (by omega) w.length 0 u (by omega)
    rw [b2_t (show alk tp p e w 0 from ⟨by omega, fun x hx => absurd hx (Nat.not_lt_zero x)⟩)] at this
    refine Eq.trans this ?_
    unfold kwi
    by_cases g : wbs tp p (e - p) = w
    · rw [if_pos g, if_pos g]
    · rw [if_neg g, if_neg g]
      exact ih (k + w.length + 1) (wd + 1) _ hl.2
theorem c_keyword {d n p e : Nat} {tp : Nat → Nat} {h : pm_Hp} (hd : 3 ≤ d) (et : ∀ i, i < n → h 134 i = nI (tp i)) (hb : ∀ i, tp i < 256) (hp : p < e) (he : e ≤ n) (hn : n ≤ 400) : pm_ev d 83 [.ref 133, .int (nI p), .int (nI e)] h = some (nI (kwi (wbs tp p (e - p)) kwl 200), h) := by
  obtain ⟨d, rfl, -⟩ := dpos hd
  rw [e_X5_keyword]
  exact c_kwL (by omega) et hb hp he hn kwl 0 200 _ lay_kwl
theorem nm_lt {tp : Nat → Nat} {p : Nat} : ∀ (k : Nat), (∀ x, x < k → isD (tp (p + x))) → nm tp p k < 10 ^ k := by
  intro k
  induction k with
  | zero => intro _; exact Nat.one_pos
  | succ k ih =>
    intro h
    have a := ih (fun x hx => h x (by omega))
    have b := h k (by omega)
    show nm tp p k * 10 + (tp (p + k) - 48) < 10 ^ (k + 1)
    rw [Nat.pow_succ]
    omega
theorem nm_9999 {tp : Nat → Nat} {p k : Nat} (hk : k ≤ 4) (h : ∀ x, x < k → isD (tp (p + x))) : nm tp p k ≤ 9999 := by
  have := nm_lt k h
  have : 10 ^ k ≤ 10 ^ 4 := Nat.pow_le_pow_right (by omega) hk
  omega
theorem c_number {d n p e : Nat} {tp : Nat → Nat} {h : pm_Hp} (hd : 1 ≤ d) (et : ∀ i, i < n → h 134 i = nI (tp i)) (hb : ∀ i, tp i < 256) (hp : p < e) (he : e ≤ n) (hn : n ≤ 400) (hdg : ∀ x, x < e - p → isD (tp (p + x))) : pm_ev d 82 [.ref 133, .int (nI p), .int (nI e)] h = some (nI (nm tp p (min (e - p) 4)), h) := by
  obtain ⟨d, rfl, -⟩ := dpos hd
  rw [e_X5_number]
  have key : ∀ (m k : Nat), k + m = min (e - p) 4 → pm_rn d kX5_number 5 [.ref 133, .int (nI p), .int (nI e), .int (nI (nm tp p k)), .int (nI (p + k))] [] h = some (nI (nm tp p (min (e - p) 4)), h) := by
    intro m
    induction m with
    | zero =>
      intro k hk
      rw [b_X5_number_5, ltn_ite (by omega) (by omega), nI_add, ltn_ite (by omega) (by omega)]
      by_cases g : p + k < e
      · rw [if_pos g, if_neg (by omega), show k = min (e - p) 4 by omega]
      · rw [if_neg g, show k = min (e - p) 4 by omega]
    | succ m ih =>
      intro k hk
      have dg := hdg k (by omega)
      rw [b_X5_number_5, ltn_ite (by omega) (by omega), nI_add, ltn_ite (by omega) (by omega), if_pos (by omega), if_pos (by omega), pm_at_c (by omega) (by omega), et _ (by omega), pk_mul, nI_add, pk_sub (by omega), nI_1]
      have := ih (k + 1) (by omega)
      rw [show nm tp p (k + 1) = nm tp p k * 10 + tp (p + k) - 48 by show nm tp p k * 10 + (tp (p + k) - 48) = _; omega] at this
      exact this
  exact key (min (e - p) 4) 0 (by omega)
theorem rne_all {q : Nat → Prop} [DecidablePred q] {tp : Nat → Nat} {n : Nat} : ∀ (f p x : Nat), p ≤ x → x < rne q tp n f p → q (tp x) := by
  intro f
  induction f with
  | zero => intro p x h1 h2; exact absurd h2 (by show ¬ x < p; omega)
  | succ f ih =>
    intro p x h1 h2
    unfold rne at h2
    by_cases g : p < n ∧ q (tp p)
    · rw [if_pos g] at h2
      by_cases e : x = p
      · rw [e]; exact g.2
      · exact ih (p + 1) x (by omega) h2
    · rw [if_neg g] at h2; omega
theorem c_runL {d n : Nat} {tp : Nat → Nat} {h : pm_Hp} (hd : 1 ≤ d) (et : ∀ i, i < n → h 134 i = nI (tp i)) (hb : ∀ i, tp i < 256) (hn : n ≤ 400) (e1 : h 133 1 = nI n) (u : Value) : ∀ (m s : Nat), n - s = m → s ≤ n → pm_rn d kX5_runEnd 34 [.ref 133, u, .int 1, .int (nI s)] [] h = some (nI (rnE isL tp n s), h) ∧ pm_rn d kX5_runEnd 34 [.ref 133, u, .int 0, .int (nI s)] [] h = some (nI (rnE isD tp n s), h) := by
  intro m
  induction m with
  | zero =>
    intro s hs hs2
    rw [b_X5_runEnd_34, b_X5_runEnd_34, e1, if_neg (nI_nlt (by omega) (by omega)), if_neg (nI_nlt (by omega) (by omega)), show rnE isL tp n s = s from rne_e (by omega), show rnE isD tp n s = s from rne_e (by omega)]
    exact ⟨rfl, rfl⟩
  | succ m ih =>
    intro s hs hs2
    obtain ⟨i1, i2⟩ := ih (s + 1) (by omega) (by omega)
    constructor
    · rw [b_X5_runEnd_34, e1, if_pos (nI_lt (by omega) (by omega)), if_neg (by decide), pm_at_c (by omega) (by omega), et s (by omega), c_isLetter hd (hb s), pm_bd_s, nI_1]
      by_cases g : isL (tp s)
      · rw [b2_t g, if_neg (by decide), i1, show rnE isL tp n s = rnE isL tp n (s + 1) from rne_s (by omega) g]
      · rw [b2_f g, if_pos rfl, show rnE isL tp n s = s from rne_e (fun z => g z.2)]
    · rw [b_X5_runEnd_34, e1, if_pos (nI_lt (by omega) (by omega)), if_pos rfl, pm_at_c (by omega) (by omega), et s (by omega), c_isDigit hd (hb s), pm_bd_s, nI_1]
      by_cases g : isD (tp s)
      · rw [b2_t g, if_neg (by decide), i2, show rnE isD tp n s = rnE isD tp n (s + 1) from rne_s (by omega) g]
      · rw [b2_f g, if_pos rfl, show rnE isD tp n s = s from rne_e (fun z => g z.2)]
theorem c_runEnd {d n p : Nat} {tp : Nat → Nat} {h : pm_Hp} (hd : 2 ≤ d) (et : ∀ i, i < n → h 134 i = nI (tp i)) (hb : ∀ i, tp i < 256) (hn : n ≤ 400) (e1 : h 133 1 = nI n) (hp : p < n) : pm_ev d 79 [.ref 133, .int (nI p)] h = some (nI (if isL (tp p) then rnE isL tp n p else if isD (tp p) then rnE isD tp n p else p + 1), h) := by
  obtain ⟨d, rfl, -⟩ := dpos hd
  rw [e_X5_runEnd, pm_at_c (by omega) (by omega), et p hp, c_isLetter (by omega) (hb p), pm_bd_s, nI_1]
  by_cases g : isL (tp p)
  · rw [b2_t g, if_neg (by decide), if_pos g, (c_runL (by omega) et hb hn e1 _ _ (p + 1) rfl (by omega)).1, show rnE isL tp n p = rnE isL tp n (p + 1) from rne_s hp g]
  · rw [b2_f g, if_pos rfl, if_neg g, pm_at_c (by omega) (by omega), et p hp, c_isDigit (by omega) (hb p), pm_bd_s]
    by_cases g2 : isD (tp p)
    · rw [b2_t g2, if_neg (by decide), if_pos g2, (c_runL (by omega) et hb hn e1 _ _ (p + 1) rfl (by omega)).2, show rnE isD tp n p = rnE isD tp n (p + 1) from rne_s hp g2]
    · rw [b2_f g2, if_pos rfl, if_neg g2]
/-- the tokens laid in the class's rows up to i -/
def TKR (tp : Nat → Nat) (n i : Nat) (h : pm_Hp) : Prop := ∀ x, x < i → h 147 x = nI (tks tp n x).1 ∧ h 148 x = nI (tks tp n x).2.1 ∧ h 149 x = nI (tks tp n x).2.2.1
theorem c_addTok {d i n : Nat} {tp : Nat → Nat} {g : pm_Hp} (hd : 1 ≤ d) (hi : i ≤ 400) (e : g 133 9 = nI i) (R : TKR tp n i g) {t p v : Nat} (ht : (tks tp n i).1 = t ∧ (tks tp n i).2.1 = p ∧ (tks tp n i).2.2.1 = v) : ∃ g', pm_ev d 78 [.ref 133, .int (nI t), .int (nI p), .int (nI v)] g = some (0, g') ∧ (∀ k, k ≠ 133 → k ≠ 147 → k ≠ 148 → k ≠ 149 → g' k = g k) ∧ (∀ j, j ≠ 9 → g' 133 j = g 133 j) ∧ g' 133 9 = nI (i + 1) ∧ TKR tp n (i + 1) g' := by
  obtain ⟨d, rfl, -⟩ := dpos hd
  rw [e_X5_addToken, e, if_pos (nI_le hi (by omega)), pm_at_c (by omega) (by omega), pm_at_c (by omega) (by omega), pm_at_c (by omega) (by omega), nI_1]
  refine ⟨_, rfl, fun k h1 h2 h3 h4 => by rw [pm_up_n h1, pm_up_n h4, pm_up_n h3, pm_up_n h2], fun j hj => by rw [pm_up_j hj, pm_up_k (by omega), pm_up_k (by omega), pm_up_k (by omega)], pm_up_s, fun x hx => ?_⟩
  by_cases ex : x = i
  · subst ex
    refine ⟨?_, ?_, ?_⟩
    · rw [pm_up_k (by omega), pm_up_k (by omega), pm_up_k (by omega), pm_up_s, ht.1]
    · rw [pm_up_k (by omega), pm_up_k (by omega), pm_up_s, ht.2.1]
    · rw [pm_up_k (by omega), pm_up_s, ht.2.2]
  · obtain ⟨r1, r2, r3⟩ := R x (by omega)
    refine ⟨?_, ?_, ?_⟩
    · rw [pm_up_k (by omega), pm_up_k (by omega), pm_up_k (by omega), pm_up_j ex]; exact r1
    · rw [pm_up_k (by omega), pm_up_k (by omega), pm_up_j ex, pm_up_k (by omega)]; exact r2
    · rw [pm_up_k (by omega), pm_up_j ex, pm_up_k (by omega), pm_up_k (by omega)]; exact r3
theorem c_scanL {d n : Nat} {tp : Nat → Nat} {h : pm_Hp} (hd : 6 ≤ d) (et : ∀ i, i < n → h 134 i = nI (tp i)) (hb : ∀ i, tp i < 256) (hn : n ≤ 400) (e1 : h 133 1 = nI n) : ∀ (m p i : Nat) (g : pm_Hp) (u2 u3 : Value), n - p ≤ m → p ≤ n → i ≤ p → tkF tp n p = tks tp n i → (∀ x, x < i → (tks tp n x).1 ≠ 0) → (∀ k, k ≠ 133 → k ≠ 147 → k ≠ 148 → k ≠ 149 → g k = h k) → (∀ j, j ≠ 9 → j ≠ 10 → g 133 j = h 133 j) → g 133 10 = 0 → g 133 9 = nI i → TKR tp n i g → ∃ K g', pm_rn d kX5_scan 12 [.ref 133, .int (nI p), u2, u3] [] g = some (0, g') ∧ K ≤ 400 ∧ (∀ x, x < K → (tks tp n x).1 ≠ 0) ∧ tks tp n K = (0, n, 0, n) ∧ (∀ k, k ≠ 133 → k ≠ 147 → k ≠ 148 → k ≠ 149 → g' k = h k) ∧ (∀ j, j ≠ 9 → j ≠ 10 → g' 133 j = h 133 j) ∧ g' 133 10 = 0 ∧ g' 133 9 = nI (K + 1) ∧ TKR tp n (K + 1) g' := by
  intro m
  induction m with
  | zero =>
    intro p i g u2 u3 hm hp hi ht hne g1 g2 g3 g4 R
    have e2 : g 133 1 = nI n := by rw [g2 1 (by omega) (by omega)]; exact e1
    have tk := tkF_end (tp := tp) (show n ≤ p by omega)
    rw [ht] at tk
    obtain ⟨g', a1, a2, a3, a4, a5⟩ := c_addTok (d := d) (i := i) (n := n) (tp := tp) (g := g) (t := 0) (p := n) (v := 0) (by omega) (by omega) g4 R (by rw [tk]; exact ⟨rfl, rfl, rfl⟩)
    refine ⟨i, g', ?_, by omega, hne, tk, fun k q1 q2 q3 q4 => (a2 k q1 q2 q3 q4).trans (g1 k q1 q2 q3 q4), fun j q1 q2 => (a3 j q1).trans (g2 j q1 q2), (a3 10 (by omega)).trans g3, a4, a5⟩
    rw [b_X5_scan_12, e2, if_neg (nI_nlt (by omega) (by omega))]
    have a1 : pm_ev d 78 [.ref 133, .int 0, .int (nI n), .int 0] g = some (0, g') := a1
    rw [a1, pm_bd_s]
  | succ m ih =>
    intro p i g u2 u3 hm hp hi ht hne g1 g2 g3 g4 R
    have e2 : g 133 1 = nI n := by rw [g2 1 (by omega) (by omega)]; exact e1
    by_cases hpn : p < n
    · have et2 : ∀ x, x < n → g 134 x = nI (tp x) := fun x hx => by rw [g1 134 (by omega) (by omega) (by omega) (by omega)]; exact et x hx
      rw [b_X5_scan_12, e2, if_pos (nI_lt hpn (by omega)), c_runEnd (by omega) et2 hb hn e2 hpn, pm_bd_s, pm_at_c (by omega) (by omega), et2 p hpn, c_isLetter (by omega) (hb p), pm_bd_s, nI_1]
      have nxt : ∀ (t v q : Nat) (u2 u3 : Value), ¬ isSp (tp p) → tkA tp n p = (t, p, v, q) → ∃ K g', (pm_bd (pm_ev d 78 [.ref 133, .int (nI t), .int (nI p), .int (nI v)] g) fun _ y => pm_bd (pm_ev d 297 [.int (nI q), .int (nI (p + 1))] y) fun r8 y8 => pm_rn d kX5_scan 12 [.ref 133, .int r8, u2, u3] [] y8) = some (0, g') ∧ K ≤ 400 ∧ (∀ x, x < K → (tks tp n x).1 ≠ 0) ∧ tks tp n K = (0, n, 0, n) ∧ (∀ k, k ≠ 133 → k ≠ 147 → k ≠ 148 → k ≠ 149 → g' k = h k) ∧ (∀ j, j ≠ 9 → j ≠ 10 → g' 133 j = h 133 j) ∧ g' 133 10 = 0 ∧ g' 133 9 = nI (K + 1) ∧ TKR tp n (K + 1) g' := fun t v q u2 u3 hs hA => by
        have tk := tkF_tk (tp := tp) hpn hs
        rw [ht, hA] at tk
        obtain ⟨n1, n2, n3⟩ := tkA_nx (tp := tp) hpn
        have ps := tkA_pos (tp := tp) (n := n) (p := p)
        rw [hA] at n1 n2 ps
        have n1 : p < q := n1
        have n2 : q ≤ n := n2
        have ps : 0 < t := ps
        obtain ⟨g', a1, a2, a3, a4, a5⟩ := c_addTok (d := d) (i := i) (n := n) (tp := tp) (g := g) (t := t) (p := p) (v := v) (by omega) (by omega) g4 R (by rw [tk]; exact ⟨rfl, rfl, rfl⟩)
        rw [a1, pm_bd_s, e_max (by omega), pm_bd_s, max_nI (by omega) (by omega), show max q (p + 1) = q by omega]
        refine ih q (i + 1) g' u2 u3 (by omega) n2 (by omega) ?_ (fun x hx => ?_) (fun k q1 q2 q3 q4 => (a2 k q1 q2 q3 q4).trans (g1 k q1 q2 q3 q4)) (fun j q1 q2 => (a3 j q1).trans (g2 j q1 q2)) ((a3 10 (by omega)).trans g3) a4 a5
        · show tkF tp n q = tkF tp n (tks tp n i).2.2.2
          rw [tk]
        · by_cases ex : x = i
          · rw [ex, tk]; show t ≠ 0; omega
          · exact hne x (by omega)
      by_cases gl : isL (tp p)
      · have ge : p < rnE isL tp n p := by
          rw [show rnE isL tp n p = rnE isL tp n (p + 1) from rne_s hpn gl]
          exact rne_ge _ _
        rw [b2_t gl, if_neg (by decide), if_pos gl, c_keyword (by omega) et2 hb ge (rne_le _ _ (by omega)) hn, pm_bd_s]
        exact nxt _ 0 _ _ _ (by unfold isSp; unfold isL at gl; omega) (by unfold tkA; rw [if_pos gl])
      · rw [b2_f gl, if_pos rfl, if_neg gl, c_isDigit (by omega) (hb p), pm_bd_s]
        by_cases gd : isD (tp p)
        · have ge : p < rnE isD tp n p := by
            rw [show rnE isD tp n p = rnE isD tp n (p + 1) from rne_s hpn gd]
            exact rne_ge _ _
          have le : rnE isD tp n p ≤ n := rne_le _ _ (by omega)
          have dg : ∀ x, x < rnE isD tp n p - p → isD (tp (p + x)) := fun x hx => rne_all (n := n) (n - p) p (p + x) (by omega) (show p + x < rnE isD tp n p by omega)
          have num := c_number (d := d) (h := g) (by omega) et2 hb ge le hn dg
          rw [b2_t gd, if_neg (by decide), if_pos gd, pk_sub (by omega), len_ite (by omega) (by omega)]
          by_cases g4' : rnE isD tp n p - p ≤ 4
          · rw [if_pos g4', num, pm_bd_s]
            exact nxt 2 _ _ _ _ (by unfold isSp; unfold isD at gd; omega) (by unfold tkA; rw [if_neg gl, if_pos gd, if_pos g4'])
          · rw [if_neg g4', num, pm_bd_s]
            exact nxt 1 _ _ _ _ (by unfold isSp; unfold isD at gd; omega) (by unfold tkA; rw [if_neg gl, if_pos gd, if_neg g4'])
        · rw [b2_f gd, if_pos rfl, if_neg gd]
          have hb2 := hb p
          by_cases s1 : tp p = 32
          · rw [if_pos (by rw [s1]), e_max (by omega), pm_bd_s, max_nI (by omega) (by omega), show max (p + 1) (p + 1) = p + 1 by omega]
            exact ih (p + 1) i g _ _ (by omega) (by omega) (by omega) (by rw [← tkF_sp hpn (Or.inl s1)]; exact ht) hne g1 g2 g3 g4 R
          · rw [if_neg (fun z => s1 ((nI_eq (by omega) (by omega)).mp z))]
            by_cases s2 : tp p = 10
            · rw [if_pos (by rw [s2]), e_max (by omega), pm_bd_s, max_nI (by omega) (by omega), show max (p + 1) (p + 1) = p + 1 by omega]
              exact ih (p + 1) i g _ _ (by omega) (by omega) (by omega) (by rw [← tkF_sp hpn (Or.inr s2)]; exact ht) hne g1 g2 g3 g4 R
            · rw [if_neg (fun z => s2 ((nI_eq (by omega) (by omega)).mp z))]
              obtain ⟨r, x1, x2⟩ := e_sign (d := d) (h := g) (by omega) (hb p)
              rw [x1, pm_bd_s]
              by_cases sg : isSg (tp p)
              · rw [if_neg (fun z => x2.mp z sg)]
                exact nxt (tp p) 0 (p + 1) _ _ (by unfold isSp; omega) (by unfold tkA; rw [if_neg gl, if_neg gd, if_pos sg])
              · rw [if_pos (x2.mpr sg)]
                exact nxt 1 0 (p + 1) _ _ (by unfold isSp; omega) (by unfold tkA; rw [if_neg gl, if_neg gd, if_neg sg])
    · have hpe : p = n := by omega
      have tk := tkF_end (tp := tp) (show n ≤ p by omega)
      rw [ht] at tk
      obtain ⟨g', a1, a2, a3, a4, a5⟩ := c_addTok (d := d) (i := i) (n := n) (tp := tp) (g := g) (t := 0) (p := n) (v := 0) (by omega) (by omega) g4 R (by rw [tk]; exact ⟨rfl, rfl, rfl⟩)
      refine ⟨i, g', ?_, by omega, hne, tk, fun k q1 q2 q3 q4 => (a2 k q1 q2 q3 q4).trans (g1 k q1 q2 q3 q4), fun j q1 q2 => (a3 j q1).trans (g2 j q1 q2), (a3 10 (by omega)).trans g3, a4, a5⟩
      rw [b_X5_scan_12, e2, if_neg (nI_nlt (by omega) (by omega))]
      have a1 : pm_ev d 78 [.ref 133, .int 0, .int (nI n), .int 0] g = some (0, g') := a1
      rw [a1, pm_bd_s]
theorem c_scan {d n : Nat} {tp : Nat → Nat} {h : pm_Hp} (hd : 7 ≤ d) (et : ∀ i, i < n → h 134 i = nI (tp i)) (hb : ∀ i, tp i < 256) (hn : n ≤ 400) (e1 : h 133 1 = nI n) : ∃ K g', pm_ev d 77 [.ref 133] h = some (0, g') ∧ K ≤ 400 ∧ (∀ x, x < K → (tks tp n x).1 ≠ 0) ∧ tks tp n K = (0, n, 0, n) ∧ (∀ k, k ≠ 133 → k ≠ 147 → k ≠ 148 → k ≠ 149 → g' k = h k) ∧ (∀ j, j ≠ 9 → j ≠ 10 → g' 133 j = h 133 j) ∧ g' 133 10 = 0 ∧ g' 133 9 = nI (K + 1) ∧ TKR tp n (K + 1) g' := by
  obtain ⟨d, rfl, -⟩ := dpos hd
  rw [e_X5_scan]
  exact c_scanL (d := d) (by omega) et hb hn e1 n 0 0 _ _ _ (by omega) (by omega) (by omega) rfl (fun x hx => absurd hx (Nat.not_lt_zero x)) (fun k q1 _ _ _ => by rw [pm_up_n q1, pm_up_n q1]) (fun j q1 q2 => by rw [pm_up_j q2, pm_up_j q1]) pm_up_s (by rw [pm_up_j (by omega), pm_up_s]; rfl) (fun x hx => absurd hx (Nat.not_lt_zero x))
