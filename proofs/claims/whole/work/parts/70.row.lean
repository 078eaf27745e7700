/-! A THING'S ROW CHANGED -/
theorem ta_i : ∀ f, f < 9 → ∀ g, g < 9 → ta f = ta g → f = g := by decide +kernel
theorem ta_s : ∀ f, f < 9 → ta f ≠ 10 ∧ ta f ≠ 13 := by decide +kernel
theorem ta_13 {f : Nat} (h1 : 9 ≤ f) (h2 : f < 15) : ta f = 13 := by
  unfold ta
  rw [if_neg (by omega), if_neg (by omega), if_neg (by omega), if_pos h2]
theorem ta_10 {f : Nat} (h1 : 15 ≤ f) : ta f = 10 := by
  unfold ta
  rw [if_neg (by omega), if_neg (by omega), if_neg (by omega), if_neg (by omega)]
theorem tj_9 {f t : Nat} (h1 : f < 9) : tj f t = t := if_pos h1
theorem tj_13 {f t : Nat} (h1 : 9 ≤ f) (h2 : f < 15) : tj f t = t * 5 + (f - 10) := by
  unfold tj
  rw [if_neg (by omega), if_pos h2]
theorem tj_10 {f t : Nat} (h1 : 15 ≤ f) : tj f t = t * 5 + (f - 15) := by
  unfold tj
  rw [if_neg (by omega), if_neg (by omega)]
theorem tcell {f g t s : Nat} (hf : f < 20) (hg : g < 20) (f9 : f ≠ 9) (g9 : g ≠ 9) (e : ta f = ta g) (ej : tj f t = tj g s) : t = s ∧ f = g := by
  by_cases a : f < 9
  · by_cases b : g < 9
    · rw [tj_9 a, tj_9 b] at ej
      exact ⟨ej, ta_i f a g b e⟩
    · by_cases b2 : g < 15
      · rw [ta_13 (by omega) b2] at e; exact absurd e (ta_s f a).2
      · rw [ta_10 (f := g) (by omega)] at e; exact absurd e (ta_s f a).1
  · by_cases a2 : f < 15
    · rw [ta_13 (by omega) a2] at e
      by_cases b : g < 9
      · exact absurd e.symm (ta_s g b).2
      · by_cases b2 : g < 15
        · rw [tj_13 (by omega) a2, tj_13 (by omega) b2] at ej
          omega
        · rw [ta_10 (by omega)] at e; omega
    · rw [ta_10 (by omega)] at e
      by_cases b : g < 9
      · exact absurd e.symm (ta_s g b).1
      · by_cases b2 : g < 15
        · rw [ta_13 (by omega) b2] at e; omega
        · rw [tj_10 (by omega), tj_10 (by omega)] at ej
          omega
theorem up_c {h : pm_Hp} {f g t s : Nat} {v : Int32} (hf : f < 20) (f9 : f ≠ 9) (hg : g < 20) (g9 : g ≠ 9) : pm_up h (ta g) (tj g s) v (ta f) (tj f t) = if t = s ∧ f = g then v else h (ta f) (tj f t) := by
  by_cases e : t = s ∧ f = g
  · rw [if_pos e, e.1, e.2, pm_up_s]
  · rw [if_neg e]
    exact if_neg (fun q => e (tcell hf hg f9 g9 q.1 q.2))
theorem up_w {h : pm_Hp} {f g t s : Nat} {v : Int32} (hf : f < 20) (hg : g < 20) : pm_up h 170 (4 + 20 * s + g) v 170 (4 + 20 * t + f) = if t = s ∧ f = g then v else h 170 (4 + 20 * t + f) := by
  by_cases e : t = s ∧ f = g
  · rw [if_pos e, e.1, e.2, pm_up_s]
  · rw [if_neg e, pm_up_j (by omega)]
theorem up_o {h : pm_Hp} {k j f t : Nat} {v : Int32} (hk : k = 1 ∨ k = 2 ∨ 14 ≤ k) (hf : f < 20) (f9 : f ≠ 9) : pm_up h k j v (ta f) (tj f t) = h (ta f) (tj f t) := by
  refine pm_up_k (fun e => ?_)
  have := ta_in f hf f9
  rw [e] at this
  simp only [List.mem_cons, List.not_mem_nil, or_false] at this
  omega
theorem m_things {d : Nat} (hd : 1 ≤ d) (h : pm_Hp) (v x y : Int32) (t f : Nat) (hv : v = nI t) (hx : x = nI f) (ht : t < 16) (hf : f < 20) : pm_ev d 164 [.ref 169, .int v, .int x, .int y] h = some (0, pm_up h 170 (4 + 20 * t + f) y) := by
  obtain ⟨d, rfl, hd⟩ := dpos hd
  subst hv hx
  rw [e_X10_things, pm_at_n (j := 4 + 20 * t + f) (by simp only [pk_mul, nI_add]) (by omega) (by omega)]
theorem inH_st {T R t p q : Nat} {h : pm_Hp} (P : Pl T R h) {rk : Nat → Nat} (K : RK T h rk) (ht : t < T) (hq : q < T) (hp : p < T) (e : wq h t 5 = nI (10 + q)) : inH h (nI (10 + p)) 4 t ↔ q = p ∨ inH h (nI (10 + p)) 4 q := by
  have hT := P.1
  have r1 := (K t ht).2.2.1 q hq e
  have r2 := (K t ht).1
  rw [inH_more P K (nI (10 + p)) 3 q hq (by omega)]
  rcases pa_cases P ht with ⟨-, -, e3, -⟩ | ⟨q', hq', e1, e2, -⟩
  · exact absurd e (e3 q hq)
  · have : q' = q := by
      have := (nI_eq (by omega) (by omega)).mp (e2.symm.trans e)
      omega
    subst this
    constructor
    · intro a
      unfold inH at a
      rw [e1, e, nI_eq (by omega) (by omega)] at a
      rcases a with a | a
      · exact Or.inl (by omega)
      · exact Or.inr a
    · intro a
      unfold inH
      rw [e1, e, nI_eq (by omega) (by omega)]
      rcases a with a | a
      · exact Or.inl (by omega)
      · exact Or.inr a
theorem inH_no {T R t p : Nat} {h : pm_Hp} (P : Pl T R h) (ht : t < T) (hp : p < T) (e : ∀ q, q < T → wq h t 5 ≠ nI (10 + q)) : ¬ inH h (nI (10 + p)) 4 t := fun a => by
  unfold inH at a
  rcases pa_cases P ht with ⟨e1, -, e3, -⟩ | ⟨q', hq', e1, e2, -⟩
  · rw [e1] at a
    rcases a with a | a
    · exact e3 p hp a
    · exact a
  · exact e q' hq' e2
/-- ranks when a thing is moved -/
theorem RK.mv {T R t0 n : Nat} {h h' : pm_Hp} (P : Pl T R h) {rk : Nat → Nat} (K : RK T h rk) (ht0 : t0 < T) (w0 : ∀ t, t < T → wq h' t 0 = wq h t 0) (w5 : ∀ t, t < T → t ≠ t0 → wq h' t 5 = wq h t 5) (nw : (n = 0 ∧ ∀ p, p < T → wq h' t0 5 ≠ nI (10 + p)) ∨ (∃ p, p < T ∧ wq h' t0 5 = nI (10 + p) ∧ n = rk p + 1 ∧ p ≠ t0 ∧ ¬ inH h (nI (10 + t0)) 4 p)) (b3 : n ≤ 3) (bt : wq h t0 0 = nI 5 → n ≤ 2 ∧ ∀ t, t < T → wq h t 0 = nI 5 → inH h (nI (10 + t0)) 4 t → rk t - rk t0 + n ≤ 2) : ∃ rk', RK T h' rk' := by
  classical
  have hT := P.1
  refine ⟨fun t => if t = t0 then n else if inH h (nI (10 + t0)) 4 t then rk t - rk t0 + n else rk t, fun t ht => ?_⟩
  rw [w0 t ht]
  by_cases e : t = t0
  · subst e
    simp only [if_true]
    refine ⟨b3, fun q => (bt q).1, fun p hp ep => ?_, fun ep => ?_⟩
    · rcases nw with ⟨-, a⟩ | ⟨p', hp', a1, a2, a3, a4⟩
      · exact absurd ep (a p hp)
      · have : p' = p := by
          have := (nI_eq (by omega) (by omega)).mp (a1.symm.trans ep)
          omega
        subst this
        rw [if_neg a3, if_neg a4]
        exact a2
    · rcases nw with ⟨a, -⟩ | ⟨p', hp', a1, -⟩
      · exact a
      · exact absurd a1 (ep p' hp')
  · rw [w5 t ht e]
    simp only [if_neg e]
    obtain ⟨k1, k2, k3, k4⟩ := K t ht
    by_cases a : inH h (nI (10 + t0)) 4 t
    · have kd := inH_kind P ht0 4 t ht a
      obtain ⟨b1, b2⟩ := bt kd
      simp only [if_pos a]
      rcases pa_cases P ht with ⟨-, -, e3, -⟩ | ⟨q, hq, -, e2, e4⟩
      · exact absurd a (inH_no P ht ht0 e3)
      · have r1 := k3 q hq e2
        have st := (inH_st P K ht hq ht0 e2).mp a
        by_cases qt : q = t0
        · subst qt
          refine ⟨by omega, fun z => b2 t ht z a, fun p hp ep => ?_, fun ep => absurd e2 (ep q hq)⟩
          have : p = q := by
            have := (nI_eq (by omega) (by omega)).mp (ep.symm.trans e2)
            omega
          subst this
          rw [if_pos rfl]
          omega
        · have iq := st.resolve_left qt
          have r2 := inH_rk P K ht0 4 q hq iq
          have r3 := b2 q hq e4 iq
          refine ⟨by omega, fun z => b2 t ht z a, fun p hp ep => ?_, fun ep => absurd e2 (ep q hq)⟩
          have : p = q := by
            have := (nI_eq (by omega) (by omega)).mp (ep.symm.trans e2)
            omega
          subst this
          rw [if_neg qt, if_pos iq]
          omega
    · simp only [if_neg a]
      refine ⟨k1, k2, fun p hp ep => ?_, k4⟩
      have st := inH_st P K ht hp ht0 ep
      have pt : p ≠ t0 := fun z => a (st.mpr (Or.inl z))
      have ip : ¬ inH h (nI (10 + t0)) 4 p := fun z => a (st.mpr (Or.inr z))
      rw [if_neg pt, if_neg ip]
      exact k3 p hp ep
/-- what a thing's row may become, as to its place -/
def RW (t0 : Nat) (u : Nat → Int32) (h h' : pm_Hp) : Prop := ∀ t f, t < 16 → f < 20 → wq h' t f = if t = t0 then u f else wq h t f
def MV (T R t0 : Nat) (u : Nat → Int32) (h : pm_Hp) : Prop := ∀ h', RW t0 u h h' → HD T R h' t0 ∧ ∃ rk, RK T h' rk
theorem RW.o {t0 t f : Nat} {u : Nat → Int32} {h h' : pm_Hp} (w : RW t0 u h h') (ht : t < 16) (hf : f < 20) (e : t ≠ t0) : wq h' t f = wq h t f := (w t f ht hf).trans (if_neg e)
theorem RW.s {t0 f : Nat} {u : Nat → Int32} {h h' : pm_Hp} (w : RW t0 u h h') (ht : t0 < 16) (hf : f < 20) : wq h' t0 f = u f := (w t0 f ht hf).trans (if_pos rfl)
theorem MV.same {T R t0 : Nat} {u : Nat → Int32} {h : pm_Hp} (P : Pl T R h) (ht : t0 < T) (u0 : u 0 = wq h t0 0) (u5 : u 5 = wq h t0 5) : MV T R t0 u h := fun h' w => by
  have hT := P.1
  have e0 : ∀ t, t < T → wq h' t 0 = wq h t 0 := fun t h1 => by
    by_cases e : t = t0
    · rw [e, w.s (by omega) (by omega), u0]
    · exact w.o (by omega) (by omega) e
  have e5 : ∀ t, t < T → wq h' t 5 = wq h t 5 := fun t h1 => by
    by_cases e : t = t0
    · rw [e, w.s (by omega) (by omega), u5]
    · exact w.o (by omega) (by omega) e
  obtain ⟨-, -, -, -, -, -, -, -, p9, rk, p10⟩ := P
  refine ⟨?_, rk, fun t h1 => ?_⟩
  · have := p9 t0 ht
    unfold HD at this ⊢
    rw [e5 t0 ht]
    rcases this with a | a | ⟨p, hp, b, c⟩ | a
    · exact Or.inl a
    · exact Or.inr (Or.inl a)
    · exact Or.inr (Or.inr (Or.inl ⟨p, hp, b, by rw [e0 p hp]; exact c⟩))
    · exact Or.inr (Or.inr (Or.inr a))
  · rw [e0 t h1, e5 t h1]
    exact p10 t h1
theorem MV.none {T R t0 : Nat} {u : Nat → Int32} {h : pm_Hp} (P : Pl T R h) (ht : t0 < T) (u0 : u 0 = wq h t0 0) (u5 : u 5 = -1 ∨ (∃ r, r < R ∧ u 5 = nI r) ∨ u 5 = nI 100) : MV T R t0 u h := fun h' w => by
  have hT := P.1
  have hR := P.2.1
  have e5 : wq h' t0 5 = u 5 := w.s (by omega) (by omega)
  obtain ⟨rk, K⟩ := P.2.2.2.2.2.2.2.2.2
  refine ⟨?_, RK.mv P K ht (n := 0) (fun t h1 => ?_) (fun t h1 e => w.o (by omega) (by omega) e) (Or.inl ⟨rfl, fun p hp q => ?_⟩) (by omega) (fun _ => ⟨by omega, fun t h1 h2 _ => ?_⟩)⟩
  · unfold HD
    rw [e5]
    rcases u5 with a | a | a
    · exact Or.inl a
    · exact Or.inr (Or.inl a)
    · exact Or.inr (Or.inr (Or.inr a))
  · by_cases e : t = t0
    · rw [e, w.s (by omega) (by omega), u0]
    · exact w.o (by omega) (by omega) e
  · rw [e5] at q
    rcases u5 with a | ⟨r, hr, a⟩ | a
    · rw [a, nI_m1' (by omega)] at q; exact q
    · rw [a] at q
      have := (nI_eq (by omega) (by omega)).mp q
      omega
    · rw [a] at q
      have := (nI_eq (by omega) (by omega)).mp q
      omega
  · have := (K t h1).2.1 h2
    omega
theorem MV.trunk {T R t0 p : Nat} {u : Nat → Int32} {h : pm_Hp} (P : Pl T R h) {rk : Nat → Nat} (K : RK T h rk) (ht : t0 < T) (u0 : u 0 = wq h t0 0) (hp : p < T) (hk : wq h p 0 = nI 5) (u5 : u 5 = nI (10 + p)) (r0 : rk t0 = 0) (g1 : wq h t0 0 = nI 5 → ¬ p = t0 ∧ ¬ bH h (nI (10 + t0)) 4 p = true ∧ cdp h rk T t0 + 1 + rk p ≤ 3) : MV T R t0 u h := fun h' w => by
  have hT := P.1
  have e5 : wq h' t0 5 = u 5 := w.s (by omega) (by omega)
  have e0 : ∀ t, t < T → wq h' t 0 = wq h t 0 := fun t h1 => by
    by_cases e : t = t0
    · rw [e, w.s (by omega) (by omega), u0]
    · exact w.o (by omega) (by omega) e
  have pt : p ≠ t0 := fun e => (g1 (by rw [← e]; exact hk)).1 e
  have pi : ¬ inH h (nI (10 + t0)) 4 p := fun a => (g1 (inH_kind P ht 4 p hp a)).2.1 (bH_t.mpr a)
  have rp := (K p hp).2.1 hk
  refine ⟨?_, RK.mv P K ht (n := rk p + 1) e0 (fun t h1 e => w.o (by omega) (by omega) e) (Or.inr ⟨p, hp, e5.trans u5, rfl, pt, pi⟩) (by omega) (fun kd => ?_)⟩
  · unfold HD
    rw [e5]
    exact Or.inr (Or.inr (Or.inl ⟨p, hp, u5, by rw [e0 p hp]; exact hk⟩))
  · obtain ⟨-, -, g3⟩ := g1 kd
    have s := mx_spec (fun o => decide (wq h o 0 = nI 5) && bH h (nI (10 + t0)) 4 o) (fun o => 1 + rk o - rk t0) T 0 1
    have c1 : 1 ≤ cdp h rk T t0 := s.1
    refine ⟨by omega, fun t h1 h2 h3 => ?_⟩
    have : 1 + rk t - rk t0 ≤ cdp h rk T t0 := s.2.1 t (by omega) (by omega) (by simp only [h2, decide_true, Bool.true_and]; exact bH_t.mpr h3)
    omega
