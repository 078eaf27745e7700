def QW (u : Nat → Int32) : Prop := nb (u 1) 20 ∧ nb (u 2) 9 ∧ nb (u 3) 9 ∧ nb (u 4) 999 ∧ nb (u 8) 9999 ∧ ∀ m, m < 5 → nb (u (10 + m)) 99 ∧ nb (u (15 + m)) 99 ∧ (u (10 + m) = 0 ↔ u (15 + m) = 0)
def CW (t0 : Nat) (u : Nat → Int32) (h h' : pm_Hp) : Prop := ∀ t f, t < 16 → f < 20 → f ≠ 9 → h' (ta f) (tj f t) = if t = t0 then u f else h (ta f) (tj f t)
theorem HD.to {T R t : Nat} {h h' : pm_Hp} (e5 : wq h' t 5 = wq h t 5) (e0 : ∀ p, p < T → wq h' p 0 = wq h p 0) (a : HD T R h t) : HD T R h' t := by
  unfold HD at a ⊢
  rw [e5]
  rcases a with a | a | ⟨p, hp, b, c⟩ | a
  · exact Or.inl a
  · exact Or.inr (Or.inl a)
  · exact Or.inr (Or.inr (Or.inl ⟨p, hp, b, by rw [e0 p hp]; exact c⟩))
  · exact Or.inr (Or.inr (Or.inr a))
theorem DF.to {T T' A : Nat} {h h' : pm_Hp} (hT : T ≤ T') (c : ∀ t f, T' ≤ t → t < 16 → 2 ≤ f → f < 20 → f ≠ 9 → h' (ta f) (tj f t) = h (ta f) (tj f t)) (o14 : h' 14 = h 14) (F : DF T A h) : DF T' A h' := by
  refine ⟨fun t h1 h2 => ?_, fun a h1 h2 m hm => by rw [o14]; exact F.2 a h1 h2 m hm⟩
  obtain ⟨g1, g2, g3, g4, g5, g6, g7, g8⟩ := F.1 t (by omega) h2
  have c2 := fun f => c t f h1 h2
  refine ⟨(c2 2 (by omega) (by omega) (by omega)).trans g1, (c2 3 (by omega) (by omega) (by omega)).trans g2, (c2 4 (by omega) (by omega) (by omega)).trans g3, (c2 5 (by omega) (by omega) (by omega)).trans g4, (c2 6 (by omega) (by omega) (by omega)).trans g5, (c2 7 (by omega) (by omega) (by omega)).trans g6, (c2 8 (by omega) (by omega) (by omega)).trans g7, fun m hm => ⟨?_, ?_⟩⟩
  · have := c2 (15 + m) (by omega) (by omega) (by omega)
    rw [ta_10 (by omega), tj_10 (by omega), Nat.add_sub_cancel_left] at this
    exact this.trans (g8 m hm).1
  · have := c2 (10 + m) (by omega) (by omega) (by omega)
    rw [ta_13 (by omega) (by omega), tj_13 (by omega) (by omega), Nat.add_sub_cancel_left] at this
    exact this.trans (g8 m hm).2
theorem WT.to {t : Nat} {h h' : pm_Hp} (e : ∀ f, f < 20 → wq h' t f = wq h t f) (W : WT h t) : WT h' t := by
  obtain ⟨w1, w2, w3, w4, w5, w6, w7⟩ := W
  refine ⟨by rw [e 0 (by omega)]; exact w1, by rw [e 1 (by omega)]; exact w2, by rw [e 2 (by omega)]; exact w3, by rw [e 3 (by omega)]; exact w4, by rw [e 4 (by omega)]; exact w5, by rw [e 8 (by omega)]; exact w6, fun m hm => ?_⟩
  rw [e (10 + m) (by omega), e (15 + m) (by omega)]
  exact w7 m hm
theorem FK.tu {T R A t0 : Nat} {u : Nat → Int32} {h h' : pm_Hp} (K : FK T R A h) (ht : t0 < T) (w : RW t0 u h h') (c : CW t0 u h h') (o1 : h' 1 = h 1) (o14 : h' 14 = h 14) (o15 : h' 15 = h 15) (w3 : ∀ x, 324 ≤ x → x < 396 → h' 170 x = h 170 x) (u0 : u 0 = wq h t0 0) (mv : MV T R t0 u h) (wt : QW u) (du : ¬ u 5 = nI 100 → u 7 = -1 ∧ u 8 = 0) (sl : SL h') : FK T R A h' := by
  obtain ⟨P, W, S, F, U⟩ := K
  have hT := P.1
  obtain ⟨m1, m2⟩ := mv h' w
  obtain ⟨p1, p2, p3, p4, p5, p6, p7, p8, p9, -⟩ := P
  have e0 : ∀ t, t < T → wq h' t 0 = wq h t 0 := fun t h1 => by
    by_cases e : t = t0
    · rw [e, w.s (by omega) (by omega), u0]
    · exact w.o (by omega) (by omega) e
  refine ⟨⟨p1, p2, ?_, ?_, ?_, ?_, fun t f h1 h2 h9 => ?_, fun r hr => ?_, fun t h1 => ?_, m2⟩, fun t h1 => ?_, sl, F.to (Nat.le_refl _) (fun t f h1 h2 h3 h4 h5 => (c t f h2 h4 h5).trans (if_neg (by omega))) o14, fun t h1 hn => ?_⟩
  · rw [w3 _ (by omega) (by omega)]; exact p3
  · rw [o1]; exact p4
  · rw [w3 _ (by omega) (by omega)]; exact p5
  · rw [o1]; exact p6
  · rw [c t f (by omega) h2 h9, w t f (by omega) h2, p7 t f h1 h2 h9]
  · rw [o15, w3 _ (by omega) (by omega)]; exact p8 r hr
  · by_cases e : t = t0
    · rw [e]; exact m1
    · exact (p9 t h1).to (w.o (by omega) (by omega) e) e0
  · by_cases e : t = t0
    · subst e
      have ws := fun f (hf : f < 20) => w.s (f := f) (by omega) hf
      obtain ⟨q1, q2, q3, q4, q5, q6⟩ := wt
      refine ⟨by rw [e0 t h1]; exact (W t h1).1, by rw [ws 1 (by omega)]; exact q1, by rw [ws 2 (by omega)]; exact q2, by rw [ws 3 (by omega)]; exact q3, by rw [ws 4 (by omega)]; exact q4, by rw [ws 8 (by omega)]; exact q5, fun m hm => ?_⟩
      rw [ws (10 + m) (by omega), ws (15 + m) (by omega)]
      exact q6 m hm
    · exact (W t h1).to (fun f hf => w.o (by omega) hf e)
  · by_cases e : t = t0
    · subst e
      have ws := fun f (hf : f < 20) => w.s (f := f) (by omega) hf
      rw [ws 5 (by omega)] at hn
      rw [ws 7 (by omega), ws 8 (by omega)]
      exact du hn
    · rw [w.o (by omega) (by omega) e] at hn
      rw [w.o (by omega) (by omega) e, w.o (by omega) (by omega) e]
      exact U t h1 hn
theorem HD.mono {T R R' t : Nat} {h : pm_Hp} (hR : R ≤ R') (a : HD T R h t) : HD T R' h t := by
  unfold HD at a ⊢
  rcases a with a | ⟨r, hr, a⟩ | a | a
  · exact Or.inl a
  · exact Or.inr (Or.inl ⟨r, by omega, a⟩)
  · exact Or.inr (Or.inr (Or.inl a))
  · exact Or.inr (Or.inr (Or.inr a))
theorem FK.g {T R R' A A' : Nat} {h h' : pm_Hp} (K : FK T R A h) (hR : R ≤ R') (hR4 : R' ≤ 4) (hA : A ≤ A') (w : ∀ j, 4 ≤ j → j < 325 → h' 170 j = h 170 j) (c1 : h' 1 11 = h 1 11) (e1 : h' 170 326 = nI R') (e2 : h' 1 13 = nI R') (e3 : ∀ r, r < R' → h' 15 r = h' 170 (362 + r) ∧ ∃ k, k ≤ 8 ∧ h' 170 (362 + r) = nI k) (c : ∀ k, 3 ≤ k → k ≤ 13 → h' k = h k) (o14 : ∀ j, A' * 5 ≤ j → h' 14 j = h 14 j) (sl : SL h') : FK T R' A' h' := by
  obtain ⟨P, W, S, F, U⟩ := K
  have hT := P.1
  obtain ⟨p1, p2, p3, p4, p5, p6, p7, p8, p9, rk, p10⟩ := P
  have ew : ∀ t f, t < T → f < 20 → wq h' t f = wq h t f := fun t f ht hf => w _ (by omega) (by omega)
  have ec : ∀ t f, f < 20 → f ≠ 9 → h' (ta f) (tj f t) = h (ta f) (tj f t) := fun t f hf h9 => by
    have := ta_in f hf h9
    simp only [List.mem_cons, List.not_mem_nil, or_false] at this
    rw [c (ta f) (by omega) (by omega)]
  refine ⟨⟨p1, hR4, ?_, ?_, e1, e2, fun t f h1 h2 h9 => ?_, e3, fun t h1 => ?_, rk, fun t h1 => ?_⟩, fun t h1 => (W t h1).to (fun f hf => ew t f h1 hf), sl, ⟨fun t h1 h2 => ?_, fun a h1 h2 m hm => ?_⟩, fun t h1 hn => ?_⟩
  · rw [w _ (by omega) (by omega)]; exact p3
  · rw [c1]; exact p4
  · rw [ec t f h2 h9, ew t f h1 h2]; exact p7 t f h1 h2 h9
  · exact ((p9 t h1).to (ew t 5 h1 (by omega)) (fun p hp => ew p 0 hp (by omega))).mono hR
  · rw [ew t 0 h1 (by omega), ew t 5 h1 (by omega)]; exact p10 t h1
  · rw [c 3 (by omega) (by omega), c 4 (by omega) (by omega), c 5 (by omega) (by omega), c 6 (by omega) (by omega), c 7 (by omega) (by omega), c 8 (by omega) (by omega), c 9 (by omega) (by omega), c 10 (by omega) (by omega), c 13 (by omega) (by omega)]
    exact F.1 t h1 h2
  · rw [o14 _ (by omega)]; exact F.2 a (by omega) h2 m hm
  · rw [ew t 5 h1 (by omega)] at hn
    rw [ew t 7 h1 (by omega), ew t 8 h1 (by omega)]
    exact U t h1 hn
theorem SN.mono {A A' N M : Nat} {h : pm_Hp} (hA : A ≤ A') (a : SN A N M h) : SN A' N M h := by
  obtain ⟨a1, a2, a3, a4, a5, a6, a7, a8⟩ := a
  refine ⟨a1, a2, a3, a4, a5, a6, a7, fun i hi => ⟨(a8 i hi).1, ?_⟩⟩
  obtain ⟨s, x, k, b1, b2, b3⟩ := (a8 i hi).2
  exact ⟨s, x, k, b1, by omega, b3⟩
theorem FS.k {T R A n0 n1 q N M T' R' A' : Nat} {L0 L1 : Nat → Ln} {h h' : pm_Hp} (F : FS T R A n0 n1 q N M L0 L1 h) (K' : FK T' R' A' h') (Q' : AC A' h') (B' : BK h') (hA : A ≤ A') (w : ∀ j, ((327 ≤ j ∧ j < 332) ∨ (366 ≤ j ∧ j < 396) ∨ 876 ≤ j) → h' 170 j = h 170 j) (c : ∀ k, 17 ≤ k → k ≤ 36 → k ≠ 24 → k ≠ 31 → h' k = h k) (c1 : h' 1 14 = h 1 14) : FS T' R' A' n0 n1 q N M L0 L1 h' := by
  obtain ⟨-, -, f3, f4, f5, f6, -⟩ := F
  refine ⟨K', Q', f3.rg (by omega) (fun j h1 h2 => w j (by omega)) (w _ (by omega)) (by rw [c 18 (by omega) (by omega) (by omega) (by omega)]) (fun j hj => c _ (by omega) (by omega) (by omega) (by omega)), f4.rg (by omega) (fun j h1 h2 => w j (by omega)) (w _ (by omega)) (by rw [c 25 (by omega) (by omega) (by omega) (by omega)]) (fun j hj => c _ (by omega) (by omega) (by omega) (by omega)), ?_, f6.rg (fun j h1 h2 => w j (by omega)) (w _ (by omega)) c1 (fun j hj => by rw [c 17 (by omega) (by omega) (by omega) (by omega)]), B'⟩
  exact (f5.rg (fun j h1 h2 => w j (by omega)) (w _ (by omega)) (w _ (by omega)) (fun k h1 h2 => c k (by omega) (by omega) (by omega) (by omega))).mono hA
/-! scratch changes nothing -/
theorem cel_scr {k j : Nat} (hc : cel k j = true) : k ∉ SCR := fun hk => by
  simp only [List.mem_cons, List.not_mem_nil, or_false] at hk
  rcases hk with rfl | rfl | rfl | rfl | rfl | rfl | rfl | rfl | rfl | rfl | rfl | rfl <;> simp [cel] at hc
theorem FS.scr {T R A n0 n1 q N M : Nat} {L0 L1 : Nat → Ln} {h h' : pm_Hp} (e : eqi SCR h h') (F : FS T R A n0 n1 q N M L0 L1 h) : FS T R A n0 n1 q N M L0 L1 h' := F.ag (fun k j hc => by rw [e k (cel_scr hc)])
theorem KR.fr {T R A c nx : Nat} {h h' : pm_Hp} (e1 : ∀ k, 77 ≤ k → k ≤ 132 → h' k = h k) (e2 : h' 169 3 = h 169 3) (e3 : h' 172 = h 172) (o1 : h' 1 11 = h 1 11 ∧ h' 1 13 = h 1 13) (o2 : ∀ k, 11 ≤ k → k ≤ 15 → h' k = h k) (o3 : ∀ x, 324 ≤ x → x < 396 → x ≠ 331 → h' 170 x = h 170 x) (Z : KR T R A c nx h) : KR T R A c nx h' := by
  obtain ⟨hc, hn, z1, z2, z3, z4⟩ := Z
  refine ⟨hc, hn, by rw [e1 77 (by omega) (by omega)]; exact z1, by rw [e1 77 (by omega) (by omega)]; exact z2, by rw [e2]; exact z3, fun x hx => ?_⟩
  have old := z4 x hx
  have lt : (nx + 5 - x) % 6 < 6 := Nat.mod_lt _ (by omega)
  generalize (nx + 5 - x) % 6 = i at lt old ⊢
  generalize c - 1 - x = j at old ⊢
  refine old.ag ⟨fun x hx => ?_, ⟨?_, ?_⟩, fun r hr => ?_, ⟨?_, ?_⟩, fun r hr => ?_, fun x h1 h2 => ?_, fun k x h1 h2 h3 h4 => ?_, fun x hx => ⟨?_, ?_⟩, fun x hx => ?_⟩
  · rw [kh_w hx, kh_w hx, e3]
  · rw [kh_o (by omega) (by omega), kh_o (by omega) (by omega)]; exact o3 _ (by omega) (by omega) (by omega)
  · rw [kh_o (by omega) (by omega), kh_o (by omega) (by omega)]; exact o3 _ (by omega) (by omega) (by omega)
  · rw [kh_o (by omega) (by omega), kh_o (by omega) (by omega)]; exact o3 _ (by omega) (by omega) (by omega)
  · rw [kh_o (by omega) (by omega), kh_o (by omega) (by omega)]; exact o1.1
  · rw [kh_o (by omega) (by omega), kh_o (by omega) (by omega)]; exact o1.2
  · rw [kh_o (by omega) (by omega), kh_o (by omega) (by omega), o2 15 (by omega) (by omega)]
  · rw [kh_st (by omega) (by omega), kh_st (by omega) (by omega), e1 _ (by omega) (by omega)]
  · by_cases g : k ≤ 10
    · rw [kh_st (by omega) g, kh_st (by omega) g, e1 _ (by omega) (by omega)]
    · rw [kh_o (by omega) (by omega), kh_o (by omega) (by omega), o2 k (by omega) (by omega)]
  · rw [kh_st (by omega) (by omega), kh_st (by omega) (by omega), e1 _ (by omega) (by omega)]
  · rw [kh_o (by omega) (by omega), kh_o (by omega) (by omega), o2 13 (by omega) (by omega)]
  · rw [kh_o (by omega) (by omega), kh_o (by omega) (by omega), o2 14 (by omega) (by omega)]
theorem scr_k {h h' : pm_Hp} (e : eqi SCR h h') {k : Nat} (hk : k ≠ 24 ∧ k ≠ 31 ∧ k ≠ 37 ∧ k ≠ 38 ∧ (k < 165 ∨ 168 < k) ∧ k ≠ 178 ∧ k ≠ 179 ∧ k ≠ 183 ∧ k ≠ 184) : h' k = h k := e k (fun q => by
  simp only [List.mem_cons, List.not_mem_nil, or_false] at q
  omega)
theorem KR.scr {T R A c nx : Nat} {h h' : pm_Hp} (e : eqi SCR h h') (Z : KR T R A c nx h) : KR T R A c nx h' := Z.fr (fun k h1 h2 => scr_k e (by omega)) (by rw [scr_k e (by omega)]) (scr_k e (by omega)) (by rw [scr_k e (by omega)]; exact ⟨rfl, rfl⟩) (fun k h1 h2 => scr_k e (by omega)) (fun x _ _ _ => by rw [scr_k e (by omega)])
theorem IM.scr {h h' : pm_Hp} (e : eqi SCR h h') (a : IM h) : IM h' := a.ag (fun k h1 h2 => scr_k e (by omega)) (scr_k e (by omega)) (by rw [scr_k e (by omega)]) (by rw [scr_k e (by omega)])
theorem rest.scr {h h' : pm_Hp} (e : eqi SCR h h') : rest h h' := ⟨fun k h1 h2 => scr_k e (by omega), fun k h1 h2 => scr_k e (by omega), fun j _ _ => by rw [scr_k e (by omega)]⟩
/-! the book -/
def bkf (k : Nat) (a b c e o : Int32) (i : Nat) : Int32 := if k < 120 then (if i = k * 4 + 3 then e else if i = k * 4 + 2 then c else if i = k * 4 + 1 then b else if i = k * 4 then a else o) else o
def nxt (k : Nat) : Nat := if k < 120 then k + 1 else k
def wrC (k : Nat) (v1 v2 : Int32) (h h' : pm_Hp) : Prop := (∀ a, a ≠ 2 → a ≠ 16 → h' a = h a) ∧ (∀ j, j ≠ 11 → h' 2 j = h 2 j) ∧ h' 2 11 = nI (nxt k) ∧ ∀ i, i < 480 → h' 16 i = bkf k (h 2 9) v1 v2 (h 2 8) (h 16 i) i
def wrM (k : Nat) (v1 v2 : Int32) (h h' : pm_Hp) : Prop := (∀ a, a ≠ 170 → h' a = h a) ∧ (∀ j, j ≠ 2 → (j < 396 ∨ 876 ≤ j) → h' 170 j = h 170 j) ∧ h' 170 2 = nI (nxt k) ∧ ∀ i, i < 480 → h' 170 (396 + i) = bkf k (h 170 0) v1 v2 (h 170 1) (h 170 (396 + i)) i
theorem nxt_le {k : Nat} (hk : k ≤ 120) : nxt k ≤ 120 := by
  unfold nxt
  by_cases g : k < 120
  · rw [if_pos g]; omega
  · rw [if_neg g]; exact hk
theorem c_write {d k : Nat} {h : pm_Hp} (hd : 1 ≤ d) (hk : h 2 11 = nI k) (k2 : k ≤ 120) (v1 v2 : Int32) : ∃ h', pm_ev d 26 [.ref 1, .int v1, .int v2] h = some (0, h') ∧ wrC k v1 v2 h h' := by
  obtain ⟨d, rfl, -⟩ := dpos hd
  rw [e_X1_write, hk, ltn_ite (by omega) (by omega)]
  unfold wrC nxt bkf
  by_cases g : k < 120
  · rw [if_pos g, pm_at_n (j := k * 4) (by rw [pk_mul]) (by omega) (by omega), pm_at_n (j := k * 4 + 1) (by rw [pk_mul, nI_1]) (by omega) (by omega), pm_at_n (j := k * 4 + 2) (by rw [pk_mul, nI_add]) (by omega) (by omega), pm_at_n (j := k * 4 + 3) (by rw [pk_mul, nI_add]) (by omega) (by omega)]
    refine ⟨_, rfl, fun a h1 h2 => ?_, fun j hj => ?_, ?_, fun i hi => ?_⟩
    · rw [pm_up_n h1, pm_up_n h2, pm_up_n h2, pm_up_n h2, pm_up_n h2]
    · rw [pm_up_j hj, pm_up_k (by decide), pm_up_k (by decide), pm_up_k (by decide), pm_up_k (by decide)]
    · rw [pm_up_s, nI_1, if_pos g]
    · rw [if_pos g, pm_up_k (by decide)]
      by_cases e3 : i = k * 4 + 3
      · rw [if_pos e3, e3, pm_up_s]
      · rw [if_neg e3, pm_up_j e3]
        by_cases e2 : i = k * 4 + 2
        · rw [if_pos e2, e2, pm_up_s]
        · rw [if_neg e2, pm_up_j e2]
          by_cases e1 : i = k * 4 + 1
          · rw [if_pos e1, e1, pm_up_s]
          · rw [if_neg e1, pm_up_j e1]
            by_cases e0 : i = k * 4
            · rw [if_pos e0, e0, pm_up_s]
            · rw [if_neg e0, pm_up_j e0]
  · rw [if_neg g]
    refine ⟨_, rfl, fun a h1 h2 => rfl, fun j hj => rfl, ?_, fun i hi => ?_⟩
    · rw [if_neg g]; exact hk
    · rw [if_neg g]
theorem m_notes {d k : Nat} {h : pm_Hp} (hd : 1 ≤ d) (hk : h 170 2 = nI k) (k2 : k ≤ 120) (v1 v2 : Int32) : ∃ h', pm_ev d 230 [.ref 169, .int v1, .int v2] h = some (0, h') ∧ wrM k v1 v2 h h' := by
  obtain ⟨d, rfl, -⟩ := dpos hd
  rw [e_X10_notes, hk, nI_ite (by omega) (by omega)]
  unfold wrM nxt bkf
  by_cases g : k < 120
  · rw [if_neg (by omega), pm_at_n (j := 396 + 4 * k) (by rw [pk_mul, nI_add]) (by omega) (by omega), pm_at_n (j := 396 + 4 * k + 1) (by rw [pk_mul, nI_add, nI_1]) (by omega) (by omega), pm_at_n (j := 396 + 4 * k + 2) (by rw [pk_mul, nI_add, nI_add]) (by omega) (by omega), pm_at_n (j := 396 + 4 * k + 3) (by rw [pk_mul, nI_add, nI_add]) (by omega) (by omega)]
    refine ⟨_, rfl, fun a h1 => ?_, fun j hj hj2 => ?_, ?_, fun i hi => ?_⟩
    · rw [pm_up_n h1, pm_up_n h1, pm_up_n h1, pm_up_n h1, pm_up_n h1]
    · rw [pm_up_j hj, pm_up_j (by omega), pm_up_j (by omega), pm_up_j (by omega), pm_up_j (by omega)]
    · rw [pm_up_s, pm_up_j (by omega), pm_up_j (by omega), pm_up_j (by omega), pm_up_j (by omega), hk, nI_1, if_pos g]
    · rw [if_pos g, pm_up_j (by omega)]
      by_cases e3 : i = k * 4 + 3
      · rw [if_pos e3, show 396 + i = 396 + 4 * k + 3 by omega, pm_up_s, pm_up_j (by omega), pm_up_j (by omega), pm_up_j (by omega)]
      · rw [if_neg e3, pm_up_j (by omega)]
        by_cases e2 : i = k * 4 + 2
        · rw [if_pos e2, show 396 + i = 396 + 4 * k + 2 by omega, pm_up_s]
        · rw [if_neg e2, pm_up_j (by omega)]
          by_cases e1 : i = k * 4 + 1
          · rw [if_pos e1, show 396 + i = 396 + 4 * k + 1 by omega, pm_up_s]
          · rw [if_neg e1, pm_up_j (by omega)]
            by_cases e0 : i = k * 4
            · rw [if_pos e0, show 396 + i = 396 + 4 * k by omega, pm_up_s]
            · rw [if_neg e0, pm_up_j (by omega)]
  · rw [if_pos (by omega)]
    refine ⟨_, rfl, fun a h1 => rfl, fun j hj _ => rfl, ?_, fun i hi => ?_⟩
    · rw [if_neg g]; exact hk
    · rw [if_neg g]
/-- AN ACT on one thing: from what both sides wrote, the state after -/
def afr (a : Nat) : Prop := (2 ≤ a ∧ a ≤ 10) ∨ a = 16 ∨ a = 24 ∨ a = 37 ∨ (77 ≤ a ∧ a ≤ 132) ∨ a = 150 ∨ a = 169 ∨ a = 170 ∨ a = 172 ∨ a = 178 ∨ a = 179
theorem ACT {T R A n0 n1 q N M c nx t0 k : Nat} {L0 L1 : Nat → Ln} {h h1 hc h2 hm h3 hw h4 : pm_Hp} {u : Nat → Int32} {p v1 v2 : Int32} (F : FS T R A n0 n1 q N M L0 L1 h) (Z : KR T R A c nx h) (I : IM h) (ht : t0 < T) (C : kpC c nx h h1) (u1 : ∀ a, ¬ (2 ≤ a ∧ a ≤ 10) → a ≠ 24 → a ≠ 37 → hc a = h1 a) (u2 : hc 2 8 = p) (u3 : ∀ j, j ≠ 8 → hc 2 j = h1 2 j) (u4 : CW t0 u h hc) (k2 : k ≤ 120) (WC : wrC k v1 v2 hc h2) (em : eqi [178, 179] h2 hm) (MK : kpM c hm h3) (x1 : ∀ a, a ≠ 170 → a ≠ 178 → a ≠ 179 → hw a = h3 a) (x2 : hw 170 1 = p) (x3 : ∀ j, (j < 4 ∨ 324 ≤ j) → j ≠ 1 → hw 170 j = h3 170 j) (x4 : RW t0 u h hw) (WM : wrM k v1 v2 hw h4) (q0 : u 0 = wq h t0 0) (qr : MV T R t0 u h) (qw : QW u) (qd : ¬ u 5 = nI 100 → u 7 = -1 ∧ u 8 = 0) : rest h h4 ∧ (h4 150 0 = 0 ∧ IV0 h4) := by
  have nx6 := Z.2.1
  have FK0 := F.1
  have S0 := FK0.2.2.1
  have B0 := F.2.2.2.2.2.2
  have em' : ∀ a, a ≠ 178 → a ≠ 179 → hm a = h2 a := fun a y1 y2 => em a (by simp; omega)
  have b1 : ∀ a, a ≠ 2 → a ≠ 16 → a ≠ 169 → a ≠ 170 → a ≠ 172 → a ≠ 178 → a ≠ 179 → h4 a = hc a := fun a y1 y2 y3 y4 y5 y6 y7 => (WM.1 a y4).trans ((x1 a y4 y6 y7).trans ((MK.1 a y5 y3).trans ((em' a y6 y7).trans (WC.1 a y1 y2))))
  have c1 : ∀ a, a < 79 → a ≠ 77 → h1 a = h a := fun a y1 y2 => C.1 a (by omega) y2 (by omega)
  have c1' : ∀ a, 133 ≤ a → a ≠ 150 → h1 a = h a := fun a y1 y2 => C.1 a (by omega) (by omega) y2
  have b2 : ∀ a, ¬ afr a → h4 a = h a := fun a na => by
    unfold afr at na
    rw [b1 a (by omega) (by omega) (by omega) (by omega) (by omega) (by omega) (by omega), u1 a (by omega) (by omega) (by omega)]
    by_cases g : a < 79
    · exact c1 a g (by omega)
    · exact c1' a (by omega) (by omega)
  have m170 : hm 170 = h 170 := by rw [em' 170 (by omega) (by omega), WC.1 170 (by omega) (by omega), u1 170 (by omega) (by omega) (by omega), c1' 170 (by omega) (by omega)]
  have m172 : hm 172 = h 172 := by rw [em' 172 (by omega) (by omega), WC.1 172 (by omega) (by omega), u1 172 (by omega) (by omega) (by omega), c1' 172 (by omega) (by omega)]
  have m169 : hm 169 = h 169 := by rw [em' 169 (by omega) (by omega), WC.1 169 (by omega) (by omega), u1 169 (by omega) (by omega) (by omega), c1' 169 (by omega) (by omega)]
  have w170 : h3 170 = h 170 := by rw [MK.1 170 (by omega) (by omega), m170]
  have w3 : ∀ x, (324 ≤ x ∧ x < 396) ∨ 876 ≤ x → h4 170 x = h 170 x := fun x hx => by rw [WM.2.1 x (by omega) (by omega), x3 x (by omega) (by omega), w170]
  have e2 : h4 2 = h2 2 := by rw [WM.1 2 (by omega), x1 2 (by omega) (by omega) (by omega), MK.1 2 (by omega) (by omega), em' 2 (by omega) (by omega)]
  have e16 : h4 16 = h2 16 := by rw [WM.1 16 (by omega), x1 16 (by omega) (by omega) (by omega), MK.1 16 (by omega) (by omega), em' 16 (by omega) (by omega)]
  have h12 : h1 2 = h 2 := c1 2 (by omega) (by omega)
  have rw4 : RW t0 u h h4 := fun t f ht hf => (WM.2.1 _ (by omega) (by omega)).trans (x4 t f ht hf)
  have cw4 : CW t0 u h h4 := fun t f ht hf h9 => by
    rw [← u4 t f ht hf h9]
    have := ta_in f hf h9
    simp only [List.mem_cons, List.not_mem_nil, or_false] at this
    rw [b1 (ta f) (by omega) (by omega) (by omega) (by omega) (by omega) (by omega) (by omega)]
  obtain ⟨s1, s2, s3, s4, s5, s6⟩ := S0
  have sl : SL h4 := by
    refine ⟨?_, ?_, ?_, ?_, ?_, ?_⟩
    · rw [e2, WC.2.1 9 (by omega), u3 9 (by omega), h12, s1, WM.2.1 0 (by omega) (by omega), x3 0 (by omega) (by omega), w170]
    · rw [e2, WC.2.1 8 (by omega), u2, WM.2.1 1 (by omega) (by omega), x2]
    · rw [e2, WC.2.2.1, WM.2.2.1]
    · rw [e2, WC.2.1 10 (by omega), u3 10 (by omega), h12, s4, WM.2.1 3 (by omega) (by omega), x3 3 (by omega) (by omega), w170]
    · rw [WM.2.1 0 (by omega) (by omega), x3 0 (by omega) (by omega), w170]; exact s5
    · rw [WM.2.2.1]; exact ⟨nxt k, nxt_le k2, rfl⟩
  have bk : BK h4 := fun i hi => by
    rw [e16, WC.2.2.2 i hi, WM.2.2.2 i hi, u3 9 (by omega), h12, s1, u2, x2, x3 0 (by omega) (by omega), w170, x3 _ (by omega) (by omega), w170, u1 16 (by omega) (by omega) (by omega), c1 16 (by omega) (by omega), B0 i hi]
  have fk : FK T R A h4 := FK0.tu ht rw4 cw4 (b2 1 (by unfold afr; omega)) (b2 14 (by unfold afr; omega)) (b2 15 (by unfold afr; omega)) (fun x y1 y2 => w3 x (by omega)) q0 qr qw qd sl
  have kr := KR.act FK0 Z C (fun a y1 y2 => (b1 a (by omega) (by omega) (by omega) (by omega) (by omega) (by omega) (by omega)).trans (u1 a (by omega) (by omega) (by omega))) (fun x _ => by rw [m170]) m172 MK ((WM.1 172 (by omega)).trans (x1 172 (by omega) (by omega) (by omega))) (by rw [WM.1 169 (by omega), x1 169 (by omega) (by omega) (by omega)]) (b2 1 (by unfold afr; omega)) (fun a y1 y2 => b2 a (by unfold afr; omega)) (fun x y1 y2 => w3 x (by omega))
  have m169' : ∀ j, j ≠ 3 → h4 169 j = h 169 j := fun j hj => by rw [WM.1 169 (by omega), x1 169 (by omega) (by omega) (by omega), MK.2.1 j hj, m169]
  refine ⟨⟨fun a y1 y2 => b2 a (by unfold afr; omega), fun a y1 y2 => b2 a (by unfold afr; omega), fun j y1 _ => m169' j y1⟩, ?_, ⟨T, R, A, n0, n1, q, N, M, L0, L1, F.k fk ?_ bk (Nat.le_refl _) (fun j hj => w3 j (by omega)) (fun a y1 y2 y3 y4 => b2 a (by unfold afr; omega)) (by rw [b2 1 (by unfold afr; omega)]), _, _, kr⟩, I.ag (fun a y1 y2 => b2 a (by unfold afr; omega)) (b2 171 (by unfold afr; omega)) (by rw [b2 0 (by unfold afr; omega)]) (m169' 4 (by omega))⟩
  · rw [b1 150 (by omega) (by omega) (by omega) (by omega) (by omega) (by omega) (by omega), u1 150 (by omega) (by omega) (by omega)]
    exact C.2.2.2.2.1
  · exact F.2.1.rg (fun j y1 y2 => w3 j (by omega)) (w3 _ (by omega)) (by rw [b2 1 (by unfold afr; omega)]) (fun j _ => by rw [b2 14 (by unfold afr; omega)])
