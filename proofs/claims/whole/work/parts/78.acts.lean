/-! ACTS -/
theorem fs_eq {g h : pm_Hp} (e : g 170 = h 170) (T : Nat) (v s : Int32) : fs g T v s = fs h T v s := by
  unfold fs wq
  rw [e]
theorem RK_eq {g h : pm_Hp} (e : g 170 = h 170) {T : Nat} {rk : Nat → Nat} (K : RK T h rk) : RK T g rk := by
  unfold RK wq at K ⊢
  rw [e]
  exact K
theorem bH_eq {g h : pm_Hp} (e : g 170 = h 170) (v : Int32) (n t : Nat) : bH g v n t = bH h v n t := by
  have := inH_eq e v n t
  exact Bool.eq_iff_iff.mpr (by rw [bH_t, bH_t, this])
theorem cdp_eq {g h : pm_Hp} (e : g 170 = h 170) (rk : Nat → Nat) (T t : Nat) : cdp g rk T t = cdp h rk T t := by
  unfold cdp
  simp only [bH_eq e, wq_eq e]
theorem CW.cg {t : Nat} {u u' : Nat → Int32} {h h' : pm_Hp} (e : ∀ f, f < 20 → u f = u' f) (c : CW t u h h') : CW t u' h h' := fun s f hs hf h9 => by
  rw [c s f hs hf h9, e f hf]
theorem RW.cg {t : Nat} {u u' : Nat → Int32} {h h' : pm_Hp} (e : ∀ f, f < 20 → u f = u' f) (c : RW t u h h') : RW t u' h h' := fun s f hs hf => by
  rw [c s f hs hf, e f hf]
theorem FS.bk {T R A n0 n1 q N M : Nat} {L0 L1 : Nat → Ln} {h : pm_Hp} (F : FS T R A n0 n1 q N M L0 L1 h) : ∃ k, k ≤ 120 ∧ h 170 2 = nI k ∧ h 2 11 = nI k := by
  obtain ⟨s1, s2, s3, s4, s5, k, hk, e⟩ := F.1.2.2.1
  exact ⟨k, hk, e, s3.trans e⟩
theorem c_canOpen_r {d T R r : Nat} {h : pm_Hp} (hd : 5 ≤ d) (P : Pl T R h) (hr : r < R) (s : Int32) : pm_ev d 13 [.ref 1, .int (nI r), .int s] h = some (b2 (¬ s < 0 ∧ s < h 170 (362 + r)), h) := by
  obtain ⟨d, rfl, -⟩ := dpos hd
  have hR := P.2.1
  rw [e_X1_canOpen, c_isSlot_r (by omega) P hr, pm_bd_s]
  by_cases g : ¬ s < 0 ∧ s < h 170 (362 + r)
  · rw [b2_t g, if_neg (by decide), if_pos (nI_lt (by omega) (by omega))]
  · rw [b2_f g, if_pos rfl]
theorem c_canOpen_t {d T R p : Nat} {h : pm_Hp} (hd : 5 ≤ d) (P : Pl T R h) (hp : p < T) (hk : wq h p 0 = nI 5) (s : Int32) : pm_ev d 13 [.ref 1, .int (nI (10 + p)), .int s] h = some (b2 (isT 4 s ∧ ¬ aw h p), h) := by
  obtain ⟨d, rfl, -⟩ := dpos hd
  have hT := P.1
  rw [e_X1_canOpen, c_isSlot_t (by omega) P hp hk, pm_bd_s]
  by_cases g : isT 4 s
  · rw [b2_t g, if_neg (by decide), if_neg (nI_nlt (by omega) (by omega)), pk_sub (by omega), show 10 + p - 10 = p by omega, c_isAway (by omega) P hp, pm_bd_s]
    by_cases ga : aw h p
    · rw [b2_t ga, if_neg (by decide), b2_f (fun z => z.2 ga)]
    · rw [b2_f ga, if_pos rfl, b2_t ⟨g, ga⟩]
  · rw [b2_f g, if_pos rfl, b2_f (fun z => g z.1)]
theorem c_canOpen_n {d T R : Nat} {h : pm_Hp} (hd : 5 ≤ d) (P : Pl T R h) {v : Int32} (h1 : ¬ isT R v) (h2 : v < nI 10 ∨ ¬ isT T (v - nI 10) ∨ ∃ p, p < T ∧ v = nI (10 + p) ∧ ¬ wq h p 0 = nI 5) (s : Int32) : pm_ev d 13 [.ref 1, .int v, .int s] h = some (0, h) := by
  obtain ⟨d, rfl, -⟩ := dpos hd
  rw [e_X1_canOpen, c_isSlot_n (by omega) P h1 h2, pm_bd_s, if_pos rfl]
theorem n_isHolderOut_r {d r : Nat} {h : pm_Hp} (hd : 1 ≤ d) (hr : r < 10) : pm_ev d 226 [.ref 169, .int (nI r)] h = some (0, h) := by
  obtain ⟨d, rfl, -⟩ := dpos hd
  rw [e_X10_isHolderOut, if_pos (nI_lt (by omega) (by omega))]
theorem n_isHolderOut_t {d T R p : Nat} {h : pm_Hp} (hd : 5 ≤ d) (P : Pm T R h) (hp : p < T) : pm_ev d 226 [.ref 169, .int (nI (10 + p))] h = some (b2 (aw h p), h) := by
  obtain ⟨d, rfl, -⟩ := dpos hd
  have hT := P.1
  rw [e_X10_isHolderOut, if_neg (nI_nlt (by omega) (by omega)), pk_sub (by omega), show 10 + p - 10 = p by omega, n_isOut (by omega) P hp, pm_bd_s]
  by_cases ga : aw h p
  · rw [b2_t ga, if_neg (by decide)]
  · rw [b2_f ga, if_pos rfl]
theorem c_moveAside {d t : Nat} {h : pm_Hp} (hd : 1 ≤ d) (ht : t < 16) : pm_ev d 24 [.ref 1, .int (nI t)] h = some (0, pm_up (pm_up (pm_up (pm_up h 6 t (-1)) 7 t (-1)) 8 t (-1)) 9 t 0) := by
  obtain ⟨d, rfl, -⟩ := dpos hd
  rw [e_X1_moveAside, pm_at_c (by omega) (by omega), pm_at_c (by omega) (by omega), pm_at_c (by omega) (by omega), pm_at_c (by omega) (by omega)]
theorem n_laysDown {d t : Nat} {h : pm_Hp} (hd : 2 ≤ d) (ht : t < 16) : pm_ev d 232 [.ref 169, .int (nI t)] h = some (0, pm_up (pm_up h 170 (4 + 20 * t + 5) (-1)) 170 (4 + 20 * t + 6) (-1)) := by
  obtain ⟨d, rfl, -⟩ := dpos hd
  rw [e_X10_laysDown, m_things (by omega) _ (nI t) (nI 5) (-1) t 5 rfl rfl (by omega) (by omega), pm_bd_s, m_things (by omega) _ (nI t) (nI 6) (-1) t 6 rfl rfl (by omega) (by omega), pm_bd_s]
/-- the class begins an act: a heap of its own -/
theorem C12 {c nx : Nat} {h h1 : pm_Hp} (C : kpC c nx h h1) (hn : nx < 6) : (∀ a, a < 77 → h1 a = h a) ∧ (∀ a, 133 ≤ a → a ≠ 150 → h1 a = h a) := ⟨fun a ha => C.1 a (by omega) (by omega) (by omega), fun a h1 h2 => C.1 a (by omega) (by omega) h2⟩
theorem put_do {d T R A n0 n1 q N M c nx t : Nat} {L0 L1 : Nat → Ln} {h : pm_Hp} (hd : 9 ≤ d) (F : FS T R A n0 n1 q N M L0 L1 h) (Z : KR T R A c nx h) (I : IM h) (ht : t < T) (v2 v3 : Int32) (g5 : wq h t 5 = -1) (mv : MV T R t (ur 6 v3 (ur 5 v2 (wq h t))) h) : ∃ h2 h4, (pm_bd (pm_ev d 128 [.ref 0] h) fun _ y5 => pm_at (nI t) 16 fun j2 => pm_at (nI t) 16 fun j3 => pm_bd (pm_ev d 26 [.ref 1, .int (nI t), .int 0] (pm_up (pm_up y5 6 j2 v2) 7 j3 v3)) fun _ y6 => some (1, y6)) = some (1, h2) ∧ h2 170 = h 170 ∧ (pm_bd (pm_ev d 228 [.ref 169] h2) fun _ y6 => pm_bd (pm_ev d 164 [.ref 169, .int (nI t), .int (nI 5), .int v2] y6) fun _ y7 => pm_bd (pm_ev d 164 [.ref 169, .int (nI t), .int (nI 6), .int v3] y7) fun _ y8 => pm_bd (pm_ev d 230 [.ref 169, .int (nI t), .int 0] y8) fun _ y9 => some (1, y9)) = some (1, h4) ∧ rest h h4 ∧ (h4 150 0 = 0 ∧ IV0 h4) := by
  have P := F.1.1
  have hT := P.1
  have Z' := Z
  obtain ⟨hc6, hn, z1, z2, z3, -⟩ := Z
  obtain ⟨k, hk, ek, ek2⟩ := F.bk
  obtain ⟨h1, a1, C⟩ := c_startAct (d := d) (by omega) hc6 hn z1 z2
  obtain ⟨c1, c2⟩ := C12 C hn
  obtain ⟨h2, a2, WC⟩ := c_write (d := d) (k := k) (h := pm_up (pm_up h1 6 t v2) 7 t v3) (by omega) (by rw [pm_up_k (by omega), pm_up_k (by omega), c1 2 (by omega)]; exact ek2) hk (nI t) 0
  have e170 : h2 170 = h 170 := by rw [WC.1 170 (by omega) (by omega), pm_up_n (by omega), pm_up_n (by omega), c2 170 (by omega) (by omega)]
  obtain ⟨h3, b1, MK⟩ := m_keeps (d := d) (c := c) (by omega) hc6 h2 (by rw [WC.1 169 (by omega) (by omega), pm_up_k (by omega), pm_up_k (by omega), c2 169 (by omega) (by omega)]; exact z3)
  have w170 : h3 170 = h 170 := by rw [MK.1 170 (by omega) (by omega), e170]
  obtain ⟨h4, b2', WM⟩ := m_notes (d := d) (k := k) (h := pm_up (pm_up h3 170 (4 + 20 * t + 5) v2) 170 (4 + 20 * t + 6) v3) (by omega) (by rw [pm_up_j (by omega), pm_up_j (by omega), w170]; exact ek) hk (nI t) 0
  refine ⟨h2, h4, ?_, e170, ?_, ?_⟩
  · rw [a1, pm_bd_s, pm_at_c (by omega) (by omega), pm_at_c (by omega) (by omega), a2, pm_bd_s]
  · rw [b1, pm_bd_s, m_things (by omega) _ (nI t) (nI 5) v2 t 5 rfl rfl (by omega) (by omega), pm_bd_s, m_things (by omega) _ (nI t) (nI 6) v3 t 6 rfl rfl (by omega) (by omega), pm_bd_s, b2', pm_bd_s]
  · refine ACT (hc := pm_up (pm_up h1 6 t v2) 7 t v3) (hm := h2) (hw := pm_up (pm_up h3 170 (4 + 20 * t + 5) v2) 170 (4 + 20 * t + 6) v3) (u := ur 6 v3 (ur 5 v2 (wq h t))) (p := h 170 1) F Z' I ht C (fun a y1 y2 y3 => by rw [pm_up_n (by omega), pm_up_n (by omega)]) ?_ (fun j _ => by rw [pm_up_k (by omega), pm_up_k (by omega)]) ?_ hk WC eqi.rf MK (fun a y1 _ _ => by rw [pm_up_n y1, pm_up_n y1]) ?_ (fun j y1 y2 => by rw [pm_up_j (by omega), pm_up_j (by omega)]) ?_ WM ?_ mv ?_ ?_
    · rw [pm_up_k (by omega), pm_up_k (by omega), c1 2 (by omega)]; exact F.1.2.2.1.2.1
    · exact (((CW.rf P ht).o (fun a y1 y2 => c1 a (by omega))).up9 (g := 5) (by omega) rfl).up9 (g := 6) (by omega) rfl
    · rw [pm_up_j (by omega), pm_up_j (by omega), w170]
    · exact ((RW.rf.to (fun j _ _ => by rw [w170])).up (by omega)).up (by omega)
    · rw [ur_n (by omega), ur_n (by omega)]
    · exact ((QW.of (F.1.2.1 t ht)).up (by omega) (fun e => absurd e (by decide)) (fun e => absurd e (by decide)) (fun e => absurd e (by decide)) (fun e => absurd e (by decide)) (fun e => absurd e (by decide))).up (by omega) (fun e => absurd e (by decide)) (fun e => absurd e (by decide)) (fun e => absurd e (by decide)) (fun e => absurd e (by decide)) (fun e => absurd e (by decide))
    · intro _
      rw [ur_n (by omega), ur_n (by omega), ur_n (by omega), ur_n (by omega)]
      exact F.1.2.2.2.2 t ht (by rw [g5]; decide)
