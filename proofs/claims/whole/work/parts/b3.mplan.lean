/-! THE MODEL'S PLAN -/
theorem FS.cm {T R A n0 n1 q N M : Nat} {L0 L1 : Nat → Ln} {h h' : pm_Hp} (e : ∀ k, (k ≤ 36 ∨ k = 170) → h' k = h k) (F : FS T R A n0 n1 q N M L0 L1 h) : FS T R A n0 n1 q N M L0 L1 h' := F.ag (fun k j hc => by rw [e k (by have := cel_k hc; omega)])
/-- candidates without what is banned -/
def cdm (h : pm_Hp) (i t : Nat) : Prop := ¬ (nI i = h 169 34 ∧ nI t = h 169 35) ∧ cdw h i t
theorem m_oW {d i f : Nat} (hd : 1 ≤ d) (h : pm_Hp) (hi : i < 6) (hf : f < 3) : pm_ev d 253 [.ref 169, .int (nI i), .int (nI f)] h = some (ww (h 170) i f, h) := by
  obtain ⟨d, rfl, -⟩ := dpos hd
  rw [e_X10_ofWear, pk_mul, nI_add, nI_add, pm_at_c (by omega) (by omega)]
section
variable {T R A n0 n1 q N M : Nat} {L0 L1 : Nat → Ln} {h : pm_Hp}
theorem m_canWear {d i t : Nat} (hd : 5 ≤ d) (F : FS T R A n0 n1 q N M L0 L1 h) (hi : i < M) (ht : t < T) : pm_ev d 255 [.ref 169, .int (nI i), .int (nI t)] h = some (ck (cdm h i t) 1 0, h) := by
  obtain ⟨d, rfl, -⟩ := dpos hd
  have hA := F.2.1.1
  have hT := F.1.1.1
  have hM := F.2.2.2.2.1.2.1
  obtain ⟨w1, w2, w3, w4, w5, w6, w7⟩ := F.2.2.2.2.1.wr hA hi
  have W := F.1.2.1 t ht
  have body : ¬ (nI i = h 169 34 ∧ nI t = h 169 35) → (pm_bd (pm_ev d 253 [.ref 169, .int (nI i), .int (nI 2)] h) fun r8 y8 => pm_bd (pm_ev d 251 [.ref 169, .int (nI t), .int r8] y8) fun r9 y9 => if r9 = 0 then (some ((0 : Int32), y9)) else (pm_bd (pm_ev d 166 [.ref 169, .int (nI t)] y9) fun r10 y10 => if r10 = 0 then (pm_bd (pm_ev d 218 [.ref 169, .int (nI t)] y10) fun r11 y11 => if r11 = 0 then (pm_bd (pm_ev d 163 [.ref 169, .int (nI t), .int (nI 3)] y11) fun r12 y12 => if r12 < nI 5 then (pm_bd (pm_ev d 253 [.ref 169, .int (nI i), .int 1] y12) fun r13 y13 => pm_bd (pm_ev d 236 [.ref 169, .int (nI t), .int r13] y13) fun r14 y14 => if r14 = 0 then (some (0, y14)) else (some (1, y14))) else (some (0, y12))) else (some (0, y11))) else (some (0, y10)))) = some (ck (cdm h i t) 1 0, h) := fun nb_ => by
    rw [m_oW (by omega) h (by omega) (by omega), pm_bd_s, w4.2.2, m_isOfKind (by omega) W (by omega) (by omega), pm_bd_s]
    by_cases k1 : wq h t 0 = nI (wkd h i) ∨ (wq h t 0 < nI 3 ∧ nI (wkd h i) < wq h t 0)
    · have nt : ¬ wq h t 0 = nI 5 := fun z => by
        rw [z] at k1
        rcases k1 with y | y
        · have := (nI_eq (by omega) (by omega)).mp y; omega
        · exact absurd y.1 (by decide)
      rw [b2_t k1, if_neg (by decide), m_isTrunk_y (by omega) F.1.1 ht, pm_bd_s, b2_f nt, if_pos rfl, m_isOut (by omega) F.1.1 ht, pm_bd_s]
      by_cases k3 : aw h t
      · rw [b2_t k3, if_neg (by decide), ck_f (fun z => z.2.2.2.1 k3)]
      · rw [b2_f k3, if_pos rfl, m_of0 (by omega) h (nI t) (nI 3) t 3 rfl rfl (by omega) (by omega), pm_bd_s]
        by_cases k2 : wq h t 3 < nI 5
        · rw [if_pos k2, show (1 : Int32) = nI 1 from rfl, m_oW (by omega) h (by omega) (by omega), pm_bd_s, w4.2.1, m_fitsTo (by omega) F.2.1 W (by omega) w2, pm_bd_s]
          by_cases k4 : fit (h 170) t (wac h i) = 0
          · rw [if_pos k4, ck_f (fun z => z.2.2.2.2 k4)]
          · rw [if_neg k4, ck_t ⟨nb_, k1, k2, k3, k4⟩]
        · rw [if_neg k2, ck_f (fun z => k2 z.2.2.1)]
    · rw [b2_f k1, if_pos rfl, ck_f (fun z => k1 z.2.1)]
  rw [e_X10_canWear]
  by_cases c1 : nI i = h 169 34
  · rw [if_pos c1]
    by_cases c2 : nI t = h 169 35
    · rw [if_pos c2, ck_f (fun z => z.1 ⟨c1, c2⟩)]
    · rw [if_neg c2]
      exact body (fun z => c2 z.2)
  · rw [if_neg c1]
    exact body (fun z => c1 z.1)
theorem m_cost {d i t : Nat} (hd : 8 ≤ d) (F : FS T R A n0 n1 q N M L0 L1 h) (hi : i < M) (ht : t < T) : ∃ h', pm_ev d 235 [.ref 169, .int (nI t), .int (nI (wac h i))] h = some (nI (cow n0 L0 h i t), h') ∧ eqi [178, 179] h h' := by
  have hA := F.2.1.1
  have hT := F.1.1.1
  obtain ⟨w1, w2, w3, w4, w5, w6, w7⟩ := F.2.2.2.2.1.wr hA hi
  obtain ⟨h', a1, a2⟩ := m_costBy (d := d) (t := t) (a := some (wac h i)) hd F.2.2.1 (F.1.2.1 t ht) (by omega) (fun k hk => by cases hk; omega)
  exact ⟨h', by rw [cow_eq (F.1.2.1 t ht) F.2.1 w2]; exact a1, a2⟩
theorem m_chm {d t k : Nat} (hd : 6 ≤ d) (F : FS T R A n0 n1 q N M L0 L1 h) (ht : t < T) : ∃ h', pm_ev d 214 [.ref 169, .int (nI t), .int (nI k)] h = some (nI (chv n1 L1 h t k), h') ∧ eqi [178, 179] h h' := by
  have hT := F.1.1.1
  obtain ⟨h', a1, a2⟩ := m_change (d := d) (t := t) hd F.2.2.2.1 (by omega) (nI k)
  exact ⟨h', by rw [a1, ← chv_eq.1], a2⟩
theorem FS.e178 {h' : pm_Hp} (e : eqi [178, 179] h h') (F : FS T R A n0 n1 q N M L0 L1 h) : FS T R A n0 n1 q N M L0 L1 h' := F.cm (fun k hk => e k (by simp; omega))
theorem m_goT {d i j a b : Nat} (hd : 7 ≤ d) (F : FS T R A n0 n1 q N M L0 L1 h) (hi : i < M) (hj : j < M) (ha : a < T) (hb : b < T) : ∃ h', pm_ev d 258 [.ref 169, .int (nI i), .int (nI a), .int (nI j), .int (nI b)] h = some (ck (gtw n1 L1 h i a j b) 1 0, h') ∧ eqi [178, 179] h h' := by
  obtain ⟨d, rfl, -⟩ := dpos hd
  have hA := F.2.1.1
  have hT := F.1.1.1
  have hM := F.2.2.2.2.1.2.1
  have hN := F.2.2.2.2.1.1
  obtain ⟨w1, w2, w3, w4, -⟩ := F.2.2.2.2.1.wr hA hi
  obtain ⟨x1, x2, x3, x4, -⟩ := F.2.2.2.2.1.wr hA hj
  obtain ⟨m1, m2, m3⟩ := F.2.2.2.2.1.mn w1
  have f0 : ∀ k, k < 6 → pm_ev d 253 [.ref 169, .int (nI k), .int 0] h = some (ww (h 170) k 0, h) := fun k hk => m_oW (f := 0) (by omega) h hk (by omega)
  have f1 : ∀ k, k < 6 → pm_ev d 253 [.ref 169, .int (nI k), .int 1] h = some (ww (h 170) k 1, h) := fun k hk => m_oW (f := 1) (by omega) h hk (by omega)
  have kd : ∀ t, t < T → pm_ev d 163 [.ref 169, .int (nI t), .int 0] h = some (nI (nv (wq h t 0)), h) := fun t ht => by
    rw [(nv_nb (by omega) (F.1.2.1 t ht).1).1]
    exact m_of0 (by omega) h (nI t) 0 t 0 rfl rfl (by omega) (by omega)
  unfold gtw
  rw [e_X10_goTogether, f0 i (by omega), pm_bd_s, f0 j (by omega), pm_bd_s, w4.1, x4.1, nI_ite (by omega) (by omega), nI_ite (by omega) (by omega)]
  by_cases s0 : wsc h i = wsc h j
  · rw [if_pos s0, if_pos s0]
    by_cases e : a = b
    · rw [if_pos e, ck_f (fun z => z e)]; exact ⟨h, rfl, eqi.rf⟩
    · rw [if_neg e, ck_t e]; exact ⟨h, rfl, eqi.rf⟩
  · rw [if_neg s0, if_neg s0, f0 j (by omega), pm_bd_s, x4.1, nI_1, nI_ite (by omega) (by omega)]
    by_cases s1 : wsc h i + 1 = wsc h j
    · rw [if_pos s1, if_pos s1, f1 i (by omega), pm_bd_s, f1 j (by omega), pm_bd_s, w4.2.1, x4.2.1, nI_ite (by omega) (by omega), nI_add, pm_at_c (by omega) (by omega), m2]
      by_cases oa : wac h i = wac h j
      · rw [if_pos oa, if_pos oa, nI_ite (by omega) (by omega)]
        by_cases e : a = b
        · rw [if_pos e, ck_t (Or.inl e)]; exact ⟨h, rfl, eqi.rf⟩
        · rw [if_neg e, kd b hb, pm_bd_s]
          obtain ⟨y, y1, y2⟩ := m_chm (d := d) (t := a) (k := nv (wq h b 0)) (by omega) F ha
          have c9 := (chv_eq (n := n1) (Ls := L1) (h := h) (t := a) (k := nv (wq h b 0))).2
          rw [y1, pm_bd_s, ltn_ite (by omega) (by omega)]
          by_cases g : mnu h (wsc h i) < chv n1 L1 h a (nv (wq h b 0))
          · rw [if_pos g, ck_f (fun z => z.elim e (fun y => by omega))]; exact ⟨y, rfl, y2⟩
          · rw [if_neg g, ck_t (Or.inr (by omega))]; exact ⟨y, rfl, y2⟩
      · rw [if_neg oa, if_neg oa, nI_ite (by omega) (by omega)]
        by_cases e : a = b
        · rw [if_pos e, pm_at_c (by omega) (by omega), m2, kd a ha, pm_bd_s]
          obtain ⟨y, y1, y2⟩ := m_chm (d := d) (t := a) (k := nv (wq h a 0)) (by omega) F ha
          have c9 := (chv_eq (n := n1) (Ls := L1) (h := h) (t := a) (k := nv (wq h a 0))).2
          rw [y1, pm_bd_s, pk_mul, ltn_ite (by omega) (by omega)]
          by_cases g : mnu h (wsc h i) < 2 * chv n1 L1 h a (nv (wq h a 0))
          · rw [if_pos g, ck_f (fun z => z.elim (fun y => y e) (fun y => by omega))]; exact ⟨y, rfl, y2⟩
          · rw [if_neg g, ck_t (Or.inr (by omega))]; exact ⟨y, rfl, y2⟩
        · rw [if_neg e, ck_t (Or.inl e)]; exact ⟨h, rfl, eqi.rf⟩
    · rw [if_neg s1, if_neg s1, ck_t trivial]; exact ⟨h, rfl, eqi.rf⟩
theorem cdm_eq {h' : pm_Hp} (e : h' 170 = h 170) (e9 : h' 169 34 = h 169 34 ∧ h' 169 35 = h 169 35) (i t : Nat) : cdm h' i t = cdm h i t := by
  unfold cdm
  rw [cdw_eq e, e9.1, e9.2]
abbrev FARN : Nat := 1000000000
noncomputable def loF (n0 : Nat) (L0 : Nat → Ln) (T : Nat) (h : pm_Hp) (i : Nat) : Nat := mnf (cdm h i) (cow n0 L0 h i) FARN T
theorem m_leastOf {d i : Nat} (hd : 9 ≤ d) (F : FS T R A n0 n1 q N M L0 L1 h) (hi : i < M) : ∃ h', pm_ev d 256 [.ref 169, .int (nI i)] h = some (nI (loF n0 L0 T h i), h') ∧ eqi [178, 179] h h' := by
  obtain ⟨d, rfl, -⟩ := dpos hd
  have hA := F.2.1.1
  have hT := F.1.1.1
  have hM := F.2.2.2.2.1.2.1
  obtain ⟨w1, w2, w3, w4, -⟩ := F.2.2.2.2.1.wr hA hi
  rw [e_X10_leastOf]
  have key : ∀ (m t : Nat) (g : pm_Hp), t + m = T → eqi [178, 179] h g → ∃ h', pm_rn d kX10_leastOf 6 [.ref 169, .int (nI i), .int (nI (mnf (cdm h i) (cow n0 L0 h i) FARN t)), .int (nI t)] [] g = some (nI (loF n0 L0 T h i), h') ∧ eqi [178, 179] h h' := by
    intro m
    induction m with
    | zero =>
      intro t g ht E
      have e324 : g 170 324 = nI T := by rw [E 170 (by simp)]; exact F.1.1.2.2.1
      rw [b_X10_leastOf_6, e324, if_neg (nI_nlt (by omega) (by omega)), show t = T by omega]
      exact ⟨g, rfl, E⟩
    | succ m ih =>
      intro t g ht E
      have e170 : g 170 = h 170 := E 170 (by simp)
      have e169 : g 169 = h 169 := E 169 (by simp)
      have e324 : g 170 324 = nI T := by rw [e170]; exact F.1.1.2.2.1
      have Fg := F.e178 E
      have tT : t < T := by omega
      have us : mnf (cdm h i) (cow n0 L0 h i) FARN (t + 1) = ck (cdm h i t) (min (mnf (cdm h i) (cow n0 L0 h i) FARN t) (cow n0 L0 h i t)) (mnf (cdm h i) (cow n0 L0 h i) FARN t) := rfl
      have mB : mnf (cdm h i) (cow n0 L0 h i) FARN t ≤ 1000000000 := mnf_B t
      rw [b_X10_leastOf_6, e324, if_pos (nI_lt (by omega) (by omega)), m_canWear (by omega) Fg hi tT, pm_bd_s, cdm_eq e170 (by rw [e169]; exact ⟨rfl, rfl⟩), nI_1]
      by_cases c : cdm h i t
      · rw [ck_t c] at us
        have a1 : wac g i = wac h i := by unfold wac; rw [e170]
        obtain ⟨y, y1, y2⟩ := m_cost (d := d) (i := i) (t := t) (by omega) Fg hi tT
        rw [a1, cow_cg e170] at y1
        have cl := cow_le (n := n0) (Ls := L0) (h := h) i t
        rw [ck_t c, if_neg (by decide), show (1 : Int32) = nI 1 from rfl, m_oW (by omega) g (by omega) (by omega), pm_bd_s, e170, w4.2.1, y1, pm_bd_s, m_lesser (by omega), pm_bd_s, ltn_ite (by omega) (by omega)]
        have := ih (t + 1) y (by omega) (E.tr y2)
        rw [us] at this
        by_cases z : mnf (cdm h i) (cow n0 L0 h i) FARN t < cow n0 L0 h i t
        · rw [if_pos z]
          rw [show min (mnf (cdm h i) (cow n0 L0 h i) FARN t) (cow n0 L0 h i t) = mnf (cdm h i) (cow n0 L0 h i) FARN t by omega] at this
          exact this
        · rw [if_neg z]
          rw [show min (mnf (cdm h i) (cow n0 L0 h i) FARN t) (cow n0 L0 h i t) = cow n0 L0 h i t by omega] at this
          exact this
      · rw [ck_f c] at us
        rw [ck_f c, if_pos rfl]
        have := ih (t + 1) g (by omega) E
        rw [us] at this
        exact this
  exact key T 0 h (by omega) eqi.rf
/-- the bounds, from the end -/
noncomputable def bdr (n0 : Nat) (L0 : Nat → Ln) (T M : Nat) (h : pm_Hp) : Nat → Nat
  | 0 => 0
  | r + 1 => min FARN (loF n0 L0 T h (M - (r + 1)) + bdr n0 L0 T M h r)
theorem bdr_le : ∀ r, bdr n0 L0 T M h r ≤ FARN := by
  intro r
  cases r with
  | zero => exact Nat.zero_le _
  | succ r => exact Nat.min_le_left _ _
theorem loF_eq {h' : pm_Hp} (e : h' 170 = h 170) (e9 : h' 169 34 = h 169 34 ∧ h' 169 35 = h 169 35) (i : Nat) : loF n0 L0 T h' i = loF n0 L0 T h i := by
  unfold loF
  rw [show cdm h' i = cdm h i from funext fun t => cdm_eq e e9 i t, show cow n0 L0 h' i = cow n0 L0 h i from funext fun t => cow_cg e i t]
theorem m_bounds {d : Nat} (hd : 10 ≤ d) (F : FS T R A n0 n1 q N M L0 L1 h) : ∃ h', pm_ev d 257 [.ref 169] h = some (0, h') ∧ eqi [178, 179, 182] h h' ∧ ∀ i, i ≤ M → h' 182 i = nI (bdr n0 L0 T M h (M - i)) := by
  obtain ⟨d, rfl, -⟩ := dpos hd
  have hM := F.2.2.2.2.1.2.1
  have eM : h 170 328 = nI M := F.2.2.2.2.1.2.2.2.2.2.1
  rw [e_X10_laysBounds, eM, pm_at_c (by omega) (by omega)]
  have key : ∀ (i : Nat) (g : pm_Hp), i ≤ M → eqi [178, 179, 182] h g → (∀ x, i ≤ x → x ≤ M → g 182 x = nI (bdr n0 L0 T M h (M - x))) → ∃ h', pm_rn d kX10_laysBounds 25 [.ref 169, .int (nI i - 1)] [] g = some (0, h') ∧ eqi [178, 179, 182] h h' ∧ ∀ i, i ≤ M → h' 182 i = nI (bdr n0 L0 T M h (M - i)) := by
    intro i
    induction i with
    | zero =>
      intro g hi E D
      rw [b_X10_laysBounds_25, if_pos (by decide)]
      exact ⟨g, rfl, E, fun x hx => D x (Nat.zero_le _) hx⟩
    | succ i ih =>
      intro g hi E D
      have e1 : nI (i + 1) - 1 = nI i := by rw [show (1 : Int32) = nI 1 from rfl, pk_sub (by omega)]; rfl
      have e170 : g 170 = h 170 := E 170 (by simp)
      have e169 : g 169 = h 169 := E 169 (by simp)
      have Fg : FS T R A n0 n1 q N M L0 L1 g := F.cm (fun k hk => E k (by simp; omega))
      obtain ⟨y, y1, y2⟩ := m_leastOf (d := d) (i := i) (by omega) Fg (by omega)
      rw [loF_eq e170 (by rw [e169]; exact ⟨rfl, rfl⟩)] at y1
      have lB : loF n0 L0 T h i ≤ 1000000000 := mnf_B T
      have bB : bdr n0 L0 T M h (M - (i + 1)) ≤ 1000000000 := bdr_le (n0 := n0) (L0 := L0) (T := T) (M := M) (h := h) (M - (i + 1))
      have us : bdr n0 L0 T M h (M - i) = min FARN (loF n0 L0 T h i + bdr n0 L0 T M h (M - (i + 1))) := by
        rw [show M - i = (M - (i + 1)) + 1 by omega]
        show min FARN (loF n0 L0 T h (M - (M - (i + 1) + 1)) + _) = _
        rw [show M - (M - (i + 1) + 1) = i by omega]
      rw [b_X10_laysBounds_25, e1, if_neg (nI_pos (by omega)), y1, pm_bd_s, nI_1, pm_at_c (by omega) (by omega), y2 182 (by simp), D (i + 1) (by omega) hi, nI_add, m_lesser (by omega), pm_bd_s, ltn_ite (by omega) (by omega), pm_at_c (by omega) (by omega)]
      have ev : (if FARN < loF n0 L0 T h i + bdr n0 L0 T M h (M - (i + 1)) then nI FARN else nI (loF n0 L0 T h i + bdr n0 L0 T M h (M - (i + 1)))) = nI (bdr n0 L0 T M h (M - i)) := by
        rw [us]
        by_cases z : FARN < loF n0 L0 T h i + bdr n0 L0 T M h (M - (i + 1))
        · rw [if_pos z, Nat.min_eq_left (by omega)]
        · rw [if_neg z, Nat.min_eq_right (by omega)]
      rw [ev, show nI i + (-1) = nI i - 1 by rw [Int32.sub_eq_add_neg]]
      refine ih _ (by omega) (fun a ha => ?_) (fun x h1 h2 => ?_)
      · have a1 : a ≠ 182 := fun z => ha (by simp [z])
        rw [pm_up_n a1, y2 a (fun z => ha (by simp at z ⊢; omega))]
        exact E a ha
      · by_cases e : x = i
        · rw [e, pm_up_s]
        · rw [pm_up_j e, y2 182 (by simp)]
          exact D x (by omega) h2
  exact key M _ (Nat.le_refl _) (fun a ha => pm_up_n (fun z => ha (by simp [z]))) (fun x h1 h2 => by rw [show x = M by omega, pm_up_s, Nat.sub_self]; rfl)
/-- where every wear has a candidate, the bounds are sums -/
theorem bdr_sum : ∀ (r : Nat), r ≤ M → M ≤ 6 → (∀ j, M - r ≤ j → j < M → ∃ b, b < T ∧ cdm h j b) → bdr n0 L0 T M h r = sm (loF n0 L0 T h) (M - r) r := by
  intro r
  induction r with
  | zero => intro _ _ _; rfl
  | succ r ih =>
    intro hr hM ex
    have e := ih (by omega) hM (fun j h1 h2 => ex j (by omega) h2)
    have lo : ∀ j, M - (r + 1) ≤ j → j < M → loF n0 L0 T h j ≤ 1000000 := fun j h1 h2 => by
      obtain ⟨b, hb, pb⟩ := ex j h1 h2
      exact mnf_ex (fun b => cow_le j b) T ⟨b, hb, pb⟩
    have s := sm_le (mm := loF n0 L0 T h) (B := 1000000) r (M - r) (fun j h1 h2 => lo j (by omega) (by omega))
    have r6 : r * 1000000 ≤ 6 * 1000000 := Nat.mul_le_mul_right _ (by omega)
    have l0 := lo (M - (r + 1)) (Nat.le_refl _) (by omega)
    show min FARN (loF n0 L0 T h (M - (r + 1)) + bdr n0 L0 T M h r) = loF n0 L0 T h (M - (r + 1)) + sm (loF n0 L0 T h) (M - (r + 1) + 1) r
    rw [e, show M - (r + 1) + 1 = M - r by omega]
    exact Nat.min_eq_right (by show _ ≤ 1000000000; omega)
/-- where one has none, they are far -/
theorem bdr_far : ∀ (r j : Nat), r ≤ M → M - r ≤ j → j < M → (∀ b, b < T → ¬ cdm h j b) → bdr n0 L0 T M h r = FARN := by
  intro r
  induction r with
  | zero => intro j _ h1 h2; omega
  | succ r ih =>
    intro j hr h1 h2 no
    show min FARN (loF n0 L0 T h (M - (r + 1)) + bdr n0 L0 T M h r) = FARN
    by_cases e : j = M - (r + 1)
    · have : loF n0 L0 T h (M - (r + 1)) = FARN := by rw [← e]; exact mnf_none T no
      rw [this]
      exact Nat.min_eq_left (by omega)
    · rw [ih j (by omega) (by omega) h2 no]
      exact Nat.min_eq_left (by omega)
end
