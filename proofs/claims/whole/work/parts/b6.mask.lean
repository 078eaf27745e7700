/-! WHAT IS ASKED of the model's plan -/
section
variable {T R A n0 n1 q N M : Nat} {L0 L1 : Nat → Ln} {h : pm_Hp}
theorem or_0 (x : Int32) : x ||| 0 = x := by
  apply Int32.toBitVec_inj.mp
  rw [Int32.toBitVec_or]
  simp
theorem m_chg {d : Nat} (hd : 2 ≤ d) (F : FS T R A n0 n1 q N M L0 L1 h) : pm_ev d 260 [.ref 169] h = some (nI (chg h (h 181) M), h) := by
  obtain ⟨d, rfl, -⟩ := dpos hd
  have hA := F.2.1.1
  have S := F.2.2.2.2.1
  have hM := S.2.1
  have hN := S.1
  have eM : h 170 328 = nI M := S.2.2.2.2.2.1
  have f0 : ∀ k, k < 6 → pm_ev d 253 [.ref 169, .int (nI k), .int 0] h = some (ww (h 170) k 0, h) := fun k hk => m_oW (f := 0) (by omega) h hk (by omega)
  have f1 : ∀ k, k < 6 → pm_ev d 253 [.ref 169, .int (nI k), .int 1] h = some (ww (h 170) k 1, h) := fun k hk => m_oW (f := 1) (by omega) h hk (by omega)
  have a0 : ∀ x : Int32, x + 0 = x := fun x => by rw [Int32.add_zero]
  rw [e_X10_changes]
  have inn : ∀ (m i j n : Nat), i < M → j + m = M → i < j → pm_rn d kX10_changes 20 [.ref 169, .int (nI n), .int (nI i), .int (nI j)] [] h = pm_rn d kX10_changes 4 [.ref 169, .int (nI (itr (chI h (h 181) i) j m n)), .int (nI (i + 1)), .int (nI M)] [] h := by
    intro m
    induction m with
    | zero =>
      intro i j n hi hj hij
      have : j = M := by omega
      subst this
      rw [b_X10_changes_20, eM, if_neg (nI_nlt (by omega) (by omega)), nI_1]
      rfl
    | succ m ih =>
      intro i j n hi hj hij
      obtain ⟨w1, w2, w3, w4, -⟩ := S.wr hA hi
      obtain ⟨x1, x2, x3, x4, -⟩ := S.wr hA (show j < M by omega)
      have st : ∀ n', chI h (h 181) i j n = n' → pm_rn d kX10_changes 20 [.ref 169, .int (nI n'), .int (nI i), .int (nI (j + 1))] [] h = pm_rn d kX10_changes 4 [.ref 169, .int (nI (itr (chI h (h 181) i) j (m + 1) n)), .int (nI (i + 1)), .int (nI M)] [] h := fun n' hn => by
        rw [ih i (j + 1) n' hi (by omega) (by omega), ← hn]
        rfl
      rw [b_X10_changes_20, eM, if_pos (nI_lt (by omega) (by omega)), f0 i (by omega), pm_bd_s, f0 j (by omega), pm_bd_s, w4.1, x4.1, nI_1, nI_ite (by omega) (by omega), a0, nI_1, nI_1]
      by_cases g1 : wsc h i + 1 = wsc h j
      · rw [if_pos g1, f1 i (by omega), pm_bd_s, f1 j (by omega), pm_bd_s, w4.2.1, x4.2.1, nI_ite (by omega) (by omega), pm_at_c (by omega) (by omega), pm_at_c (by omega) (by omega)]
        by_cases g2 : wac h i = wac h j
        · rw [if_pos g2]
          by_cases g3 : h 181 i = h 181 j
          · rw [if_pos g3]
            exact st n (ck_f (fun z => z.2.2 g3))
          · rw [if_neg g3]
            exact st (n + 1) (ck_t ⟨g1, g2, g3⟩)
        · rw [if_neg g2]
          exact st n (ck_f (fun z => g2 z.2.1))
      · rw [if_neg g1]
        exact st n (ck_f (fun z => g1 z.1))
  have out : ∀ (m i n : Nat) (u : Value), i + m = M → pm_rn d kX10_changes 4 [.ref 169, .int (nI n), .int (nI i), u] [] h = some (nI (itr (fun i n => itr (chI h (h 181) i) (i + 1) (M - (i + 1)) n) i m n), h) := by
    intro m
    induction m with
    | zero =>
      intro i n u hi
      rw [b_X10_changes_4, eM, if_neg (nI_nlt (by omega) (by omega))]
      rfl
    | succ m ih =>
      intro i n u hi
      rw [b_X10_changes_4, eM, if_pos (nI_lt (by omega) (by omega)), nI_1, inn (M - (i + 1)) i (i + 1) n (by omega) (by omega) (by omega), ih (i + 1) _ _ (by omega)]
      rfl
  exact out M 0 0 .null (by omega)
theorem m_uses {d : Nat} (hd : 1 ≤ d) (F : FS T R A n0 n1 q N M L0 L1 h) (v : Int32) : ∃ r, pm_ev d 265 [.ref 169, .int v] h = some (r, h) ∧ bs M r (fun k => h 181 k = v) := by
  obtain ⟨d, rfl, -⟩ := dpos hd
  have S := F.2.2.2.2.1
  have hM := S.2.1
  have eM : h 170 328 = nI M := S.2.2.2.2.2.1
  rw [e_X10_uses]
  have key : ∀ (m k : Nat) (r : Int32), k + m = M → bs M r (fun x => h 181 x = v ∧ x < k) → ∃ r', pm_rn d kX10_uses 4 [.ref 169, .int v, .int r, .int (nI k)] [] h = some (r', h) ∧ bs M r' (fun k => h 181 k = v) := by
    intro m
    induction m with
    | zero =>
      intro k r hk B
      rw [b_X10_uses_4, eM, if_neg (nI_nlt (by omega) (by omega))]
      exact ⟨r, rfl, B.cg (fun b hb => ⟨fun z => z.1, fun z => ⟨z, by omega⟩⟩)⟩
    | succ m ih =>
      intro k r hk B
      rw [b_X10_uses_4, eM, if_pos (nI_lt (by omega) (by omega)), pm_at_c (by omega) (by omega), nI_1, or_0]
      by_cases g : h 181 k = v
      · rw [if_pos g]
        refine ih (k + 1) _ (by omega) ((B.add (by omega) (by omega)).cg (fun b hb => ⟨fun z => ?_, fun z => ?_⟩))
        · rcases z with z | z
          · exact ⟨z.1, by omega⟩
          · rw [z]; exact ⟨g, by omega⟩
        · by_cases e : b = k
          · exact Or.inr e
          · exact Or.inl ⟨z.1, by omega⟩
      · rw [if_neg g]
        refine ih (k + 1) _ (by omega) (B.cg (fun b hb => ⟨fun z => ⟨z.1, by omega⟩, fun z => ⟨z.1, ?_⟩⟩))
        by_cases e : b = k
        · have := z.1; rw [e] at this; exact absurd this g
        · omega
  exact key M 0 0 (by omega) (bs.zero.cg (fun b hb => ⟨fun z => absurd z id, fun z => absurd z.2 (Nat.not_lt_zero b)⟩))
theorem m_isInst {d i t : Nat} {f : Nat → Nat} (hd : 8 ≤ d) (F : FS T R A n0 n1 q N M L0 L1 h) (hi : i < M) (ht : t < T) (hf : ∀ k, k < M → h 181 k = nI (f k) ∧ f k < T) : ∃ h', pm_ev d 261 [.ref 169, .int (nI i), .int (nI t)] h = some (ck (insP (cdm h) (gtw n1 L1 h) M f i t) 1 0, h') ∧ eqi [178, 179] h h' := by
  obtain ⟨d, rfl, -⟩ := dpos hd
  have S := F.2.2.2.2.1
  have hM := S.2.1
  have hT := F.1.1.1
  have eM : h 170 328 = nI M := S.2.2.2.2.2.1
  obtain ⟨f1, f2⟩ := hf i hi
  rw [e_X10_isInstead, pm_at_c (by omega) (by omega), f1, nI_ite (by omega) (by omega)]
  by_cases g1 : t = f i
  · rw [if_pos g1, ck_f (fun z => z.2.1 g1)]
    exact ⟨h, rfl, eqi.rf⟩
  · rw [if_neg g1, m_canWear (by omega) F hi ht, pm_bd_s]
    by_cases g2 : cdm h i t
    · rw [ck_t g2, if_neg (by decide)]
      have key : ∀ (m j : Nat) (g : pm_Hp), j + m = M → eqi [178, 179] h g → (∀ k, k < j → k < i → gtw n1 L1 h k (f k) i t) → (∀ k, k < j → i < k → gtw n1 L1 h i t k (f k)) → ∃ h', pm_rn d kX10_isInstead 23 [.ref 169, .int (nI i), .int (nI t), .int (nI j)] [] g = some (ck (insP (cdm h) (gtw n1 L1 h) M f i t) 1 0, h') ∧ eqi [178, 179] h h' := by
        intro m
        induction m with
        | zero =>
          intro j g hj E P1 P2
          have gM : g 170 328 = nI M := by rw [E 170 (by simp)]; exact eM
          rw [b_X10_isInstead_23, gM, if_neg (nI_nlt (by omega) (by omega)), ck_t ⟨g2, g1, fun k hk => P1 k (by omega) hk, fun k h1 h2 => P2 k (by omega) h1⟩]
          exact ⟨g, rfl, E⟩
        | succ m ih =>
          intro j g hj E P1 P2
          have gM : g 170 328 = nI M := by rw [E 170 (by simp)]; exact eM
          have e170 : g 170 = h 170 := E 170 (by simp)
          have Fg := F.e178 E
          have fj : g 181 j = nI (f j) := by rw [E 181 (by simp)]; exact (hf j (by omega)).1
          rw [b_X10_isInstead_23, gM, if_pos (nI_lt (by omega) (by omega)), ltn_ite (by omega) (by omega)]
          by_cases c1 : j < i
          · obtain ⟨y, y1, y2⟩ := m_goT (d := d) (i := j) (j := i) (a := f j) (b := t) (by omega) Fg (by omega) hi (hf j (by omega)).2 ht
            rw [gtw_eq e170] at y1
            rw [if_pos c1, pm_at_c (by omega) (by omega), fj, y1, pm_bd_s]
            by_cases c2 : gtw n1 L1 h j (f j) i t
            · rw [ck_t c2, if_neg (by decide), len_ite (by omega) (by omega), if_pos (by omega), nI_1]
              refine ih (j + 1) y (by omega) (E.tr y2) (fun k h1 h2 => ?_) (fun k h1 h2 => P2 k (by omega) h2)
              by_cases e : k = j
              · rw [e]; exact c2
              · exact P1 k (by omega) h2
            · rw [ck_f c2, if_pos rfl, ck_f (fun z => c2 (z.2.2.1 j c1))]
              exact ⟨y, rfl, E.tr y2⟩
          · rw [if_neg c1, len_ite (by omega) (by omega)]
            by_cases c2 : j ≤ i
            · rw [if_pos c2, nI_1]
              exact ih (j + 1) g (by omega) E (fun k h1 h2 => P1 k (by omega) h2) (fun k h1 h2 => P2 k (by omega) h2)
            · obtain ⟨y, y1, y2⟩ := m_goT (d := d) (i := i) (j := j) (a := t) (b := f j) (by omega) Fg hi (by omega) ht (hf j (by omega)).2
              rw [gtw_eq e170] at y1
              rw [if_neg c2, pm_at_c (by omega) (by omega), fj, y1, pm_bd_s]
              by_cases c3 : gtw n1 L1 h i t j (f j)
              · rw [ck_t c3, if_neg (by decide), nI_1]
                refine ih (j + 1) y (by omega) (E.tr y2) (fun k h1 h2 => P1 k (by omega) h2) (fun k h1 h2 => ?_)
                by_cases e : k = j
                · rw [e]; exact c3
                · exact P2 k (by omega) h2
              · rw [ck_f c3, if_pos rfl, ck_f (fun z => c3 (z.2.2.2 j (by omega) (by omega)))]
                exact ⟨y, rfl, E.tr y2⟩
      exact key M 0 h (by omega) eqi.rf (fun k hk => absurd hk (Nat.not_lt_zero k)) (fun k hk => absurd hk (Nat.not_lt_zero k))
    · rw [ck_f g2, if_pos rfl, ck_f (fun z => g2 z.1)]
      exact ⟨h, rfl, eqi.rf⟩
theorem m_inst {d i : Nat} {f : Nat → Nat} (hd : 9 ≤ d) (F : FS T R A n0 n1 q N M L0 L1 h) (hi : i < M) (hf : ∀ k, k < M → h 181 k = nI (f k) ∧ f k < T) : ∃ r h', pm_ev d 262 [.ref 169, .int (nI i)] h = some (r, h') ∧ eqi [178, 179] h h' ∧ bs T r (insP (cdm h) (gtw n1 L1 h) M f i) := by
  obtain ⟨d, rfl, -⟩ := dpos hd
  have hT := F.1.1.1
  rw [e_X10_instead]
  have key : ∀ (m t : Nat) (r : Int32) (g : pm_Hp), t + m = T → eqi [178, 179] h g → bs T r (fun b => insP (cdm h) (gtw n1 L1 h) M f i b ∧ b < t) → ∃ r' h', pm_rn d kX10_instead 4 [.ref 169, .int (nI i), .int r, .int (nI t)] [] g = some (r', h') ∧ eqi [178, 179] h h' ∧ bs T r' (insP (cdm h) (gtw n1 L1 h) M f i) := by
    intro m
    induction m with
    | zero =>
      intro t r g ht E B
      have gT : g 170 324 = nI T := by rw [E 170 (by simp)]; exact F.1.1.2.2.1
      rw [b_X10_instead_4, gT, if_neg (nI_nlt (by omega) (by omega))]
      exact ⟨r, g, rfl, E, B.cg (fun b hb => ⟨fun z => z.1, fun z => ⟨z, by omega⟩⟩)⟩
    | succ m ih =>
      intro t r g ht E B
      have gT : g 170 324 = nI T := by rw [E 170 (by simp)]; exact F.1.1.2.2.1
      have e170 : g 170 = h 170 := E 170 (by simp)
      have e169 : g 169 = h 169 := E 169 (by simp)
      obtain ⟨y, y1, y2⟩ := m_isInst (d := d) (t := t) (f := f) (by omega) (F.e178 E) hi (by omega) (fun k hk => by rw [E 181 (by simp)]; exact hf k hk)
      rw [show cdm g = cdm h from funext fun x => funext fun z => cdm_eq e170 (by rw [e169]; exact ⟨rfl, rfl⟩) x z, show gtw n1 L1 g = gtw n1 L1 h from funext fun a => funext fun b => funext fun c => funext fun x => gtw_eq e170 a b c x] at y1
      rw [b_X10_instead_4, gT, if_pos (nI_lt (by omega) (by omega)), y1, pm_bd_s, nI_1, or_0]
      by_cases c : insP (cdm h) (gtw n1 L1 h) M f i t
      · rw [ck_t c, if_neg (by decide)]
        refine ih (t + 1) _ y (by omega) (E.tr y2) ((B.add hT (by omega)).cg (fun b hb => ⟨fun z => ?_, fun z => ?_⟩))
        · rcases z with z | z
          · exact ⟨z.1, by omega⟩
          · rw [z]; exact ⟨c, by omega⟩
        · by_cases e : b = t
          · exact Or.inr e
          · exact Or.inl ⟨z.1, by omega⟩
      · rw [ck_f c, if_pos rfl]
        refine ih (t + 1) _ y (by omega) (E.tr y2) (B.cg (fun b hb => ⟨fun z => ⟨z.1, by omega⟩, fun z => ⟨z.1, ?_⟩⟩))
        by_cases e : b = t
        · have := z.1; rw [e] at this; exact absurd this c
        · omega
  exact key T 0 0 h (by omega) eqi.rf (bs.zero.cg (fun b hb => ⟨fun z => absurd z id, fun z => absurd z.2 (Nat.not_lt_zero b)⟩))
theorem m_else {d i : Nat} {v : Int32} (hd : 19 ≤ d) (F : FS T R A n0 n1 q N M L0 L1 h) (hi : i < M) (hv : h 181 i = v) : ∃ h', pm_ev d 264 [.ref 169, .int (nI i)] h = some (if (exs T (cdm (pm_up (pm_up h 169 34 (nI i)) 169 35 v)) (cow n0 L0 h) (gtw n1 L1 h) M 0 (fun _ => 0) 0 s00).1 = true then nI (exs T (cdm (pm_up (pm_up h 169 34 (nI i)) 169 35 v)) (cow n0 L0 h) (gtw n1 L1 h) M 0 (fun _ => 0) 0 s00).2.1 else -1, h') ∧ (∀ a, a ≠ 169 → (a < 178 ∨ 182 < a) → h' a = h a) ∧ (∀ j, (j < 32 ∨ 35 < j) → h' 169 j = h 169 j) ∧ h' 169 34 = -1 ∧ h' 169 35 = -1 := by
  obtain ⟨d, rfl, -⟩ := dpos hd
  have hM := F.2.2.2.2.1.2.1
  rw [e_X10_elseOf, pm_at_c (by omega) (by omega), hv]
  generalize hg : pm_up (pm_up h 169 34 (nI i)) 169 35 v = g
  have go : ∀ a, a ≠ 169 → g a = h a := fun a x => by rw [← hg, pm_up_n x, pm_up_n x]
  have gj : ∀ j, j ≠ 34 → j ≠ 35 → g 169 j = h 169 j := fun j x y => by rw [← hg, pm_up_j y, pm_up_j x]
  obtain ⟨y, y1, y2, y3, y4⟩ := m_laysP (d := d) (by omega) (F.cm (h' := g) (fun k hk => go k (by omega)))
  obtain ⟨-, q2, q3⟩ := fun3 (n0 := n0) (n1 := n1) (L0 := L0) (L1 := L1) (go 170 (by omega))
  rw [q2, q3] at y1 y4
  rw [y1, pm_bd_s]
  have fr : (∀ a, a ≠ 169 → (a < 178 ∨ 182 < a) → (pm_up (pm_up y 169 34 (-1)) 169 35 (-1)) a = h a) ∧ (∀ j, (j < 32 ∨ 35 < j) → (pm_up (pm_up y 169 34 (-1)) 169 35 (-1)) 169 j = h 169 j) ∧ (pm_up (pm_up y 169 34 (-1)) 169 35 (-1)) 169 34 = -1 ∧ (pm_up (pm_up y 169 34 (-1)) 169 35 (-1)) 169 35 = -1 := ⟨fun a x z => by rw [pm_up_n x, pm_up_n x, y2 a x z]; exact go a x, fun j hj => by rw [pm_up_j (by omega), pm_up_j (by omega), y3 j (by omega) (by omega)]; exact gj j (by omega) (by omega), by rw [pm_up_j (by omega), pm_up_s], pm_up_s⟩
  by_cases s : (exs T (cdm g) (cow n0 L0 h) (gtw n1 L1 h) M 0 (fun _ => 0) 0 s00).1 = true
  · rw [b2_t s, if_neg (by decide), if_pos s, (y4.2 s).1]
    exact ⟨_, rfl, fr⟩
  · rw [b2_f s, if_pos rfl, if_neg s]
    exact ⟨_, rfl, fr⟩
theorem m_wornAt {d i j k : Nat} {f : Nat → Nat} (hd : 1 ≤ d) (hM : M ≤ 6) (hi : i < M) (hj : j < M) (hk : k < M) (hf : ∀ k, k < M → h 181 k = nI (f k)) : pm_ev d 281 [.ref 169, .int (nI k), .int (nI i), .int (nI j)] h = some (nI (swf f i j k), h) := by
  obtain ⟨d, rfl, -⟩ := dpos hd
  unfold swf
  rw [e_X10_wornAt, nI_ite (by omega) (by omega)]
  by_cases e1 : k = i
  · rw [if_pos e1, if_pos e1, pm_at_c (by omega) (by omega), hf j hj]
  · rw [if_neg e1, if_neg e1, nI_ite (by omega) (by omega)]
    by_cases e2 : k = j
    · rw [if_pos e2, if_pos e2, pm_at_c (by omega) (by omega), hf i hi]
    · rw [if_neg e2, if_neg e2, pm_at_c (by omega) (by omega), hf k hk]
theorem swf_lt {f : Nat → Nat} {i j k : Nat} (hi : i < M) (hj : j < M) (hk : k < M) (hf : ∀ k, k < M → f k < T) : swf f i j k < T := by
  unfold swf
  by_cases e1 : k = i
  · rw [if_pos e1]; exact hf j hj
  · rw [if_neg e1]
    by_cases e2 : k = j
    · rw [if_pos e2]; exact hf i hi
    · rw [if_neg e2]; exact hf k hk
theorem m_canSw {d i j : Nat} {f : Nat → Nat} (hd : 8 ≤ d) (F : FS T R A n0 n1 q N M L0 L1 h) (hij : i < j) (hj : j < M) (hf : ∀ k, k < M → h 181 k = nI (f k) ∧ f k < T) : ∃ h', pm_ev d 282 [.ref 169, .int (nI i), .int (nI j)] h = some (ck (f i ≠ f j ∧ cdm h i (f j) ∧ cdm h j (f i) ∧ ∀ a b, a < b → b < M → gtw n1 L1 h a (swf f i j a) b (swf f i j b)) 1 0, h') ∧ eqi [178, 179] h h' := by
  obtain ⟨d, rfl, -⟩ := dpos hd
  have S := F.2.2.2.2.1
  have hM := S.2.1
  have hT := F.1.1.1
  have eM : h 170 328 = nI M := S.2.2.2.2.2.1
  obtain ⟨i1, i2⟩ := hf i (by omega)
  obtain ⟨j1, j2⟩ := hf j hj
  rw [e_X10_canSwap, pm_at_c (by omega) (by omega), pm_at_c (by omega) (by omega), i1, j1, nI_ite (by omega) (by omega)]
  by_cases g : f i = f j
  · rw [if_pos g, ck_f (fun z => z.1 g)]
    exact ⟨h, rfl, eqi.rf⟩
  · rw [if_neg g, pm_at_c (by omega) (by omega), j1, m_canWear (by omega) F (by omega) j2, pm_bd_s]
    by_cases c1 : cdm h i (f j)
    · rw [ck_t c1, if_neg (by decide), pm_at_c (by omega) (by omega), i1, m_canWear (by omega) F hj i2, pm_bd_s]
      by_cases c2 : cdm h j (f i)
      · rw [ck_t c2, if_neg (by decide)]
        have out : ∀ (m a : Nat) (g0 : pm_Hp) (u : Value), a + m = M → eqi [178, 179] h g0 → (∀ x b, x < a → x < b → b < M → gtw n1 L1 h x (swf f i j x) b (swf f i j b)) → ∃ h', pm_rn d kX10_canSwap 47 [.ref 169, .int (nI i), .int (nI j), .int (nI a), u] [] g0 = some (ck (f i ≠ f j ∧ cdm h i (f j) ∧ cdm h j (f i) ∧ ∀ a b, a < b → b < M → gtw n1 L1 h a (swf f i j a) b (swf f i j b)) 1 0, h') ∧ eqi [178, 179] h h' := by
          intro m
          induction m with
          | zero =>
            intro a g0 u ha E P
            have gM : g0 170 328 = nI M := by rw [E 170 (by simp)]; exact eM
            rw [b_X10_canSwap_47, gM, if_neg (nI_nlt (by omega) (by omega)), ck_t ⟨g, c1, c2, fun a b h1 h2 => P a b (by omega) h1 h2⟩]
            exact ⟨g0, rfl, E⟩
          | succ m ih =>
            intro a g0 u ha E P
            have gM : g0 170 328 = nI M := by rw [E 170 (by simp)]; exact eM
            have inn : ∀ (mm b : Nat) (y : pm_Hp), b + mm = M → a < b → eqi [178, 179] h y → (∀ x, a < x → x < b → gtw n1 L1 h a (swf f i j a) x (swf f i j x)) → ∃ h', pm_rn d kX10_canSwap 64 [.ref 169, .int (nI i), .int (nI j), .int (nI a), .int (nI b)] [] y = some (ck (f i ≠ f j ∧ cdm h i (f j) ∧ cdm h j (f i) ∧ ∀ a b, a < b → b < M → gtw n1 L1 h a (swf f i j a) b (swf f i j b)) 1 0, h') ∧ eqi [178, 179] h h' := by
              intro mm
              induction mm with
              | zero =>
                intro b y hb hab E Q
                have gM : y 170 328 = nI M := by rw [E 170 (by simp)]; exact eM
                rw [b_X10_canSwap_64, gM, if_neg (nI_nlt (by omega) (by omega)), nI_1]
                refine ih (a + 1) y _ (by omega) E (fun x b' h1 h2 h3 => ?_)
                by_cases e : x = a
                · rw [e] at h2 ⊢; exact Q b' h2 (by omega)
                · exact P x b' (by omega) h2 h3
              | succ mm ih2 =>
                intro b y hb hab E Q
                have gM : y 170 328 = nI M := by rw [E 170 (by simp)]; exact eM
                have e170 : y 170 = h 170 := E 170 (by simp)
                have fy : ∀ k, k < M → y 181 k = nI (f k) := fun k hk => by rw [E 181 (by simp)]; exact (hf k hk).1
                obtain ⟨z, z1, z2⟩ := m_goT (d := d) (i := a) (j := b) (a := swf f i j a) (b := swf f i j b) (by omega) (F.e178 E) (by omega) (by omega) (swf_lt (by omega) hj (by omega) (fun k hk => (hf k hk).2)) (swf_lt (by omega) hj (by omega) (fun k hk => (hf k hk).2))
                rw [gtw_eq e170] at z1
                rw [b_X10_canSwap_64, gM, if_pos (nI_lt (by omega) (by omega)), m_wornAt (by omega) hM (by omega) hj (by omega) fy, pm_bd_s, m_wornAt (by omega) hM (by omega) hj (by omega) fy, pm_bd_s, z1, pm_bd_s]
                by_cases c3 : gtw n1 L1 h a (swf f i j a) b (swf f i j b)
                · rw [ck_t c3, if_neg (by decide), nI_1]
                  refine ih2 (b + 1) z (by omega) (by omega) (E.tr z2) (fun x h1 h2 => ?_)
                  by_cases e : x = b
                  · rw [e]; exact c3
                  · exact Q x h1 (by omega)
                · rw [ck_f c3, if_pos rfl, ck_f (fun z => c3 (z.2.2.2 a b hab (by omega)))]
                  exact ⟨z, rfl, E.tr z2⟩
            rw [b_X10_canSwap_47, gM, if_pos (nI_lt (by omega) (by omega)), nI_1]
            exact inn (M - (a + 1)) (a + 1) g0 (by omega) (by omega) E (fun x h1 h2 => by omega)
        exact out M 0 h .null (by omega) eqi.rf (fun x b hx => absurd hx (Nat.not_lt_zero x))
      · rw [ck_f c2, if_pos rfl, ck_f (fun z => c2 z.2.2.1)]
        exact ⟨h, rfl, eqi.rf⟩
    · rw [ck_f c1, if_pos rfl, ck_f (fun z => c1 z.2.1)]
      exact ⟨h, rfl, eqi.rf⟩
theorem m_swC {d i j : Nat} {f : Nat → Nat} (hd : 9 ≤ d) (F : FS T R A n0 n1 q N M L0 L1 h) (hi : i < M) (hj : j < M) (hf : ∀ k, k < M → h 181 k = nI (f k) ∧ f k < T) : ∃ h', pm_ev d 283 [.ref 169, .int (nI i), .int (nI j)] h = some (nI (sm (fun k => cow n0 L0 h k (swf f i j k)) 0 M), h') ∧ eqi [178, 179] h h' := by
  obtain ⟨d, rfl, -⟩ := dpos hd
  have S := F.2.2.2.2.1
  have hM := S.2.1
  have hA := F.2.1.1
  have eM : h 170 328 = nI M := S.2.2.2.2.2.1
  rw [e_X10_swapCost]
  have key : ∀ (m k : Nat) (g : pm_Hp), k + m = M → eqi [178, 179] h g → ∃ h', pm_rn d kX10_swapCost 5 [.ref 169, .int (nI i), .int (nI j), .int (nI (sm (fun k => cow n0 L0 h k (swf f i j k)) 0 k)), .int (nI k)] [] g = some (nI (sm (fun k => cow n0 L0 h k (swf f i j k)) 0 M), h') ∧ eqi [178, 179] h h' := by
    intro m
    induction m with
    | zero =>
      intro k g hk E
      have gM : g 170 328 = nI M := by rw [E 170 (by simp)]; exact eM
      rw [b_X10_swapCost_5, gM, if_neg (nI_nlt (by omega) (by omega)), show k = M by omega]
      exact ⟨g, rfl, E⟩
    | succ m ih =>
      intro k g hk E
      have gM : g 170 328 = nI M := by rw [E 170 (by simp)]; exact eM
      have e170 : g 170 = h 170 := E 170 (by simp)
      obtain ⟨w1, w2, w3, w4, -⟩ := S.wr hA (show k < M by omega)
      obtain ⟨z, z1, z2⟩ := m_cost (d := d) (i := k) (t := swf f i j k) (by omega) (F.e178 E) (by omega) (swf_lt hi hj (by omega) (fun k hk => (hf k hk).2))
      rw [show wac g k = wac h k by unfold wac; rw [e170], cow_cg e170] at z1
      rw [b_X10_swapCost_5, gM, if_pos (nI_lt (by omega) (by omega)), m_wornAt (by omega) hM hi hj (by omega) (fun k hk => by rw [E 181 (by simp)]; exact (hf k hk).1), pm_bd_s, (show pm_ev d 253 [.ref 169, .int (nI k), .int 1] g = some (nI (wac h k), g) by
        rw [show (1 : Int32) = nI 1 from rfl, m_oW (by omega) _ (by omega) (by omega), e170, w4.2.1]), pm_bd_s, z1, pm_bd_s, nI_add, nI_1]
      have := ih (k + 1) z (by omega) (E.tr z2)
      rw [sm_end, Nat.zero_add] at this
      exact this
  exact key M 0 h (by omega) eqi.rf
end
