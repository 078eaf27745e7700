/-! THE CLASS RELATES two wears -/
theorem c_chm {T R A n0 n1 q N M d t k : Nat} {L0 L1 : Nat → Ln} {h : pm_Hp} (hd : 5 ≤ d) (F : FS T R A n0 n1 q N M L0 L1 h) (ht : t < T) : ∃ h', pm_ev d 36 [.ref 1, .int (nI t), .int (nI k)] h = some (nI (chv n1 L1 h t k), h') ∧ eqi [31, 37] h h' := by
  obtain ⟨h', a1, a2⟩ := c_changeMinutes (d := d) hd F.1.1 F.2.2.2.1 ht (nI k)
  exact ⟨h', by rw [a1, ← chv_eq.1], a2⟩
theorem chv_cg {n : Nat} {Ls : Nat → Ln} {h h' : pm_Hp} (e : h' 170 = h 170) (t k : Nat) : chv n Ls h' t k = chv n Ls h t k := by
  unfold chv wq
  rw [e]
theorem c_quick {T R A n0 n1 q N M d t mi : Nat} {L0 L1 : Nat → Ln} {h : pm_Hp} {v : Int32} {P : Nat → Prop} (hd : 6 ≤ d) (F : FS T R A n0 n1 q N M L0 L1 h) (ht : t < T) (hm : mi ≤ 99) (a : bs T v P) (hP : ∀ b, b < T → P b → nv (wq h b 0) ≤ 4) : ∃ r h', pm_ev d 58 [.ref 1, .int (nI mi), .int (nI t), .int v] h = some (r, h') ∧ eqi [31, 37] h h' ∧ bs T r (fun b => P b ∧ (b = t ∨ chv n1 L1 h t (nv (wq h b 0)) ≤ mi)) := by
  obtain ⟨d, rfl, -⟩ := dpos hd
  have hT := F.1.1.1
  rw [e_X4_quickEnough]
  have pick : ∀ (m x : Nat) (kv ac : Int32) (g : pm_Hp) (u1 u2 : Value), x + m = T → eqi [31, 37] h g → bs 5 kv (fun k => chv n1 L1 h t k ≤ mi) → bs T ac (fun b => P b ∧ (b = t ∨ (b < x ∧ chv n1 L1 h t (nv (wq h b 0)) ≤ mi))) → ∃ r h', pm_rn d kX4_quickEnough 48 [.ref 1, u1, u2, .int v, .int kv, .int ac, .int (nI x)] [] g = some (r, h') ∧ eqi [31, 37] h h' ∧ bs T r (fun b => P b ∧ (b = t ∨ chv n1 L1 h t (nv (wq h b 0)) ≤ mi)) := by
    intro m
    induction m with
    | zero =>
      intro x kv ac g u1 u2 hx E K B
      have e11 : g 1 11 = nI T := by rw [E 1 (by simp)]; exact F.1.1.2.2.2.1
      rw [b_X4_quickEnough_48, e11, if_neg (nI_nlt (by omega) (by omega))]
      refine ⟨ac, g, rfl, E, B.cg (fun b hb => ⟨fun z => ⟨z.1, z.2.imp id (fun y => y.2)⟩, fun z => ⟨z.1, z.2.imp id (fun y => ⟨by omega, y⟩)⟩⟩)⟩
    | succ m ih =>
      intro x kv ac g u1 u2 hx E K B
      have e11 : g 1 11 = nI T := by rw [E 1 (by simp)]; exact F.1.1.2.2.2.1
      have xT : x < T := by omega
      rw [b_X4_quickEnough_48, e11, if_pos (nI_lt (by omega) (by omega)), a.has (by omega) hT xT, pm_bd_s, nI_1]
      have skip : ¬ (P x ∧ chv n1 L1 h t (nv (wq h x 0)) ≤ mi) → bs T ac (fun b => P b ∧ (b = t ∨ (b < x + 1 ∧ chv n1 L1 h t (nv (wq h b 0)) ≤ mi))) := fun nx => by
        refine B.cg (fun b hb => ⟨fun z => ⟨z.1, z.2.imp id (fun y => ⟨by omega, y.2⟩)⟩, fun z => ⟨z.1, ?_⟩⟩)
        rcases z.2 with y | y
        · exact Or.inl y
        · by_cases e : b = x
          · have zz : P b ∧ chv n1 L1 h t (nv (wq h b 0)) ≤ mi := ⟨z.1, y.2⟩
            rw [e] at zz
            exact absurd zz nx
          · exact Or.inr ⟨by omega, y.2⟩
      by_cases g1 : P x
      · have k4 := hP x xT g1
        have g11 : g 11 x = nI (nv (wq h x 0)) := by
          rw [E 11 (by simp), F.1.1.r0 xT]
          exact (nv_nb (by omega) (F.1.2.1 x xT).1).1.symm
        rw [ck_t g1, if_neg (by decide), pm_at_c (by omega) (by omega), g11, K.has (by omega) (by omega) (by omega), pm_bd_s]
        by_cases g2 : chv n1 L1 h t (nv (wq h x 0)) ≤ mi
        · rw [ck_t g2, if_neg (by decide)]
          refine ih (x + 1) kv _ g u1 u2 (by omega) E K ?_
          refine (B.add hT xT).cg (fun b hb => ⟨fun z => ?_, fun z => ?_⟩)
          · rcases z with z | z
            · exact ⟨z.1, z.2.imp id (fun y => ⟨by omega, y.2⟩)⟩
            · rw [z]; exact ⟨g1, Or.inr ⟨by omega, g2⟩⟩
          · by_cases e : b = x
            · exact Or.inr e
            · refine Or.inl ⟨z.1, z.2.imp id (fun y => ⟨by omega, y.2⟩)⟩
        · rw [ck_f g2, if_pos rfl]
          exact ih (x + 1) kv ac g u1 u2 (by omega) E K (skip (fun z => g2 z.2))
      · rw [ck_f g1, if_pos rfl]
        exact ih (x + 1) kv ac g u1 u2 (by omega) E K (skip (fun z => g1 z.1))
  have kinds : ∀ (m k : Nat) (kv : Int32) (g : pm_Hp) (u : Value), k + m = 5 → eqi [31, 37] h g → bs 5 kv (fun x => x < k ∧ chv n1 L1 h t x ≤ mi) → ∃ r h', pm_rn d kX4_quickEnough 6 [.ref 1, .int (nI mi), .int (nI t), .int v, .int kv, .int (nI k), u] [] g = some (r, h') ∧ eqi [31, 37] h h' ∧ bs T r (fun b => P b ∧ (b = t ∨ chv n1 L1 h t (nv (wq h b 0)) ≤ mi)) := by
    intro m
    induction m with
    | zero =>
      intro k kv g u hk E K
      rw [b_X4_quickEnough_6, if_neg (nI_nlt (by omega) (by omega))]
      refine pick T 0 kv _ g _ _ (by omega) E (K.cg (fun b hb => ⟨fun z => z.2, fun z => ⟨by omega, z⟩⟩)) ?_
      exact (a.one hT ht).cg (fun b hb => ⟨fun z => ⟨z.1, Or.inl z.2⟩, fun z => ⟨z.1, z.2.resolve_right (fun y => absurd y.1 (Nat.not_lt_zero b))⟩⟩)
    | succ m ih =>
      intro k kv g u hk E K
      have Fg := F.pf (PFr.law (L := [31, 37]) (by simp) E)
      have e170 : g 170 = h 170 := E 170 (by simp)
      obtain ⟨y, y1, y2⟩ := c_chm (d := d) (t := t) (k := k) (by omega) Fg ht
      rw [chv_cg e170] at y1
      have c9 := (chv_eq (n := n1) (Ls := L1) (h := h) (t := t) (k := k)).2
      rw [b_X4_quickEnough_6, if_pos (nI_lt (by omega) (by omega)), y1, pm_bd_s, len_ite (by omega) (by omega), nI_1]
      by_cases g1 : chv n1 L1 h t k ≤ mi
      · rw [if_pos g1]
        refine ih (k + 1) _ y u (by omega) (E.tr y2) ((K.add (by omega) (by omega)).cg (fun b hb => ⟨fun z => ?_, fun z => ?_⟩))
        · rcases z with z | z
          · exact ⟨by omega, z.2⟩
          · rw [z]; exact ⟨by omega, g1⟩
        · by_cases e : b = k
          · exact Or.inr e
          · exact Or.inl ⟨by omega, z.2⟩
      · rw [if_neg g1]
        refine ih (k + 1) _ y u (by omega) (E.tr y2) (K.cg (fun b hb => ⟨fun z => ⟨by omega, z.2⟩, fun z => ?_⟩))
        by_cases e : b = k
        · exact absurd z.2 (by rw [e]; exact g1)
        · exact ⟨by omega, z.2⟩
  exact kinds 5 0 0 h .null (by omega) eqi.rf (bs.zero.cg (fun b hb => ⟨fun z => absurd z id, fun z => absurd z.1 (Nat.not_lt_zero b)⟩))
theorem c_handed {T R A n0 n1 q N M d t mi : Nat} {L0 L1 : Nat → Ln} {h : pm_Hp} {v : Int32} {P : Nat → Prop} (hd : 6 ≤ d) (F : FS T R A n0 n1 q N M L0 L1 h) (ht : t < T) (hm : mi ≤ 99) (a : bs T v P) : ∃ r h', pm_ev d 59 [.ref 1, .int (nI mi), .int (nI t), .int v] h = some (r, h') ∧ eqi [31, 37] h h' ∧ bs T r (fun b => P b ∧ (b ≠ t ∨ 2 * chv n1 L1 h t (nv (wq h t 0)) ≤ mi)) := by
  obtain ⟨d, rfl, -⟩ := dpos hd
  have hT := F.1.1.1
  have g11 : h 11 t = nI (nv (wq h t 0)) := by
    rw [F.1.1.r0 ht]
    exact (nv_nb (by omega) (F.1.2.1 t ht).1).1.symm
  obtain ⟨y, y1, y2⟩ := c_chm (d := d) (t := t) (k := nv (wq h t 0)) (by omega) F ht
  have c9 := (chv_eq (n := n1) (Ls := L1) (h := h) (t := t) (k := nv (wq h t 0))).2
  rw [e_X4_handedOver, pm_at_c (by omega) (by omega), g11, y1, pm_bd_s, pk_mul, len_ite (by omega) (by omega)]
  by_cases g : 2 * chv n1 L1 h t (nv (wq h t 0)) ≤ mi
  · rw [if_pos g]
    exact ⟨v, y, rfl, y2, a.cg (fun b hb => ⟨fun z => ⟨z, Or.inr g⟩, fun z => z.1⟩)⟩
  · rw [if_neg g]
    exact ⟨_, y, rfl, y2, (a.del hT ht).cg (fun b hb => ⟨fun z => ⟨z.1, Or.inl z.2⟩, fun z => ⟨z.1, z.2.resolve_right g⟩⟩)⟩
theorem ap_0 : ∀ a, a < 6 → ∀ b, b < 6 → ((nI a - nI b = 0) ↔ b = a) ∧ ((nI a - nI b = 1) ↔ b + 1 = a) := by decide
theorem cdw_k {h : pm_Hp} {i b : Nat} (W : WT h b) (hk : wkd h i ≤ 4) (c : cdw h i b) : nv (wq h b 0) ≤ 4 := by
  obtain ⟨x, hx, e⟩ := W.1
  have c1 := c.1
  rw [e] at c1 ⊢
  rw [nv_n (by omega)]
  rcases c1 with z | z
  · have := (nI_eq (by omega) (by omega)).mp z; omega
  · by_cases q : x ≤ 4
    · exact q
    · exact absurd z.1 (nI_nlt (by omega) (by omega))
theorem c_relate {T R A n0 n1 q N M d i j : Nat} {L0 L1 : Nat → Ln} {h : pm_Hp} (hd : 8 ≤ d) (F : FS T R A n0 n1 q N M L0 L1 h) (hij : i < j) (hj : j < M) (e6 : h 150 6 = nI T) (Bi : bs T (h 152 i) (cdw h i)) (Bj : bs T (h 152 j) (cdw h j)) : ∃ h', pm_ev d 57 [.ref 150, .ref 1, .int (nI i), .int (nI j)] h = some (0, h') ∧ PFr h h' ∧ (∀ a, 150 ≤ a → a ≤ 164 → a ≠ 154 → h' a = h a) ∧ (∀ x, (∀ t, t < 16 → x ≠ (i * 16 + t) * 6 + j) → h' 154 x = h 154 x) ∧ ∀ t, t < T → cdw h i t → bs T (h' 154 ((i * 16 + t) * 6 + j)) (fun b => cdw h j b ∧ gtw n1 L1 h i t j b) := by
  obtain ⟨d, rfl, -⟩ := dpos hd
  have hA := F.2.1.1
  have hT := F.1.1.1
  have hM := F.2.2.2.2.1.2.1
  have hN := F.2.2.2.2.1.1
  obtain ⟨w1, w2, w3, w4, w5, w6, w7⟩ := F.2.2.2.2.1.wr hA (show i < M by omega)
  obtain ⟨x1, x2, x3, x4, x5, x6, x7⟩ := F.2.2.2.2.1.wr hA hj
  obtain ⟨m1, m2, m3⟩ := F.2.2.2.2.1.mn w1
  rw [e_X4_relate, pm_at_c (by omega) (by omega), pm_at_c (by omega) (by omega), pm_at_c (by omega) (by omega), w5, x5, pm_at_c (by omega) (by omega), pm_at_c (by omega) (by omega), pm_at_c (by omega) (by omega), w6, x6, m1, nI_ite (by omega) (by omega)]
  obtain ⟨d0, d1⟩ := ap_0 (wsc h j) (by omega) (wsc h i) (by omega)
  have key : ∀ (ov : Int32), (ov = 0 ↔ ¬ wac h i = wac h j) → ∀ (m t : Nat) (g : pm_Hp) (u4 u9 : Value), t + m = T → PFr h g → (∀ a, 150 ≤ a → a ≤ 164 → a ≠ 154 → g a = h a) → (∀ x, (∀ t, t < 16 → x ≠ (i * 16 + t) * 6 + j) → g 154 x = h 154 x) → (∀ x, x < t → cdw h i x → bs T (g 154 ((i * 16 + x) * 6 + j)) (fun b => cdw h j b ∧ gtw n1 L1 h i x j b)) → ∃ h', pm_rn d kX4_relate 65 [.ref 150, .ref 1, .int (nI i), .int (nI j), u4, .int (nI (wsc h j) - nI (wsc h i)), .int (nI (mnu h (wsc h i))), .int ov, .int (nI t), u9] [] g = some (0, h') ∧ PFr h h' ∧ (∀ a, 150 ≤ a → a ≤ 164 → a ≠ 154 → h' a = h a) ∧ (∀ x, (∀ t, t < 16 → x ≠ (i * 16 + t) * 6 + j) → h' 154 x = h 154 x) ∧ ∀ t, t < T → cdw h i t → bs T (h' 154 ((i * 16 + t) * 6 + j)) (fun b => cdw h j b ∧ gtw n1 L1 h i t j b) := by
    intro ov ho m
    induction m with
    | zero =>
      intro t g u4 u9 ht G1 G2 G3 G4
      have e6' : g 150 6 = nI T := by rw [G2 150 (by omega) (by omega) (by omega)]; exact e6
      rw [b_X4_relate_65, e6', if_neg (nI_nlt (by omega) (by omega))]
      exact ⟨g, rfl, G1, G2, G3, fun x hx => G4 x (by omega)⟩
    | succ m ih =>
      intro t g u4 u9 ht G1 G2 G3 G4
      have e6' : g 150 6 = nI T := by rw [G2 150 (by omega) (by omega) (by omega)]; exact e6
      have e170 : g 170 = h 170 := G1 170 (by omega) (by omega) (by omega) (by omega)
      have g152 : g 152 = h 152 := G2 152 (by omega) (by omega) (by omega)
      have Fg := F.pf G1
      have tT : t < T := by omega
      rw [b_X4_relate_65, e6', if_pos (nI_lt (by omega) (by omega)), pm_at_c (by omega) (by omega), g152, Bi.has (by omega) hT tT, pm_bd_s, nI_1]
      have b56 : ∀ y : pm_Hp, pm_ev d 56 [.int (nI i), .int (nI t), .int (nI j)] y = some (nI ((i * 16 + t) * 6 + j), y) := fun y => by
        obtain ⟨d, rfl, -⟩ := dpos (show 2 + 1 ≤ d by omega)
        rw [e_X4_besideAt, pk_mul, nI_add, pk_mul, nI_add]
      /- the next thing, with a set laid -/
      have nx : ∀ (r : Int32) (y : pm_Hp) (u : Value), PFr g y → (∀ a, 150 ≤ a → a ≤ 164 → y a = g a) → bs T r (fun b => cdw h j b ∧ gtw n1 L1 h i t j b) → ∃ h', pm_rn d kX4_relate 65 [.ref 150, .ref 1, .int (nI i), .int (nI j), u4, .int (nI (wsc h j) - nI (wsc h i)), .int (nI (mnu h (wsc h i))), .int ov, .int (nI (t + 1)), u] [] (pm_up y 154 ((i * 16 + t) * 6 + j) r) = some (0, h') ∧ PFr h h' ∧ (∀ a, 150 ≤ a → a ≤ 164 → a ≠ 154 → h' a = h a) ∧ (∀ x, (∀ t, t < 16 → x ≠ (i * 16 + t) * 6 + j) → h' 154 x = h 154 x) ∧ ∀ t, t < T → cdw h i t → bs T (h' 154 ((i * 16 + t) * 6 + j)) (fun b => cdw h j b ∧ gtw n1 L1 h i t j b) := fun r y u Y1 Y2 B => by
        refine ih (t + 1) _ u4 u (by omega) ((G1.tr Y1).up (by omega)) (fun a q1 q2 q3 => by rw [pm_up_n q3, Y2 a q1 q2]; exact G2 a q1 q2 q3) (fun x hx => by rw [pm_up_j (hx t (by omega)), Y2 154 (by omega) (by omega)]; exact G3 x hx) (fun x hx cx => ?_)
        by_cases e : x = t
        · rw [e, pm_up_s]; exact B
        · rw [pm_up_j (by omega), Y2 154 (by omega) (by omega)]; exact G4 x (by omega) cx
      by_cases ct : cdw h i t
      · rw [ck_t ct, if_neg (by decide), pm_at_c (by omega) (by omega), g152]
        by_cases s0 : wsc h i = wsc h j
        · rw [if_pos (d0.mpr s0), b56, pm_bd_s, pm_at_c (by omega) (by omega)]
          refine nx _ g _ PFr.rf (fun _ _ _ => rfl) ((Bj.del hT tT).cg (fun b hb => ?_))
          unfold gtw
          rw [if_pos s0]
          exact ⟨fun z => ⟨z.1, fun y => z.2 y.symm⟩, fun z => ⟨z.1, fun y => z.2 y.symm⟩⟩
        · rw [if_neg (fun z => s0 (d0.mp z))]
          by_cases s1 : wsc h i + 1 = wsc h j
          · rw [if_pos (d1.mpr s1)]
            by_cases oa : wac h i = wac h j
            · rw [if_neg (fun z => (ho.mp z) oa)]
              obtain ⟨r, y, y1, y2, y3⟩ := c_quick (d := d) (t := t) (mi := mnu h (wsc h i)) (by omega) Fg tT m3 Bj (fun b hb c => by
                show nv (g 170 _) ≤ 4
                rw [e170]
                exact cdw_k (F.1.2.1 b hb) x3 c)
              rw [y1, pm_bd_s, b56, pm_bd_s, pm_at_c (by omega) (by omega)]
              refine nx r y _ (PFr.law (by simp) y2) (fun a q1 q2 => y2 a (by simp; omega)) (y3.cg (fun b hb => ?_))
              unfold gtw
              rw [if_neg s0, if_pos s1, if_pos oa, chv_cg e170, show wq g b 0 = wq h b 0 by show g 170 _ = h 170 _; rw [e170]]
              exact ⟨fun z => ⟨z.1, z.2.imp Eq.symm id⟩, fun z => ⟨z.1, z.2.imp Eq.symm id⟩⟩
            · rw [if_pos (ho.mpr oa)]
              obtain ⟨r, y, y1, y2, y3⟩ := c_handed (d := d) (t := t) (mi := mnu h (wsc h i)) (by omega) Fg tT m3 Bj
              rw [y1, pm_bd_s, b56, pm_bd_s, pm_at_c (by omega) (by omega)]
              refine nx r y _ (PFr.law (by simp) y2) (fun a q1 q2 => y2 a (by simp; omega)) (y3.cg (fun b hb => ?_))
              unfold gtw
              rw [if_neg s0, if_pos s1, if_neg oa, chv_cg e170, show wq g t 0 = wq h t 0 by show g 170 _ = h 170 _; rw [e170]]
              exact ⟨fun z => ⟨z.1, z.2.imp (fun y x => y x.symm) id⟩, fun z => ⟨z.1, z.2.imp (fun y x => y x.symm) id⟩⟩
          · rw [if_neg (fun z => s1 (d1.mp z)), b56, pm_bd_s, pm_at_c (by omega) (by omega)]
            refine nx _ g _ PFr.rf (fun _ _ _ => rfl) (Bj.cg (fun b hb => ?_))
            unfold gtw
            rw [if_neg s0, if_neg s1]
            exact ⟨fun z => ⟨z, trivial⟩, fun z => z.1⟩
      · rw [ck_f ct, if_pos rfl]
        refine ih (t + 1) g u4 u9 (by omega) G1 G2 G3 (fun x hx cx => ?_)
        by_cases e : x = t
        · exact absurd cx (by rw [e]; exact ct)
        · exact G4 x (by omega) cx
  by_cases oa : wac h i = wac h j
  · rw [if_pos oa]
    exact key 1 ⟨fun z => absurd z (by decide), fun z => absurd oa z⟩ T 0 h _ _ (by omega) PFr.rf (fun _ _ _ _ => rfl) (fun _ _ => rfl) (fun x hx => absurd hx (Nat.not_lt_zero x))
  · rw [if_neg oa]
    exact key 0 ⟨fun _ => oa, fun _ => rfl⟩ T 0 h _ _ (by omega) PFr.rf (fun _ _ _ _ => rfl) (fun _ _ => rfl) (fun x hx => absurd hx (Nat.not_lt_zero x))
