/-! SWAPS are alike -/
noncomputable def swI (P : Nat → Nat → Prop) (i j : Nat) (s : Nat × Nat × Nat) : Nat × Nat × Nat := ck (P i j) (s.1 + 1, if s.1 = 0 then (i, j) else s.2) s
noncomputable def swO (P : Nat → Nat → Prop) (M : Nat) : Nat × Nat × Nat := itr (fun i s => itr (swI P i) (i + 1) (M - (i + 1)) s) 0 M (0, 0, 0)
def swK (P : Nat → Nat → Prop) (M : Nat) (s : Nat × Nat × Nat) : Prop := s.1 = 0 ∨ (s.2.1 < s.2.2 ∧ s.2.2 < M ∧ P s.2.1 s.2.2)
theorem swI_K {P : Nat → Nat → Prop} {M i j : Nat} {s : Nat × Nat × Nat} (h1 : i < j) (h2 : j < M) (K : swK P M s) : swK P M (swI P i j s) := by
  unfold swI
  by_cases g : P i j
  · rw [ck_t g]
    refine Or.inr ?_
    by_cases z : s.1 = 0
    · show (if s.1 = 0 then (i, j) else s.2).1 < (if s.1 = 0 then (i, j) else s.2).2 ∧ (if s.1 = 0 then (i, j) else s.2).2 < M ∧ P (if s.1 = 0 then (i, j) else s.2).1 (if s.1 = 0 then (i, j) else s.2).2
      rw [if_pos z]
      exact ⟨h1, h2, g⟩
    · show (if s.1 = 0 then (i, j) else s.2).1 < (if s.1 = 0 then (i, j) else s.2).2 ∧ (if s.1 = 0 then (i, j) else s.2).2 < M ∧ P (if s.1 = 0 then (i, j) else s.2).1 (if s.1 = 0 then (i, j) else s.2).2
      rw [if_neg z]
      exact K.resolve_left z
  · rw [ck_f g]; exact K
theorem swO_K {P : Nat → Nat → Prop} {M : Nat} : swK P M (swO P M) := by
  unfold swO
  refine itr_pres (P := swK P M) M 0 _ (fun i s _ hi K => ?_) (Or.inl rfl)
  exact itr_pres (P := swK P M) _ _ _ (fun j s h1 h2 K => swI_K (by omega) (by omega) K) K
theorem swO_cg {P Q : Nat → Nat → Prop} {M : Nat} (e : ∀ i j, i < j → j < M → (P i j ↔ Q i j)) : swO P M = swO Q M := by
  unfold swO
  refine itr_cq M 0 _ (fun i s _ hi => itr_cq _ _ _ (fun j s h1 h2 => ?_))
  unfold swI
  have := e i j (by omega) (by omega)
  by_cases g : P i j
  · rw [ck_t g, ck_t (this.mp g)]
  · rw [ck_f g, ck_f (fun z => g (this.mpr z))]
theorem sm_upd {f g : Nat → Nat} {i : Nat} (e : ∀ k, k ≠ i → g k = f k) : ∀ (r x : Nat), x ≤ i → i < x + r → sm g x r + f i = sm f x r + g i := by
  intro r
  induction r with
  | zero => intro x h1 h2; omega
  | succ r ih =>
    intro x h1 h2
    show g x + sm g (x + 1) r + f i = f x + sm f (x + 1) r + g i
    by_cases c : x = i
    · subst c
      rw [sm_cg r (x + 1) (fun j a b => e j (by omega))]
      omega
    · have := ih (x + 1) (by omega) (by omega)
      rw [e x c]
      omega
theorem sm_sw {M i j : Nat} {co : Nat → Nat → Nat} {f : Nat → Nat} (hij : i < j) (hj : j < M) : sm (fun k => co k (swf f i j k)) 0 M + co i (f i) + co j (f j) = sm (fun k => co k (f k)) 0 M + co i (f j) + co j (f i) := by
  have a := sm_upd (f := fun k => co k (f k)) (g := fun k => if k = i then co i (f j) else co k (f k)) (i := i) (fun k hk => if_neg hk) M 0 (Nat.zero_le _) (by omega)
  have b := sm_upd (f := fun k => if k = i then co i (f j) else co k (f k)) (g := fun k => co k (swf f i j k)) (i := j) (fun k hk => by
    show co k (swf f i j k) = if k = i then co i (f j) else co k (f k)
    unfold swf
    by_cases e : k = i
    · rw [if_pos e, if_pos e, e]
    · rw [if_neg e, if_neg e, if_neg hk]) M 0 (Nat.zero_le _) (by omega)
  have e3 : swf f i j j = f i := by
    unfold swf
    rw [if_neg (by omega), if_pos rfl]
  have a : sm (fun k => if k = i then co i (f j) else co k (f k)) 0 M + co i (f i) = sm (fun k => co k (f k)) 0 M + (if i = i then co i (f j) else co i (f i)) := a
  have b : sm (fun k => co k (swf f i j k)) 0 M + (if j = i then co i (f j) else co j (f j)) = sm (fun k => if k = i then co i (f j) else co k (f k)) 0 M + co j (swf f i j j) := b
  rw [if_pos rfl] at a
  rw [if_neg (by omega), e3] at b
  omega
theorem sm_two {f : Nat → Nat} {i j M : Nat} (hij : i < j) (hj : j < M) : f i + f j ≤ sm f 0 M := by
  have e : sm f 0 M = sm f 0 j + sm f (0 + j) (M - j) := by rw [← sm_app, show j + (M - j) = M by omega]
  have a := sm_ge f j 0 i (Nat.zero_le _) (by omega)
  have b := sm_ge f (M - j) (0 + j) j (by omega) (by omega)
  omega
def fvS (s : Nat × Nat × Nat) : Int32 := if s.1 = 0 then -1 else nI (s.2.1 * 6 + s.2.2)
noncomputable def FINc (d : Nat) (v : Int32) (s : Nat × Nat × Nat) (g : pm_Hp) : pm_Rs := if v = 0 then (some (nI s.1, g)) else (if fvS s = (-1) then (some ((-1), g)) else (if v = 1 then (some (fvS s / (nI 6), g)) else (if v = nI 2 then (some (fvS s - fvS s / (nI 6) * (nI 6), g)) else (pm_bd (pm_ev d 72 [.ref 150, .int (fvS s / (nI 6)), .int (fvS s - fvS s / (nI 6) * (nI 6))] g) fun r1 y1 => some (r1, y1)))))
noncomputable def FINm (d : Nat) (v : Int32) (s : Nat × Nat × Nat) (g : pm_Hp) : pm_Rs := if v = 0 then (some (nI s.1, g)) else (if (if s.1 = 0 then (-1 : Int32) else nI s.2.1) = (-1) then (some ((-1), g)) else (if v = 1 then (some (if s.1 = 0 then (-1 : Int32) else nI s.2.1, g)) else (if v = nI 2 then (some (if s.1 = 0 then (-1 : Int32) else nI s.2.2, g)) else (pm_bd (pm_ev d 283 [.ref 169, .int (if s.1 = 0 then (-1 : Int32) else nI s.2.1), .int (if s.1 = 0 then (-1 : Int32) else nI s.2.2)] g) fun r1 y1 => some (r1, y1)))))
section
variable {T R A n0 n1 q N M : Nat} {L0 L1 : Nat → Ln} {h : pm_Hp}
theorem c_swL {d : Nat} {cd : Nat → Nat → Prop} {co : Nat → Nat → Nat} {gt : Nat → Nat → Nat → Nat → Prop} {f : Nat → Nat} (hd : 4 ≤ d) (hT : T ≤ 16) (hM : M ≤ 6) (R0 : PRw T M cd co gt h) (hf : ∀ k, k < M → h 151 k = nI (f k) ∧ f k < T) (v : Int32) : ∃ g, pm_rn d kX9_swaps 51 [.ref 0, .int v, .int (nI M), .int 0, .int (-1), .int 0, .null] [] h = FINc d v (swO (fun i j => f i ≠ f j ∧ plnP cd gt (swf f i j) M) M) g ∧ eqi [163] h g := by
  have st : ∀ g, eqi [163] h g → PRw T M cd co gt g ∧ ∀ k, k < M → g 151 k = nI (f k) ∧ f k < T := fun g E => ⟨R0.to (by rw [E 150 (by simp)]) (by rw [E 150 (by simp)]) (E 152 (by simp)) (E 153 (by simp)) (E 154 (by simp)), fun k hk => by rw [E 151 (by simp)]; exact hf k hk⟩
  have inn : ∀ (m i j : Nat) (s : Nat × Nat × Nat) (g : pm_Hp), i < M → j + m = M → i < j → swK (fun i j => f i ≠ f j ∧ plnP cd gt (swf f i j) M) M s → eqi [163] h g → ∃ g', pm_rn d kX9_swaps 63 [.ref 0, .int v, .int (nI M), .int (nI s.1), .int (fvS s), .int (nI i), .int (nI j)] [] g = pm_rn d kX9_swaps 51 [.ref 0, .int v, .int (nI M), .int (nI (itr (swI (fun i j => f i ≠ f j ∧ plnP cd gt (swf f i j) M) i) j m s).1), .int (fvS (itr (swI (fun i j => f i ≠ f j ∧ plnP cd gt (swf f i j) M) i) j m s)), .int (nI (i + 1)), .int (nI M)] [] g' ∧ eqi [163] h g' := by
    intro m
    induction m with
    | zero =>
      intro i j s g hi hj hij K E
      have : j = M := by omega
      subst this
      refine ⟨g, ?_, E⟩
      rw [b_X9_swaps_63, if_neg (nI_nlt (by omega) (by omega)), nI_1]
      rfl
    | succ m ih =>
      intro i j s g hi hj hij K E
      obtain ⟨Rg, fg⟩ := st g E
      obtain ⟨y, y1, y2⟩ := c_canSwap (d := d) hd hT hM Rg hij (by omega) fg
      have K2 := swI_K hij (show j < M by omega) K
      have go : ∀ s', swI (fun i j => f i ≠ f j ∧ plnP cd gt (swf f i j) M) i j s = s' → ∃ g', pm_rn d kX9_swaps 63 [.ref 0, .int v, .int (nI M), .int (nI s'.1), .int (fvS s'), .int (nI i), .int (nI (j + 1))] [] y = pm_rn d kX9_swaps 51 [.ref 0, .int v, .int (nI M), .int (nI (itr (swI (fun i j => f i ≠ f j ∧ plnP cd gt (swf f i j) M) i) j (m + 1) s).1), .int (fvS (itr (swI (fun i j => f i ≠ f j ∧ plnP cd gt (swf f i j) M) i) j (m + 1) s)), .int (nI (i + 1)), .int (nI M)] [] g' ∧ eqi [163] h g' := fun s' e => by
        obtain ⟨g', a1, a2⟩ := ih i (j + 1) s' y hi (by omega) (by omega) (by rw [← e]; exact K2) (E.tr y2)
        refine ⟨g', ?_, a2⟩
        rw [a1, ← e]
        rfl
      rw [b_X9_swaps_63, if_pos (nI_lt (by omega) (by omega)), y1, pm_bd_s, nI_1, nI_1]
      by_cases c : f i ≠ f j ∧ plnP cd gt (swf f i j) M
      · rw [ck_t c, if_neg (by decide)]
        have e : swI (fun i j => f i ≠ f j ∧ plnP cd gt (swf f i j) M) i j s = (s.1 + 1, if s.1 = 0 then (i, j) else s.2) := ck_t c
        have := go _ e
        by_cases z : s.1 = 0
        · have fe : fvS s = -1 := if_pos z
          rw [if_pos fe, pk_mul, nI_add]
          have e2 : fvS (s.1 + 1, if s.1 = 0 then (i, j) else s.2) = nI (i * 6 + j) := by
            unfold fvS
            rw [if_neg (by show ¬ s.1 + 1 = 0; omega), if_pos z]
          rw [e2] at this
          exact this
        · have fe : fvS s = nI (s.2.1 * 6 + s.2.2) := if_neg z
          have e2 : fvS (s.1 + 1, if s.1 = 0 then (i, j) else s.2) = fvS s := by
            rw [fe]
            unfold fvS
            rw [if_neg (by show ¬ s.1 + 1 = 0; omega), if_neg z]
          rw [e2] at this
          have kk := K.resolve_left z
          rw [if_neg (by rw [fe, nI_m1 (by omega)]; exact id)]
          exact this
      · rw [ck_f c, if_pos rfl]
        exact go s (ck_f c)
  have out : ∀ (m i : Nat) (s : Nat × Nat × Nat) (g : pm_Hp) (u : Value), i + m = M → swK (fun i j => f i ≠ f j ∧ plnP cd gt (swf f i j) M) M s → eqi [163] h g → ∃ g', pm_rn d kX9_swaps 51 [.ref 0, .int v, .int (nI M), .int (nI s.1), .int (fvS s), .int (nI i), u] [] g = FINc d v (itr (fun i s => itr (swI (fun i j => f i ≠ f j ∧ plnP cd gt (swf f i j) M) i) (i + 1) (M - (i + 1)) s) i m s) g' ∧ eqi [163] h g' := by
    intro m
    induction m with
    | zero =>
      intro i s g u hi K E
      rw [b_X9_swaps_51, if_neg (nI_nlt (by omega) (by omega))]
      exact ⟨g, rfl, E⟩
    | succ m ih =>
      intro i s g u hi K E
      obtain ⟨y, a1, a2⟩ := inn (M - (i + 1)) i (i + 1) s g (by omega) (by omega) (by omega) K E
      rw [b_X9_swaps_51, if_pos (nI_lt (by omega) (by omega)), nI_1, a1]
      exact ih (i + 1) _ y _ (by omega) (itr_pres (P := swK (fun i j => f i ≠ f j ∧ plnP cd gt (swf f i j) M) M) _ _ _ (fun j s h1 h2 K => swI_K (by omega) (by omega) K) K) a2
  exact out M 0 (0, 0, 0) h .null (by omega) (Or.inl rfl) eqi.rf
theorem m_swL {d : Nat} {f : Nat → Nat} {P : Nat → Nat → Prop} (hd : 8 ≤ d) (F : FS T R A n0 n1 q N M L0 L1 h) (hf : ∀ k, k < M → h 181 k = nI (f k) ∧ f k < T) (hP : ∀ i j, i < j → j < M → (P i j ↔ (f i ≠ f j ∧ cdm h i (f j) ∧ cdm h j (f i) ∧ ∀ a b, a < b → b < M → gtw n1 L1 h a (swf f i j a) b (swf f i j b)))) (v : Int32) : ∃ g, pm_rn d kX10_swaps 28 [.ref 169, .int v, .int 0, .int (-1), .int (-1), .int 0, .null] [] h = FINm d v (swO P M) g ∧ eqi [178, 179] h g := by
  have hM := F.2.2.2.2.1.2.1
  have eM : h 170 328 = nI M := F.2.2.2.2.1.2.2.2.2.2.1
  have inn : ∀ (m i j : Nat) (s : Nat × Nat × Nat) (g : pm_Hp), i < M → j + m = M → i < j → s.1 ≤ i * 6 + j → eqi [178, 179] h g → ∃ g', pm_rn d kX10_swaps 47 [.ref 169, .int v, .int (nI s.1), .int (if s.1 = 0 then -1 else nI s.2.1), .int (if s.1 = 0 then -1 else nI s.2.2), .int (nI i), .int (nI j)] [] g = pm_rn d kX10_swaps 28 [.ref 169, .int v, .int (nI (itr (swI P i) j m s).1), .int (if (itr (swI P i) j m s).1 = 0 then -1 else nI (itr (swI P i) j m s).2.1), .int (if (itr (swI P i) j m s).1 = 0 then -1 else nI (itr (swI P i) j m s).2.2), .int (nI (i + 1)), .int (nI M)] [] g' ∧ (itr (swI P i) j m s).1 ≤ i * 6 + M ∧ eqi [178, 179] h g' := by
    intro m
    induction m with
    | zero =>
      intro i j s g hi hj hij B E
      have : j = M := by omega
      subst this
      have gM : g 170 328 = nI j := by rw [E 170 (by simp)]; exact eM
      refine ⟨g, ?_, B, E⟩
      rw [b_X10_swaps_47, gM, if_neg (nI_nlt (by omega) (by omega)), nI_1]
      rfl
    | succ m ih =>
      intro i j s g hi hj hij B E
      have gM : g 170 328 = nI M := by rw [E 170 (by simp)]; exact eM
      have e170 : g 170 = h 170 := E 170 (by simp)
      have e169 : g 169 = h 169 := E 169 (by simp)
      obtain ⟨y, y1, y2⟩ := m_canSw (d := d) (i := i) (j := j) (f := f) hd (F.e178 E) hij (by omega) (fun k hk => by rw [E 181 (by simp)]; exact hf k hk)
      rw [show cdm g = cdm h from funext fun x => funext fun z => cdm_eq e170 (by rw [e169]; exact ⟨rfl, rfl⟩) x z, show gtw n1 L1 g = gtw n1 L1 h from funext fun a => funext fun b => funext fun c => funext fun x => gtw_eq e170 a b c x] at y1
      have go : ∀ s', swI P i j s = s' → s'.1 ≤ i * 6 + (j + 1) → ∃ g', pm_rn d kX10_swaps 47 [.ref 169, .int v, .int (nI s'.1), .int (if s'.1 = 0 then -1 else nI s'.2.1), .int (if s'.1 = 0 then -1 else nI s'.2.2), .int (nI i), .int (nI (j + 1))] [] y = pm_rn d kX10_swaps 28 [.ref 169, .int v, .int (nI (itr (swI P i) j (m + 1) s).1), .int (if (itr (swI P i) j (m + 1) s).1 = 0 then -1 else nI (itr (swI P i) j (m + 1) s).2.1), .int (if (itr (swI P i) j (m + 1) s).1 = 0 then -1 else nI (itr (swI P i) j (m + 1) s).2.2), .int (nI (i + 1)), .int (nI M)] [] g' ∧ (itr (swI P i) j (m + 1) s).1 ≤ i * 6 + M ∧ eqi [178, 179] h g' := fun s' e B' => by
        obtain ⟨g', a1, a2, a3⟩ := ih i (j + 1) s' y hi (by omega) (by omega) B' (E.tr y2)
        refine ⟨g', ?_, ?_, a3⟩
        · rw [a1, ← e]
          rfl
        · rw [← e] at a2
          exact a2
      have hp := hP i j hij (by omega)
      rw [b_X10_swaps_47, gM, if_pos (nI_lt (by omega) (by omega)), y1, pm_bd_s, nI_1, nI_1]
      by_cases c : P i j
      · have e : swI P i j s = (s.1 + 1, if s.1 = 0 then (i, j) else s.2) := ck_t c
        have := go _ e (by show s.1 + 1 ≤ _; omega)
        rw [ck_t (hp.mp c), if_neg (by decide)]
        by_cases z : s.1 = 0
        · have n1_ : ¬ (s.1 + 1 = 0) := by omega
          rw [if_pos (show nI s.1 = 0 by rw [z]; exact nI_0), if_pos (show nI s.1 = 0 by rw [z]; exact nI_0)]
          have this : ∃ g', pm_rn d kX10_swaps 47 [.ref 169, .int v, .int (nI (s.1 + 1)), .int (if s.1 + 1 = 0 then -1 else nI (if s.1 = 0 then (i, j) else s.2).1), .int (if s.1 + 1 = 0 then -1 else nI (if s.1 = 0 then (i, j) else s.2).2), .int (nI i), .int (nI (j + 1))] [] y = _ ∧ _ := this
          rw [if_neg n1_, if_neg n1_, if_pos z] at this
          exact this
        · have n1_ : ¬ (s.1 + 1 = 0) := by omega
          have nz : ¬ nI s.1 = 0 := fun w => z ((nI_eq (b := 0) (by omega) (by omega)).mp w)
          rw [if_neg nz, if_neg nz, if_neg z, if_neg z]
          have this : ∃ g', pm_rn d kX10_swaps 47 [.ref 169, .int v, .int (nI (s.1 + 1)), .int (if s.1 + 1 = 0 then -1 else nI (if s.1 = 0 then (i, j) else s.2).1), .int (if s.1 + 1 = 0 then -1 else nI (if s.1 = 0 then (i, j) else s.2).2), .int (nI i), .int (nI (j + 1))] [] y = _ ∧ _ := this
          rw [if_neg n1_, if_neg n1_, if_neg z] at this
          exact this
      · rw [ck_f (fun w => c (hp.mpr w)), if_pos rfl]
        exact go s (ck_f c) (by omega)
  have out : ∀ (m i : Nat) (s : Nat × Nat × Nat) (g : pm_Hp) (u : Value), i + m = M → s.1 ≤ i * 6 → eqi [178, 179] h g → ∃ g', pm_rn d kX10_swaps 28 [.ref 169, .int v, .int (nI s.1), .int (if s.1 = 0 then -1 else nI s.2.1), .int (if s.1 = 0 then -1 else nI s.2.2), .int (nI i), u] [] g = FINm d v (itr (fun i s => itr (swI P i) (i + 1) (M - (i + 1)) s) i m s) g' ∧ eqi [178, 179] h g' := by
    intro m
    induction m with
    | zero =>
      intro i s g u hi B E
      have gM : g 170 328 = nI M := by rw [E 170 (by simp)]; exact eM
      rw [b_X10_swaps_28, gM, if_neg (nI_nlt (by omega) (by omega))]
      exact ⟨g, rfl, E⟩
    | succ m ih =>
      intro i s g u hi B E
      have gM : g 170 328 = nI M := by rw [E 170 (by simp)]; exact eM
      obtain ⟨y, a1, a2, a3⟩ := inn (M - (i + 1)) i (i + 1) s g (by omega) (by omega) (by omega) (by omega) E
      rw [b_X10_swaps_28, gM, if_pos (nI_lt (by omega) (by omega)), nI_1, a1]
      exact ih (i + 1) _ y _ (by omega) (by omega) a3
  exact out M 0 (0, 0, 0) h .null (by omega) (Nat.zero_le _) eqi.rf
end
