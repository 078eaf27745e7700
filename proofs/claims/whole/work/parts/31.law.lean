theorem evs_n (fa : Nat → Int32) : ∀ (l : List Op) (f : Nat → Int32) (ty : Nat → Bool) (n : Nat), (evs fa l (f, n)).2 = (tyL l (ty, n)).2 := by
  intro l
  induction l with
  | nil => intro f ty n; rfl
  | cons o l ih =>
    intro f ty n
    have h1 := evo_n fa o f ty n
    show (evs fa l (evo fa o (f, n))).2 = (tyL l (tyO o (ty, n))).2
    have h2 := ih (evo fa o (f, n)).1 (tyO o (ty, n)).1 (evo fa o (f, n)).2
    rw [h1] at h2
    have h3 : evo fa o (f, n) = ((evo fa o (f, n)).1, (tyO o (ty, n)).2) := by rw [← h1]
    rw [h3]
    exact h2
/-! the model's run of one op -/
theorem m_op {d k q p n : Nat} {o : Op} {ty : Nat → Bool} {f fa : Nat → Int32} {h : pm_Hp} (u2 u6 u7 : Value) (hd : 1 ≤ d) (hk2 : k < 2) (hok : okO o ty n) (hq : p < q) (hq4 : q ≤ 410) (hs : h 170 (1004 + 820 * k + 2 * p) = nI o.1 ∧ ((o.1 = 0 ∨ o.1 = 26) → h 170 (1004 + 820 * k + 2 * p + 1) = o.2)) (hf : ∀ j, 1 ≤ j → j ≤ 9 → h 179 j = fa j) (ha : ag h 178 f n) : ∃ v6 v7 h', pm_rn d kX10_comesTo 6 [.ref 169, .int (nI k), u2, .int (nI q), .int (nI n), .int (nI p), u6, u7] [] h = pm_rn d kX10_comesTo 6 [.ref 169, .int (nI k), u2, .int (nI q), .int (nI (evo fa o (f, n)).2), .int (nI (p + 1)), v6, v7] [] h' ∧ ag h' 178 (evo fa o (f, n)).1 (evo fa o (f, n)).2 ∧ eqi [178] h h' := by
  have mK : 178 ∈ [178] := List.mem_singleton.mpr rfl
  obtain ⟨hs1, hs2⟩ := hs
  have go : pm_rn d kX10_comesTo 6 [.ref 169, .int (nI k), u2, .int (nI q), .int (nI n), .int (nI p), u6, u7] [] h = _ := b_X10_comesTo_6 d h (nI k) (nI q) (nI n) (nI p) u2 u6 u7
  rw [if_pos (nI_lt hq (by omega)), pm_at_n (j := 1004 + 820 * k + 2 * p) (by simp only [pk_mul, nI_add]) (by omega) (by omega), pm_at_n (j := 1004 + 820 * k + 2 * p + 1) (by simp only [pk_mul, nI_add, nI_1]) (by omega) (by omega), hs1, nI_1] at go
  rcases hok with ⟨h0, ⟨c, hc, ek⟩, hn⟩ | ⟨h1, h2, hn⟩ | ⟨h0, ⟨c, hc1, hc, ek⟩, hn, hn2⟩ | ⟨h1, h2, hn, hn2⟩ | ⟨h1, h2, hn, hn2⟩ | ⟨h0, hn, hn2, ht1⟩ | ⟨h1, h2, hn, hn2, ht1, ht2⟩
  · rw [if_pos (nI_lt (by omega) (by omega)), h0, if_pos (show nI 0 = 0 from rfl), pm_at_c (by omega) (by omega), nI_1, hs2 (Or.inl h0)] at go
    unfold evo
    rw [if_pos h0]
    exact ⟨_, _, _, go, ag_up ha (fun i h1 h2 => by dsimp only at h1; omega), eqi.rf.up mK⟩
  · rw [if_pos (nI_lt (by omega) (by omega)), if_neg (nI_ne0 (by omega) (by omega)), pm_at_c (by omega) (by omega), pm_at_c (by omega) (by omega), nI_1, hf o.1 h1 h2] at go
    unfold evo
    rw [if_neg (by omega), if_pos h2]
    exact ⟨_, _, _, go, ag_up ha (fun i h1 h2 => by dsimp only at h1; omega), eqi.rf.up mK⟩
  · have hne : ¬ nI c = 0 := nI_ne0 (by omega) (by omega)
    rw [if_neg (nI_nlt (by omega) (by omega)), h0, if_pos rfl, show nI n - 1 = nI (n - 1) from by rw [show n = (n - 1) + 1 by omega, nI_pred]; rfl, pm_at_c (by omega) (by omega), hs2 (Or.inr h0), ek, if_neg hne, pm_at_c (by omega) (by omega), ha (n - 1) (by omega), nI_1] at go
    unfold evo
    rw [if_neg (by omega), if_neg (by omega), if_pos h0, ek]
    exact ⟨_, _, _, go, ag_up ha (fun i h1 h2 => h1), eqi.rf.up mK⟩
  · have hb : (23 ≤ o.1 ∧ o.1 ≤ 25) ∨ (27 ≤ o.1 ∧ o.1 ≤ 29) ∨ o.1 = 31 ∨ o.1 = 32 := by omega
    have x1 : nI n + -1 = nI (n - 1) := by rw [show n = (n - 1) + 1 by omega, pk_m1]; rfl
    have x2 : nI (n - 1) - 1 = nI (n - 2) := by rw [show n - 1 = (n - 2) + 1 by omega, nI_pred]
    rw [if_neg (nI_nlt (by omega) (by omega)), if_neg (fun g => by have := (nI_eq (by omega) (by omega)).mp g; omega), if_neg (fun g => by have := (nI_eq (by omega) (by omega)).mp g; omega), x1, x2, b_X10_comesTo_168, pm_at_c (by omega) (by omega), pm_at_c (by omega) (by omega), both_m hd h _ _ hb, pm_bd_s, pm_at_c (by omega) (by omega), nI_1, ha (n - 2) (by omega), ha (n - 1) (by omega)] at go
    unfold evo
    rw [if_neg (by omega), if_neg (by omega), if_neg (by omega), if_neg (by omega)]
    exact ⟨_, _, _, go, ag_up ha (fun i h1 h2 => by dsimp only at h1; omega), eqi.rf.up mK⟩
  · have hb : (23 ≤ o.1 ∧ o.1 ≤ 25) ∨ (27 ≤ o.1 ∧ o.1 ≤ 29) ∨ o.1 = 31 ∨ o.1 = 32 := by omega
    have x1 : nI n + -1 = nI (n - 1) := by rw [show n = (n - 1) + 1 by omega, pk_m1]; rfl
    have x2 : nI (n - 1) - 1 = nI (n - 2) := by rw [show n - 1 = (n - 2) + 1 by omega, nI_pred]
    rw [if_neg (nI_nlt (by omega) (by omega)), if_neg (fun g => by have := (nI_eq (by omega) (by omega)).mp g; omega), if_neg (fun g => by have := (nI_eq (by omega) (by omega)).mp g; omega), x1, x2, b_X10_comesTo_168, pm_at_c (by omega) (by omega), pm_at_c (by omega) (by omega), both_m hd h _ _ hb, pm_bd_s, pm_at_c (by omega) (by omega), nI_1, ha (n - 2) (by omega), ha (n - 1) (by omega)] at go
    unfold evo
    rw [if_neg (by omega), if_neg (by omega), if_neg (by omega), if_neg (by omega)]
    exact ⟨_, _, _, go, ag_up ha (fun i h1 h2 => by dsimp only at h1; omega), eqi.rf.up mK⟩
  · rw [if_neg (nI_nlt (by omega) (by omega)), h0, if_neg (by decide), if_pos rfl, show nI n - 1 = nI (n - 1) from by rw [show n = (n - 1) + 1 by omega, nI_pred]; rfl, pm_at_c (by omega) (by omega), pm_at_c (by omega) (by omega), ha (n - 1) (by omega), nI_1] at go
    unfold evo
    rw [if_neg (by omega), if_neg (by omega), if_neg (by omega), if_pos h0]
    exact ⟨_, _, _, go, ag_up ha (fun i h1 h2 => h1), eqi.rf.up mK⟩
  · have hb : (23 ≤ o.1 ∧ o.1 ≤ 25) ∨ (27 ≤ o.1 ∧ o.1 ≤ 29) ∨ o.1 = 31 ∨ o.1 = 32 := by omega
    have x1 : nI n + -1 = nI (n - 1) := by rw [show n = (n - 1) + 1 by omega, pk_m1]; rfl
    have x2 : nI (n - 1) - 1 = nI (n - 2) := by rw [show n - 1 = (n - 2) + 1 by omega, nI_pred]
    rw [if_neg (nI_nlt (by omega) (by omega)), if_neg (fun g => by have := (nI_eq (by omega) (by omega)).mp g; omega), if_neg (fun g => by have := (nI_eq (by omega) (by omega)).mp g; omega), x1, x2, b_X10_comesTo_168, pm_at_c (by omega) (by omega), pm_at_c (by omega) (by omega), both_m hd h _ _ hb, pm_bd_s, pm_at_c (by omega) (by omega), nI_1, ha (n - 2) (by omega), ha (n - 1) (by omega)] at go
    unfold evo
    rw [if_neg (by omega), if_neg (by omega), if_neg (by omega), if_neg (by omega)]
    exact ⟨_, _, _, go, ag_up ha (fun i h1 h2 => by dsimp only at h1; omega), eqi.rf.up mK⟩
/-! whole pieces of code -/
theorem c_seq_0 {d q : Nat} {fa : Nat → Int32} (hd : 1 ≤ d) (hq4 : q ≤ 400) (u1 : Value) : ∀ (l : List Op) (p n : Nat) (ty : Nat → Bool) (f : Nat → Int32) (h : pm_Hp) (u6 : Value), okL l (ty, n) → vty (ty, n) f → cseg h 19 p l → p + cln l = q → (∀ k, 1 ≤ k → k ≤ 9 → h 37 (cfi k) = fa k) → ag h 24 f n → 1 ≤ (evs fa l (f, n)).2 → ∃ h', pm_rn d kX3_run 6 [.ref 18, u1, .int (nI q), .ref 37, .int (nI n), .int (nI p), u6] [] h = some ((evs fa l (f, n)).1 0, h') ∧ vty (tyL l (ty, n)) (evs fa l (f, n)).1 ∧ eqi [24] h h' := by
  intro l
  induction l with
  | nil =>
    intro p n ty f h u6 hok hv hs hp hf ha h1
    have hp : p = q := by rw [← hp]; rfl
    refine ⟨h, ?_, hv, eqi.rf⟩
    rw [b_X3_run_0_6, if_neg (nI_nlt (by omega) (by omega)), ha 0 h1]
    rfl
  | cons o l ih =>
    intro p n ty f h u6 hok hv hs hp hf ha h1
    have hp : p + (eln o + cln l) = q := hp
    obtain ⟨u, h2, e1, e2, e3⟩ := c_op_0 (q := q) u1 u6 hd hok.1 hv (by omega) hq4 hs.1 hf ha
    have hty := evo_n fa o f ty n
    have hv2 := vty_o (fa := fa) hok.1 hv
    obtain ⟨h3, g1, g2, g3⟩ := ih (p + eln o) (evo fa o (f, n)).2 (tyO o (ty, n)).1 (evo fa o (f, n)).1 h2 u (by rw [hty]; exact hok.2) (by rw [hty]; exact hv2) (cseg_eq (e3 19 (by decide)) l _ hs.2) (by omega) (fun k a b => by rw [e3 37 (by decide)]; exact hf k a b) e2 h1
    refine ⟨h3, e1.trans g1, ?_, e3.tr g3⟩
    show vty (tyL l ((tyO o (ty, n)).1, (tyO o (ty, n)).2)) (evs fa l (evo fa o (f, n))).1
    rw [← hty]
    exact g2
theorem c_run_0 {d p q : Nat} {fa : Nat → Int32} {l : List Op} {h : pm_Hp} (hd : 2 ≤ d) (hq4 : q ≤ 400) (hok : okL l (fun _ => false, 0)) (hs : cseg h 19 p l) (hp : p + cln l = q) (hf : ∀ k, 1 ≤ k → k ≤ 9 → h 37 (cfi k) = fa k) (h1 : 1 ≤ (tyL l (fun _ => false, 0)).2) : ∃ h', pm_ev d 50 [.ref 18, .int (nI p), .int (nI q), .ref 37] h = some ((evs fa l (fun _ => 0, 0)).1 0, h') ∧ vty (tyL l (fun _ => false, 0)) (evs fa l (fun _ => 0, 0)).1 ∧ eqi [24] h h' := by
  obtain ⟨d, rfl, -⟩ := dpos hd
  rw [e_X3_run_0]
  exact c_seq_0 (by omega) hq4 _ l p 0 (fun _ => false) (fun _ => 0) h .null hok (fun i hi => absurd hi (Nat.not_lt_zero i)) hs hp hf (fun i hi => absurd hi (Nat.not_lt_zero i)) (by rw [evs_n fa l (fun _ => 0) (fun _ => false) 0]; exact h1)
/-! whole pieces of code -/
theorem c_seq_1 {d q : Nat} {fa : Nat → Int32} (hd : 1 ≤ d) (hq4 : q ≤ 400) (u1 : Value) : ∀ (l : List Op) (p n : Nat) (ty : Nat → Bool) (f : Nat → Int32) (h : pm_Hp) (u6 : Value), okL l (ty, n) → vty (ty, n) f → cseg h 26 p l → p + cln l = q → (∀ k, 1 ≤ k → k ≤ 9 → h 37 (cfi k) = fa k) → ag h 31 f n → 1 ≤ (evs fa l (f, n)).2 → ∃ h', pm_rn d kX3_run 6 [.ref 25, u1, .int (nI q), .ref 37, .int (nI n), .int (nI p), u6] [] h = some ((evs fa l (f, n)).1 0, h') ∧ vty (tyL l (ty, n)) (evs fa l (f, n)).1 ∧ eqi [31] h h' := by
  intro l
  induction l with
  | nil =>
    intro p n ty f h u6 hok hv hs hp hf ha h1
    have hp : p = q := by rw [← hp]; rfl
    refine ⟨h, ?_, hv, eqi.rf⟩
    rw [b_X3_run_1_6, if_neg (nI_nlt (by omega) (by omega)), ha 0 h1]
    rfl
  | cons o l ih =>
    intro p n ty f h u6 hok hv hs hp hf ha h1
    have hp : p + (eln o + cln l) = q := hp
    obtain ⟨u, h2, e1, e2, e3⟩ := c_op_1 (q := q) u1 u6 hd hok.1 hv (by omega) hq4 hs.1 hf ha
    have hty := evo_n fa o f ty n
    have hv2 := vty_o (fa := fa) hok.1 hv
    obtain ⟨h3, g1, g2, g3⟩ := ih (p + eln o) (evo fa o (f, n)).2 (tyO o (ty, n)).1 (evo fa o (f, n)).1 h2 u (by rw [hty]; exact hok.2) (by rw [hty]; exact hv2) (cseg_eq (e3 26 (by decide)) l _ hs.2) (by omega) (fun k a b => by rw [e3 37 (by decide)]; exact hf k a b) e2 h1
    refine ⟨h3, e1.trans g1, ?_, e3.tr g3⟩
    show vty (tyL l ((tyO o (ty, n)).1, (tyO o (ty, n)).2)) (evs fa l (evo fa o (f, n))).1
    rw [← hty]
    exact g2
theorem c_run_1 {d p q : Nat} {fa : Nat → Int32} {l : List Op} {h : pm_Hp} (hd : 2 ≤ d) (hq4 : q ≤ 400) (hok : okL l (fun _ => false, 0)) (hs : cseg h 26 p l) (hp : p + cln l = q) (hf : ∀ k, 1 ≤ k → k ≤ 9 → h 37 (cfi k) = fa k) (h1 : 1 ≤ (tyL l (fun _ => false, 0)).2) : ∃ h', pm_ev d 50 [.ref 25, .int (nI p), .int (nI q), .ref 37] h = some ((evs fa l (fun _ => 0, 0)).1 0, h') ∧ vty (tyL l (fun _ => false, 0)) (evs fa l (fun _ => 0, 0)).1 ∧ eqi [31] h h' := by
  obtain ⟨d, rfl, -⟩ := dpos hd
  rw [e_X3_run_1]
  exact c_seq_1 (by omega) hq4 _ l p 0 (fun _ => false) (fun _ => 0) h .null hok (fun i hi => absurd hi (Nat.not_lt_zero i)) hs hp hf (fun i hi => absurd hi (Nat.not_lt_zero i)) (by rw [evs_n fa l (fun _ => 0) (fun _ => false) 0]; exact h1)
theorem m_seq {d q k : Nat} {fa : Nat → Int32} (hd : 1 ≤ d) (hk2 : k < 2) (hq4 : q ≤ 410) (u2 : Value) : ∀ (l : List Op) (p n : Nat) (ty : Nat → Bool) (f : Nat → Int32) (h : pm_Hp) (u6 u7 : Value), okL l (ty, n) → mseg h k p l → p + l.length = q → (∀ j, 1 ≤ j → j ≤ 9 → h 179 j = fa j) → ag h 178 f n → 1 ≤ (evs fa l (f, n)).2 → ∃ h', pm_rn d kX10_comesTo 6 [.ref 169, .int (nI k), u2, .int (nI q), .int (nI n), .int (nI p), u6, u7] [] h = some ((evs fa l (f, n)).1 0, h') ∧ eqi [178] h h' := by
  intro l
  induction l with
  | nil =>
    intro p n ty f h u6 u7 hok hs hp hf ha h1
    have hp : p = q := by rw [← hp]; rfl
    refine ⟨h, ?_, eqi.rf⟩
    rw [b_X10_comesTo_6, if_neg (nI_nlt (by omega) (by omega)), ha 0 h1]
    rfl
  | cons o l ih =>
    intro p n ty f h u6 u7 hok hs hp hf ha h1
    have hp : p + (l.length + 1) = q := hp
    obtain ⟨v6, v7, h2, e1, e2, e3⟩ := m_op (q := q) u2 u6 u7 hd hk2 hok.1 (by omega) hq4 hs.1 hf ha
    have hty := evo_n fa o f ty n
    obtain ⟨h3, g1, g3⟩ := ih (p + 1) (evo fa o (f, n)).2 (tyO o (ty, n)).1 (evo fa o (f, n)).1 h2 v6 v7 (by rw [hty]; exact hok.2) (mseg_eq (e3 170 (by decide)) l _ hs.2) (by omega) (fun j a b => by rw [e3 179 (by decide)]; exact hf j a b) e2 h1
    exact ⟨h3, e1.trans g1, e3.tr g3⟩
theorem m_comesTo {d p q k : Nat} {fa : Nat → Int32} {l : List Op} {h : pm_Hp} (hd : 2 ≤ d) (hk2 : k < 2) (hq4 : q ≤ 410) (hok : okL l (fun _ => false, 0)) (hs : mseg h k p l) (hp : p + l.length = q) (hf : ∀ j, 1 ≤ j → j ≤ 9 → h 179 j = fa j) (h1 : 1 ≤ (tyL l (fun _ => false, 0)).2) : ∃ h', pm_ev d 209 [.ref 169, .int (nI k), .int (nI p), .int (nI q)] h = some ((evs fa l (fun _ => 0, 0)).1 0, h') ∧ eqi [178] h h' := by
  obtain ⟨d, rfl, -⟩ := dpos hd
  rw [e_X10_comesTo]
  exact m_seq (by omega) hk2 hq4 _ l p 0 (fun _ => false) (fun _ => 0) h .null .null hok hs hp hf (fun i hi => absurd hi (Nat.not_lt_zero i)) (by rw [evs_n fa l (fun _ => 0) (fun _ => false) 0]; exact h1)
