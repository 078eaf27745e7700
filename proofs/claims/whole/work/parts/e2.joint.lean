/-! FROM WHAT WAS MADE TO THE PURE WORLD -/
theorem arrV_cg {cA : ClassId} {n : Nat} {f g : Nat → Value} (h : ∀ j, j < n → f j = g j) : arrV cA n f = arrV cA n g := by
  have e : (fun j : Fin n => f j.val) = fun j : Fin n => g j.val := funext fun j => h j.val j.isLt
  unfold arrV
  rw [e]
theorem g_kd : ∀ k, k < 186 → (pm_ob k).1 ≤ 13 := by decide +kernel
theorem g_rl0 : ∀ k, k < 186 → (pm_ob k).2.2.all (fun r => Nat.ble (r + 1) 186) = true := by decide +kernel
theorem g_rl {k j : Nat} (hk : k < 186) : (pm_ob k).2.2.getD j 0 < 186 := by
  rw [List.getD_eq_getElem?_getD]
  cases e : (pm_ob k).2.2[j]? with
  | none => show 0 < 186; omega
  | some r => exact Nat.le_of_ble_eq_true (List.all_eq_true.mp (g_rl0 k hk) r (List.mem_of_getElem? e))
theorem gh0_k {L k : Nat} {xs : Nat → Int32} (hk : k < 186) : gh0 L xs k = (g_at g_w2 (g_pi k)).2.2.1 := by
  funext j
  show (if k = 300 then xs j else if k = 301 then nI L else gh k j) = _
  rw [if_neg (by omega), if_neg (by omega)]
  rfl
theorem g_to_pm0 {D : va_G} {c3 : ClassId × ClassId × ClassId} {as : List Nat} {ad : Nat → Nat} {H : Heap} {w : gW} {h : pm_Hp} (wn : w.length = 186) (wk : ∀ k, k < 186 → (g_at w (g_pi k)).1 = (pm_ob k).1 ∧ (g_at w (g_pi k)).2.1 = (pm_ob k).2.1) (wr : ∀ k, k < 186 → ∀ j, j < (pm_ob k).2.1 → ((pm_ob k).1 = 12 ∨ (pm_ob k).1 = 13 ∨ ((pm_ob k).1 ≤ 10 ∧ (pm_ft (pm_ob k).1).getD j 0 = 2)) → (g_at w (g_pi k)).2.2.2 j = some (g_pi ((pm_ob k).2.2.getD j 0))) (wh : ∀ k, k < 186 → h k = (g_at w (g_pi k)).2.2.1) (had : ∀ k, k < 186 → ad k = g_ad as (g_pi k)) (hP : va_P D vwCl (g_ws c3 as w) H) : va_P D vwCl (pm_ws c3 ad h) H := by
  intro k q hq
  obtain ⟨hk, rfl⟩ := pm_ws_lt hq
  have h1 := hP (g_pi k) _ (g_ws_at (by rw [wn]; exact g_pi_lt k hk))
  obtain ⟨e1, e2⟩ := wk k hk
  have hh := wh k hk
  rw [had k hk]
  have k13 := g_kd k hk
  by_cases k11 : (pm_ob k).1 = 11
  · rw [g_cell_11 (e1.trans k11), e2, ← hh] at h1
    rw [pm_cell_11 k11]
    exact h1
  by_cases k12 : (pm_ob k).1 = 12
  · rw [g_cell_12 (e1.trans k12), e2] at h1
    rw [pm_cell_12 k12]
    have h1 : H[g_ad as (g_pi k)]? = some (vp_cell _ _) := h1
    show H[g_ad as (g_pi k)]? = some (vp_cell _ _)
    rw [h1, vp_cell_q, vp_cell_q]
    congr 1
    refine arrV_cg (fun j hj => ?_)
    show va_rf (((g_at w (g_pi k)).2.2.2 j).map (g_ad as)) = va_rf (some (ad ((pm_ob k).2.2.getD j 0)))
    rw [wr k hk j hj (Or.inl k12), had _ (g_rl hk)]
    rfl
  by_cases kk : (pm_ob k).1 = 13
  · rw [g_cell_13 (e1.trans kk), e2] at h1
    rw [pm_cell_13 kk]
    have h1 : H[g_ad as (g_pi k)]? = some (vp_cell _ _) := h1
    show H[g_ad as (g_pi k)]? = some (vp_cell _ _)
    rw [h1, vp_cell_q, vp_cell_q]
    congr 1
    refine arrV_cg (fun j hj => ?_)
    show va_rf (((g_at w (g_pi k)).2.2.2 j).map (g_ad as)) = va_rf (some (ad ((pm_ob k).2.2.getD j 0)))
    rw [wr k hk j hj (Or.inr (Or.inl kk)), had _ (g_rl hk)]
    rfl
  · have k10 : (pm_ob k).1 ≤ 10 := by omega
    rw [g_cell_o e1 k10, e2] at h1
    rw [pm_cell_o rfl k10]
    have e3 : (List.range (pm_ob k).2.1).map (pm_fld ad h k) = (List.range (pm_ob k).2.1).map (g_fld (g_ad as) (g_at w (g_pi k))) := by
      refine List.map_congr_left (fun j hj => ?_)
      have hj := List.mem_range.mp hj
      unfold pm_fld g_fld
      rw [e1]
      cases hb : Nat.beq ((pm_ft (pm_ob k).1).getD j 0) 2 with
      | false => rw [cond_false, cond_false, hh]
      | true =>
        rw [cond_true, cond_true, wr k hk j hj (Or.inr (Or.inr ⟨k10, Nat.eq_of_beq_eq_true hb⟩)), had _ (g_rl hk)]
        rfl
    rw [e3]
    exact h1
theorem g_to_pm {D : va_G} {c3 : ClassId × ClassId × ClassId} {as : List Nat} {ad : Nat → Nat} {H : Heap} (L : Nat) (xs : Nat → Int32) (had : ∀ k, k < 186 → ad k = g_ad as (g_pi k)) (hP : va_P D vwCl (g_ws c3 as g_w2) H) : va_P D vwCl (pm_ws c3 ad (gh0 L xs)) H := g_to_pm0 g_n2 g_k2 g_r2 (fun _ hk => gh0_k hk) had hP
theorem g_e1 : g_C 4 400 105 0 [g_new 9 8] = some g_w1 := by
  obtain ⟨w, hw⟩ := Option.isSome_iff_exists.mp g_s1
  have e : g_w1 = w := by unfold g_w1; rw [hw]; rfl
  rw [e]
  exact hw
theorem g_e2 : g_C 4 400 156 170 (g_w1 ++ [g_new 10 38]) = some g_w2 := by
  obtain ⟨w, hw⟩ := Option.isSome_iff_exists.mp g_s2
  have e : g_w2 = w := by unfold g_w2; rw [hw]; rfl
  rw [e]
  exact hw
theorem g_L4 {as : List Nat} {sl : Array Slot} {lv : List (Nat × Value)} (h : lv_has sl 4 lv) : pm_L (g_ad as) [.null, .null, .null, .null] sl 4 := by
  refine ⟨rfl, h.1, h.2.1, fun i u v h1 h2 => ?_⟩
  have h3 : u = .null := by
    have := List.mem_of_getElem? h1
    simpa using this
  rw [h3] at h2
  cases h2
theorem dl_0 : decode code 0 = .ok (.new 7, 3) := by decide +kernel
theorem dl_3 : decode code 3 = .ok (.dup, 1) := by decide +kernel
theorem dl_4 : decode code 4 = .ok (.invokespecial 9, 3) := by decide +kernel
theorem dl_7 : decode code 7 = .ok (.astore_n 1, 1) := by decide +kernel
theorem dl_8 : decode code 8 = .ok (.new 10, 3) := by decide +kernel
theorem dl_11 : decode code 11 = .ok (.dup, 1) := by decide +kernel
theorem dl_12 : decode code 12 = .ok (.invokespecial 12, 3) := by decide +kernel
theorem dl_15 : decode code 15 = .ok (.astore_n 2, 1) := by decide +kernel
theorem dl_16 : decode code 16 = .ok (.iconst 0, 1) := by decide +kernel
theorem dl_17 : decode code 17 = .ok (.istore_n 3, 1) := by decide +kernel
