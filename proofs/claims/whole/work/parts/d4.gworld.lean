/-! THE WORLD of cells that come -/
def g_ad (as : List Nat) (k : Nat) : Nat := as.getD k 0
def g_fld (ad : Nat → Nat) (e : gE) (j : Nat) : Value := bif Nat.beq ((pm_ft e.1).getD j 0) 2 then va_rf ((e.2.2.2 j).map ad) else .int (e.2.2.1 j)
def g_cell (c3 : ClassId × ClassId × ClassId) (ad : Nat → Nat) (e : gE) : va_E :=
  bif Nat.beq e.1 11 then .inl (c3.1, e.2.1, .inl e.2.2.1)
  else bif Nat.beq e.1 12 then .inl (c3.2.1, e.2.1, .inr (.inr (.inr (.inr fun j => (e.2.2.2 j).map ad))))
  else bif Nat.beq e.1 13 then .inl (c3.2.2, e.2.1, .inr (.inr (.inr (.inr fun j => (e.2.2.2 j).map ad))))
  else .inr (e.1, (List.range e.2.1).map (g_fld ad e))
def g_ws (c3 : ClassId × ClassId × ClassId) (as : List Nat) (w : gW) : va_W := (List.range w.length).map (fun k => (g_ad as k, g_cell c3 (g_ad as) (g_at w k)))
def g_wf (w : gW) : Prop := ∀ k, k < w.length → ∀ j i, (g_at w k).2.2.2 j = some i → i < w.length
theorem g_ws_at {c3 : ClassId × ClassId × ClassId} {as : List Nat} {w : gW} {k : Nat} (hk : k < w.length) : (g_ws c3 as w)[k]? = some (g_ad as k, g_cell c3 (g_ad as) (g_at w k)) := by
  simp [g_ws, hk]
theorem g_ws_no {c3 : ClassId × ClassId × ClassId} {as : List Nat} {w : gW} {k : Nat} (hk : w.length ≤ k) : (g_ws c3 as w)[k]? = none := by
  simp [g_ws, hk]
theorem g_ws_len {c3 : ClassId × ClassId × ClassId} {as : List Nat} {w : gW} : (g_ws c3 as w).length = w.length := by
  simp [g_ws]
theorem g_cell_11 {c3 : ClassId × ClassId × ClassId} {ad : Nat → Nat} {e : gE} (h : e.1 = 11) : g_cell c3 ad e = .inl (c3.1, e.2.1, .inl e.2.2.1) := by
  unfold g_cell
  rw [pm_beqT h, cond_true]
theorem g_cell_12 {c3 : ClassId × ClassId × ClassId} {ad : Nat → Nat} {e : gE} (h : e.1 = 12) : g_cell c3 ad e = .inl (c3.2.1, e.2.1, .inr (.inr (.inr (.inr fun j => (e.2.2.2 j).map ad)))) := by
  unfold g_cell
  rw [pm_beqF (b := 11) (by omega), cond_false, pm_beqT h, cond_true]
theorem g_cell_13 {c3 : ClassId × ClassId × ClassId} {ad : Nat → Nat} {e : gE} (h : e.1 = 13) : g_cell c3 ad e = .inl (c3.2.2, e.2.1, .inr (.inr (.inr (.inr fun j => (e.2.2.2 j).map ad)))) := by
  unfold g_cell
  rw [pm_beqF (b := 11) (by omega), cond_false, pm_beqF (b := 12) (by omega), cond_false, pm_beqT h, cond_true]
theorem g_cell_o {c3 : ClassId × ClassId × ClassId} {ad : Nat → Nat} {e : gE} {ci : Nat} (h : e.1 = ci) (hc : ci ≤ 10) : g_cell c3 ad e = .inr (ci, (List.range e.2.1).map (g_fld ad e)) := by
  unfold g_cell
  rw [pm_beqF (b := 11) (by omega), cond_false, pm_beqF (b := 12) (by omega), cond_false, pm_beqF (b := 13) (by omega), cond_false, h]
theorem g_ad_old {as bs : List Nat} {k : Nat} (hk : k < as.length) : g_ad (as ++ bs) k = g_ad as k := by
  unfold g_ad
  rw [List.getD_eq_getElem?_getD, List.getD_eq_getElem?_getD, List.getElem?_append_left hk]
theorem g_ad_new {as : List Nat} {q : Nat} : g_ad (as ++ [q]) as.length = q := by
  unfold g_ad
  rw [List.getD_eq_getElem?_getD, List.getElem?_append_right (Nat.le_refl _), Nat.sub_self]
  rfl
theorem g_at_old {w es : gW} {k : Nat} (hk : k < w.length) : g_at (w ++ es) k = g_at w k := by
  unfold g_at
  rw [List.getD_eq_getElem?_getD, List.getD_eq_getElem?_getD, List.getElem?_append_left hk]
theorem g_at_new {w es : gW} {k : Nat} : g_at (w ++ es) (w.length + k) = g_at es k := by
  unfold g_at
  rw [List.getD_eq_getElem?_getD, List.getD_eq_getElem?_getD, List.getElem?_append_right (by omega), Nat.add_sub_cancel_left]
theorem g_at_set {w : gW} {k : Nat} {e : gE} (hk : k < w.length) : g_at (w.set k e) k = e := by
  unfold g_at
  rw [List.getD_eq_getElem?_getD, List.getElem?_set, if_pos rfl, if_pos hk]
  rfl
theorem g_at_ne {w : gW} {k i : Nat} {e : gE} (h : k ≠ i) : g_at (w.set k e) i = g_at w i := by
  unfold g_at
  rw [List.getD_eq_getElem?_getD, List.getD_eq_getElem?_getD, List.getElem?_set, if_neg h]
/-- a cell whose references lie below n says the same at addresses that agree below n -/
theorem g_cell_cg {c3 : ClassId × ClassId × ClassId} {ad ad' : Nat → Nat} {e : gE} {n : Nat} (h : ∀ k, k < n → ad' k = ad k) (hr : ∀ j i, e.2.2.2 j = some i → i < n) : g_cell c3 ad' e = g_cell c3 ad e := by
  have hm : ∀ j, (e.2.2.2 j).map ad' = (e.2.2.2 j).map ad := fun j => by
    cases x : e.2.2.2 j with
    | none => rfl
    | some i => rw [Option.map_some, Option.map_some, h i (hr j i x)]
  have hf : (fun j => (e.2.2.2 j).map ad') = fun j => (e.2.2.2 j).map ad := funext hm
  have hg : g_fld ad' e = g_fld ad e := funext fun j => by unfold g_fld; rw [hm j]
  unfold g_cell
  rw [hf, hg]
theorem g_ws_app {c3 : ClassId × ClassId × ClassId} {as bs : List Nat} {w es : gW} (hl : as.length = w.length) (hw : g_wf w) : g_ws c3 (as ++ bs) (w ++ es) = g_ws c3 as w ++ (List.range es.length).map (fun k => (g_ad (as ++ bs) (w.length + k), g_cell c3 (g_ad (as ++ bs)) (g_at es k))) := by
  apply List.ext_getElem?
  intro i
  rcases Nat.lt_or_ge i w.length with hi | hi
  · rw [g_ws_at (by rw [List.length_append]; omega), List.getElem?_append_left (by rw [g_ws_len]; exact hi), g_ws_at hi, g_at_old hi, g_ad_old (by omega), g_cell_cg (ad := g_ad as) (n := w.length) (fun k hk => g_ad_old (by omega)) (hw i hi)]
  · rw [List.getElem?_append_right (by rw [g_ws_len]; exact hi), g_ws_len]
    rcases Nat.lt_or_ge i (w.length + es.length) with hj | hj
    · rw [g_ws_at (by rw [List.length_append]; omega)]
      have e1 : i = w.length + (i - w.length) := by omega
      rw [List.getElem?_map, List.getElem?_range (by omega), Option.map_some]
      rw [show w.length + (i - w.length) = i by omega]
      have e2 : g_at (w ++ es) i = g_at es (i - w.length) := by
        have := g_at_new (w := w) (es := es) (k := i - w.length)
        rwa [show w.length + (i - w.length) = i by omega] at this
      rw [e2]
    · rw [g_ws_no (by rw [List.length_append]; omega), List.getElem?_eq_none (by simp; omega)]
theorem g_ws_push {c3 : ClassId × ClassId × ClassId} {as : List Nat} {w : gW} {q k n : Nat} (hl : as.length = w.length) (hw : g_wf w) : g_ws c3 (as ++ [q]) (w ++ [g_new k n]) = g_ws c3 as w ++ [(q, g_cell c3 (g_ad as) (g_new k n))] := by
  rw [g_ws_app hl hw]
  congr 1
  show [(g_ad (as ++ [q]) (w.length + 0), g_cell c3 (g_ad (as ++ [q])) (g_new k n))] = _
  rw [Nat.add_zero, ← hl, g_ad_new, g_cell_cg (ad := g_ad as) (n := 0) (fun k hk => absurd hk (Nat.not_lt_zero k)) (fun j i h => by cases h)]
theorem g_ws_set {c3 : ClassId × ClassId × ClassId} {as : List Nat} {w : gW} {k : Nat} {e : gE} (hk : k < w.length) : (g_ws c3 as w).set k (g_ad as k, g_cell c3 (g_ad as) e) = g_ws c3 as (w.set k e) := by
  apply List.ext_getElem?
  intro i
  rw [List.getElem?_set]
  rcases Nat.lt_or_ge i w.length with hi | hi
  · rw [g_ws_at (w := w.set k e) (by rw [List.length_set]; exact hi)]
    by_cases x : k = i
    · subst x
      rw [if_pos rfl, if_pos (by rw [g_ws_len]; exact hk), g_at_set hk]
    · rw [if_neg x, g_ws_at hi, g_at_ne x]
  · rw [g_ws_no (w := w.set k e) (by rw [List.length_set]; exact hi), if_neg (by omega), g_ws_no hi]
theorem g_wf_push {w : gW} {es : gW} (hw : g_wf w) (he : ∀ k, k < es.length → ∀ j i, (g_at es k).2.2.2 j = some i → i < w.length + es.length) : g_wf (w ++ es) := by
  intro k hk j i h
  rw [List.length_append] at hk ⊢
  rcases Nat.lt_or_ge k w.length with g | g
  · rw [g_at_old g] at h
    have := hw k g j i h
    omega
  · have e2 := g_at_new (w := w) (es := es) (k := k - w.length)
    rw [show w.length + (k - w.length) = k by omega] at e2
    rw [e2] at h
    exact he (k - w.length) (by omega) j i h
theorem g_wf_new {w : gW} {k n : Nat} (hw : g_wf w) : g_wf (w ++ [g_new k n]) := g_wf_push hw (fun i hi j x h => by
  have : i = 0 := by simp only [List.length_singleton] at hi; omega
  subst this
  cases h)
theorem g_wf_uI {w : gW} {k j : Nat} {v : Int32} (hw : g_wf w) (hk : k < w.length) : g_wf (w.set k (g_uI (g_at w k) j v)) := by
  intro i hi x y h
  rw [List.length_set] at hi ⊢
  by_cases e : k = i
  · subst e
    rw [g_at_set hk] at h
    exact hw k hk x y h
  · rw [g_at_ne e] at h
    exact hw i hi x y h
theorem g_wf_uR {w : gW} {k j r : Nat} (hw : g_wf w) (hk : k < w.length) (hr : r < w.length) : g_wf (w.set k (g_uR (g_at w k) j r)) := by
  intro i hi x y h
  rw [List.length_set] at hi ⊢
  by_cases e : k = i
  · subst e
    rw [g_at_set hk] at h
    have h : (if x = j then some r else (g_at w k).2.2.2 x) = some y := h
    by_cases z : x = j
    · rw [if_pos z] at h; cases h; exact hr
    · rw [if_neg z] at h; exact hw k hk x y h
  · rw [g_at_ne e] at h
    exact hw i hi x y h
/-- values below n are the same at addresses that agree below n -/
theorem g_tv_cg {as bs : List Nat} : ∀ {st : List Value}, st.all (g_lt as.length) = true → st.map (pm_tv (g_ad (as ++ bs))) = st.map (pm_tv (g_ad as))
  | [], _ => rfl
  | v :: st, h => by
    rw [List.all_cons, Bool.and_eq_true] at h
    rw [List.map_cons, List.map_cons, g_tv_cg h.2]
    congr 1
    cases v with
    | ref k => show Value.ref _ = Value.ref _; rw [g_ad_old (Nat.le_of_ble_eq_true h.1)]
    | _ => rfl
theorem g_L_cg {as bs : List Nat} {ls : List Value} {sl : Array Slot} {nL : Nat} (h : ls.all (g_lt as.length) = true) (hL : pm_L (g_ad as) ls sl nL) : pm_L (g_ad (as ++ bs)) ls sl nL := by
  refine ⟨hL.1, hL.2.1, hL.2.2.1, fun i u v h1 h2 => hL.2.2.2 i u v h1 ?_⟩
  have h3 := List.all_eq_true.mp h u (List.mem_of_getElem? h1)
  cases u with
  | ref k => rw [← h2]; show some (Value.ref _) = some (Value.ref _); rw [g_ad_old (Nat.le_of_ble_eq_true h3)]
  | int x => exact h2
  | _ => cases h2
