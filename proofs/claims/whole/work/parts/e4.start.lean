/-! THE LAW: its two objects are made, then it runs as the pure machine does -/
section LEND
variable {p : Program} {e : Env} {s : State} {m : MethodId} {below : List Frame} {meth : Method} {c : Code} {D : va_G} {c3 : ClassId × ClassId × ClassId}
theorem law_end (l : Launch) {b L : Nat} {xs : Nat → Int32} (hL : L ≤ 3072) (C0 : lw_At p s m meth c b L xs) (X : g_X D c3 s.heap.size p s m #[Value.ref b] c code 4 (pm_cn 25)) {as : List Nat} {H : Heap} {locs : List Loc} (V : g_V D c3 s.heap.size s as g_w2 H locs) {aq : Nat → Nat × Nat} (hS4 : vk_S nJS lenJS bytJS (fun i => (aq i).1) (fun i => (aq i).2) (g_A s.heap.size) s s.heap) (he4 : ∀ i, i < 26 → (st_t i).eval #[Value.ref b] s none [] s = some (.ref (aq i).1)) {sl : Array Slot} (hl : lv_has sl 4 [(3, .int 0), (2, .ref (g_ad as 170)), (1, .ref (g_ad as 0)), (0, .ref b)]) {cells slots : Nat} (h1 : cells ≤ 600000) (h2 : slots ≤ 7302250) : W p l e room_1 s m #[Value.ref b] below meth c H locs cells slots (lw_Z below #[Value.ref b] s) (F0 m 18 sl []) := by
  obtain ⟨hx, hb, hr, hml, hown, hts, hX, hbl, hlocks, hgv⟩ := id C0
  have hA0 : ∀ a : Nat, a < s.heap.size → ¬ g_A s.heap.size a := fun a h => Nat.not_le.mpr h
  have hl186 : as.length = 186 := V.1.trans g_n2
  obtain ⟨ad, hadE⟩ : ∃ ad : Nat → Nat, ad = fun k => if k < 186 then g_ad as (g_pi k) else if k = 300 then b else if k < 500 then (aq (k - 400)).1 else (aq (k - 500)).2 := ⟨_, rfl⟩
  have had : ∀ k, k < 186 → ad k = g_ad as (g_pi k) := fun k hk => by rw [hadE]; exact if_pos hk
  have a300 : ad 300 = b := by rw [hadE]; rfl
  have a400 : ∀ i, i < 26 → ad (400 + i) = (aq i).1 := fun i hi => by
    rw [hadE]
    show (if 400 + i < 186 then _ else if 400 + i = 300 then _ else if 400 + i < 500 then (aq (400 + i - 400)).1 else _) = _
    rw [if_neg (by omega), if_neg (by omega), if_pos (by omega), Nat.add_sub_cancel_left]
  have a500 : ∀ i, i < 26 → ad (500 + i) = (aq i).2 := fun i hi => by
    rw [hadE]
    show (if 500 + i < 186 then _ else if 500 + i = 300 then _ else if 500 + i < 500 then _ else (aq (500 + i - 500)).2) = _
    rw [if_neg (by omega), if_neg (by omega), if_neg (by omega), Nat.add_sub_cancel_left]
  have wat : ∀ k, k < 186 → (g_ws c3 as g_w2)[k]? = some (g_ad as k, g_cell c3 (g_ad as) (g_at g_w2 k)) := fun k hk => g_ws_at (by rw [g_n2]; exact hk)
  have hinj : ∀ i j, i < 186 → j < 186 → ad i = ad j → i = j := fun i j hi hj h => by
    rw [had i hi, had j hj] at h
    exact g_pi_in hi hj (V.2.2.1.1 (g_pi i) (g_pi j) _ _ (wat _ (g_pi_lt i hi)) (wat _ (g_pi_lt j hj)) h)
  have X' : pm_X D c3 ad L xs (g_A s.heap.size) p s m #[Value.ref b] c code 4 (pm_cn 25) := ⟨X.1, X.2.1, st_4 hts hgv hA0 hS4 he4 a400 a500, ⟨by rw [a300]; exact hX, by rw [a300]; exact hbl, by rw [a300]; exact hA0 b hbl, by omega⟩, ⟨hinj, fun k hk => by rw [had k hk]; exact V.2.2.1.2 (g_pi k) _ (wat _ (g_pi_lt k hk))⟩⟩
  have V' : pm_V D c3 ad L xs (g_A s.heap.size) s (gh0 L xs) H locs := ⟨g_to_pm L xs had V.2.1, V.2.2.2.1, fun j _ => rfl, rfl⟩
  obtain ⟨h', hrun⟩ := law_all (d := 40) (L := L) (by omega) hL (L + 1) 0 (gh0 L xs) (by omega) (by omega) (gh_iv L xs) rfl
  obtain ⟨n, hn⟩ := pm_rn_iff.mp hrun
  have hL' : pm_L ad [.ref 300, .ref 0, .ref 169, .int (nI 0)] sl 4 := by
    refine ⟨rfl, hl.1, hl.2.1, fun i u v g1 g2 => ?_⟩
    have hi : i < 4 := (List.getElem?_eq_some_iff.mp g1).1
    rcases (show i = 0 ∨ i = 1 ∨ i = 2 ∨ i = 3 by omega) with rfl | rfl | rfl | rfl
    · cases g1; cases g2; rw [a300]; exact lv_at hl 3 rfl
    · cases g1; cases g2; rw [had 0 (by omega)]; exact lv_at hl 2 rfl
    · cases g1; cases g2; rw [had 169 (by omega)]; exact lv_at hl 1 rfl
    · cases g1; cases g2; exact lv_at hl 0 rfl
  exact pm_core (R := room_1) (rm := pm_room 40) (rt := some .boolean) (oc := 25) (cd := pm_law) (C := pm_C 40 n) (r := 1) (h' := h') X' pm_Glaw (pm_met l D c3 ad L xs hinj 40 n) ⟨rfl, rfl, Nat.le_of_ble_eq_true rfl, Nat.le_of_ble_eq_true rfl⟩ (Nat.le_of_ble_eq_true rfl) ⟨h1, h2⟩ (fun pc sl H locs V9 => ⟨fun z => absurd z (fun z => (by cases z)), fun ty e1 e3 hdg hnr => va_forget (fun q hq => V9.2.1.2.2 q hq) (W.widen (k := 600000) (n := 7302250) h1 h2 (lw_ret hx hb hr hlocks hdg)), fun z => absurd z (fun z => (by cases z))⟩) n 18 [.ref 300, .ref 0, .ref 169, .int (nI 0)] [] (gh0 L xs) H locs sl hn V' hL' rfl
end LEND
/-- from the entry, for every script, the law comes to its end with true -/
theorem whole_start {p : Program} {e : Env} {s : State} {m : MethodId} {below : List Frame} {meth : Method} {c : Code} (l : Launch) {b L : Nat} {xs : Nat → Int32} (hL : L ≤ 3072) (C0 : lw_At p s m meth c b L xs) : W p l e room_1 s m #[Value.ref b] below meth c s.heap [] 0 0 (lw_Z below #[Value.ref b] s) (entryFrame m ([Value.ref b] : List Value).toArray 4) := by
  obtain ⟨hx, hb, hr, hml, hown, hts, hX, hbl, hlocks, hgv⟩ := id C0
  obtain ⟨D, c3, hK, hN⟩ := st_5 hts
  have hA0 : ∀ a : Nat, a < s.heap.size → ¬ g_A s.heap.size a := fun a h => Nat.not_le.mpr h
  obtain ⟨aq, hS4, he4⟩ := st_3 hgv hA0
  have X : g_X D c3 s.heap.size p s m #[Value.ref b] c code 4 (pm_cn 25) := ⟨⟨hx, hb, hml, hown, fun w hw => hts w (List.mem_filter.mp hw).1⟩, hK, hN, Nat.le_refl _⟩
  have V0 : g_V D c3 s.heap.size s [] [] s.heap [] := ⟨rfl, fun k q h => by simp [g_ws] at h, ⟨fun i j p q h => by simp [g_ws] at h, fun k q h => by simp [g_ws] at h⟩, va_S.rf, fun k hk => absurd hk (Nat.not_lt_zero k)⟩
  have hl := lv_entry ([.ref b] : List Value) (n := 4) (Nat.le_of_ble_eq_true rfl)
  rw [lg_entry_eq]
  generalize (lg_sl ([.ref b] : List Value) ++ List.replicate (4 - (lg_sl ([.ref b] : List Value)).length) Slot.unset).toArray = sl at hl ⊢
  have hl : lv_has sl 4 [(0, .ref b)] := hl
  refine g_newO (ci := 9) (i := 7) (oc := 25) X V0 (by omega) (by decide +kernel) (by decide +kernel) (by decide +kernel) dl_0 (fun q H1 V1 => ?_)
  refine lv_dup hx hb dl_3 rfl ?_
  have V1 : g_V D c3 s.heap.size s [q] [g_new 9 8] H1 [] := V1
  have c1 : ∀ (bs : List Nat) (H2 : Heap) (locs2 : List Loc), g_V D c3 s.heap.size s ([q] ++ bs) g_w1 H2 locs2 → W p l e room_1 s m #[Value.ref b] below meth c H2 locs2 (1 + g_mc 105) (8 + g_ms 105) (lw_Z below #[Value.ref b] s) (F0 m (4 + 3) sl (([.ref 0] : List Value).map (pm_tv (g_ad ([q] ++ bs))))) := fun bs H2 locs2 V2 => by
    have l1 : ([q] ++ bs).length = 170 := V2.1.trans g_n1
    generalize [q] ++ bs = as1 at V2 l1 ⊢
    show W p l e room_1 s m #[Value.ref b] below meth c H2 locs2 _ _ _ (F0 m 7 sl [.ref (g_ad as1 0)])
    refine lv_astore_n (lv' := [(1, .ref (g_ad as1 0)), (0, .ref b)]) hx hb dl_7 rfl hl (by decide) rfl (fun sl1 hl1 => ?_)
    refine g_newO (ci := 10) (i := 10) (oc := 25) X V2 (by omega) (by decide +kernel) (by decide +kernel) (by decide +kernel) dl_8 (fun q2 H3 V3 => ?_)
    refine lv_dup hx hb dl_11 rfl ?_
    have V3 : g_V D c3 s.heap.size s (as1 ++ [q2]) (g_w1 ++ [g_new 10 38]) H3 locs2 := V3
    have e170 : g_ad (as1 ++ [q2]) 170 = q2 := by rw [← l1]; exact g_ad_new
    have c2 : ∀ (bs2 : List Nat) (H4 : Heap) (locs4 : List Loc), g_V D c3 s.heap.size s (as1 ++ [q2] ++ bs2) g_w2 H4 locs4 → W p l e room_1 s m #[Value.ref b] below meth c H4 locs4 (1 + g_mc 105 + 1 + g_mc 156) (8 + g_ms 105 + 38 + g_ms 156) (lw_Z below #[Value.ref b] s) (F0 m (12 + 3) sl1 (([.ref 170] : List Value).map (pm_tv (g_ad (as1 ++ [q2] ++ bs2))))) := fun bs2 H4 locs4 V4 => by
      have e0 : g_ad as1 0 = g_ad (as1 ++ [q2] ++ bs2) 0 := by rw [g_ad_old (by rw [List.length_append]; omega), g_ad_old (by omega)]
      rw [e0] at hl1
      generalize as1 ++ [q2] ++ bs2 = as3 at V4 hl1 ⊢
      show W p l e room_1 s m #[Value.ref b] below meth c H4 locs4 _ _ _ (F0 m 15 sl1 [.ref (g_ad as3 170)])
      refine lv_astore_n (lv' := [(2, .ref (g_ad as3 170)), (1, .ref (g_ad as3 0)), (0, .ref b)]) hx hb dl_15 rfl hl1 (by decide) rfl (fun sl2 hl2 => ?_)
      refine lv_iconst (v := 0) hx hb dl_16 (by decide) ?_
      refine lv_istore_n (lv' := [(3, .int 0), (2, .ref (g_ad as3 170)), (1, .ref (g_ad as3 0)), (0, .ref b)]) hx hb dl_17 rfl hl2 (by decide) rfl (fun sl3 hl3 => ?_)
      exact law_end l hL C0 X V4 hS4 he4 hl3 (by decide +kernel) (by decide +kernel)
    have l171 : ([.ref 170] : List Value).all (g_lt (as1 ++ [q2]).length) = true := by
      rw [List.length_append, l1, List.length_singleton]
      decide
    have h9 := g_call (C := g_C 4 400) (d := 4) (mj := 156) (k := 170) (i := 12) (q := 0) (pc := 12) (sl := sl1) (cells := 1 + g_mc 105 + 1) (slots := 8 + g_ms 105 + 38) (ls := [.null, .null, .null, .null]) (st := [.ref 170]) (oc := 25) (R := room_1) (l := l) (e := e) (meth := meth) (below := below) X V3 (g_L4 hl1) rfl rfl (g_met l D c3 s.heap.size 4 400) ⟨by decide +kernel, by decide +kernel⟩ ⟨by decide +kernel, by decide +kernel⟩ l171 (Or.inl ⟨rfl, by decide +kernel⟩) g_e2 dl_12 c2
    rw [show (([.ref 170] : List Value).map (pm_tv (g_ad (as1 ++ [q2])))) = [.ref (g_ad (as1 ++ [q2]) 170)] from rfl, e170] at h9
    exact h9
  exact g_call (C := g_C 4 400) (d := 4) (mj := 105) (k := 0) (i := 9) (q := 0) (pc := 4) (sl := sl) (cells := 1) (slots := 8) (ls := [.null, .null, .null, .null]) (st := [.ref 0]) (oc := 25) (R := room_1) (l := l) (e := e) (meth := meth) (below := below) X V1 (g_L4 hl) rfl rfl (g_met l D c3 s.heap.size 4 400) ⟨by decide +kernel, by decide +kernel⟩ ⟨by decide +kernel, by decide +kernel⟩ rfl (Or.inl ⟨rfl, by decide +kernel⟩) g_e1 dl_4 c1
