theorem c_copyL_t {d k : Nat} (hd : 3 ≤ d) (hk : k < 2) (h : pm_Hp) : ∃ h', pm_ev d 45 [.ref (18 + 7 * k), .ref 135] h = some (0, h') ∧ (∀ a, (a < 18 + 7 * k ∨ 24 + 7 * k ≤ a) → h' a = h a) ∧ h' (18 + 7 * k) 6 = h 135 6 ∧ (∀ j, j < 400 → h' (19 + 7 * k) j = h 136 j) ∧ ∀ r j, 1 ≤ r → r ≤ 4 → j < 16 → h' (19 + 7 * k + r) j = h (136 + r) j := by
  have : k = 0 ∨ k = 1 := by omega
  rcases this with rfl | rfl
  · obtain ⟨h', a1, a2, a3, a4, a5⟩ := c_copyL_t0 hd h
    refine ⟨h', a1, fun a ha => a2 a (by omega), a3, a4, fun r j h1 h2 hj => ?_⟩
    have := a5 (r + 1) j (by omega) (by omega) hj
    rw [show 19 + 7 * 0 + r = 18 + (r + 1) by omega, this, show 135 + (r + 1) = 136 + r by omega]
  · obtain ⟨h', a1, a2, a3, a4, a5⟩ := c_copyL_t1 hd h
    refine ⟨h', a1, fun a ha => a2 a (by omega), a3, a4, fun r j h1 h2 hj => ?_⟩
    have := a5 (r + 1) j (by omega) (by omega) hj
    rw [show 19 + 7 * 1 + r = 25 + (r + 1) by omega, this, show 135 + (r + 1) = 136 + r by omega]
section
variable {tp : Nat → Nat} {n : Nat}
/-- the class is ready to read -/
theorem c_start {d k : Nat} {h : pm_Hp} (hd : 8 ≤ d) (hk : k ≤ 2) (hb : ∀ i, tp i < 256) (hn : n ≤ 400) (e1 : h 133 1 = nI n) (et : ∀ i, i < n → h 134 i = nI (tp i)) : ∃ K g, KE tp n K ∧ pm_ev d 76 [.ref 133, .int (nI k)] h = some (1, g) ∧ (∀ a, a ≠ 133 → (a < 147 ∨ 149 < a) → g a = h a) ∧ g 133 2 = 0 ∧ g 133 3 = -1 ∧ g 133 10 = 0 ∧ g 133 9 = nI (K + 1) ∧ TKR tp n (K + 1) g := by
  obtain ⟨d, rfl, -⟩ := dpos hd
  obtain ⟨K, g, a1, a2, a3, a4, a5, a6, a7, a8, a9⟩ := c_scan (d := d) (tp := tp) (n := n) (h := pm_up (pm_up h 133 2 0) 133 3 (-1)) (by omega) (fun i hi => by rw [pm_up_k (by omega), pm_up_k (by omega)]; exact et i hi) hb hn (by rw [pm_up_j (by omega), pm_up_j (by omega)]; exact e1)
  refine ⟨K, g, ke_of hb hn a2 a3 a4, ?_, fun a x y => by rw [a5 a x (by omega) (by omega) (by omega), pm_up_n x, pm_up_n x], by rw [a6 2 (by omega) (by omega), pm_up_j (by omega), pm_up_s], by rw [a6 3 (by omega) (by omega), pm_up_s], a7, a8, a9⟩
  rw [e_X5_start, if_neg (nI_pos (by omega)), if_pos (nI_le hk (by omega)), a1, pm_bd_s]
theorem f_53 {d : Nat} {h : pm_Hp} (hd : 1 ≤ d) : pm_ev d 53 [.ref 150] h = some (0, pm_up h 150 0 0) := by
  obtain ⟨d, rfl, -⟩ := dpos hd
  exact e_X4_forgetPlan d h
def TCl (tp : Nat → Nat) (n k : Nat) (h h1 : pm_Hp) (r : Int32) (R : Rs) : Prop := match R with
  | .inl e => r = -1 ∧ h1 133 2 = nI e.1 ∧ h1 133 3 = nI (tl_ tp n e.2) ∧ ∀ a, (a < 133 ∨ 149 < a) → h1 a = h a
  | .inr xs => r = nI xs.length ∧ h1 133 2 = 0 ∧ h1 133 3 = -1 ∧ xs.length ≤ 16 ∧ (∀ a, (a < 18 + 7 * k ∨ (24 + 7 * k ≤ a ∧ a < 133) ∨ 150 < a) → h1 a = h a) ∧ h1 150 0 = 0 ∧ h1 (18 + 7 * k) 6 = nI xs.length ∧ (∀ j, j < xs.length → clsL h1 (19 + 7 * k) j (lat xs j)) ∧ ∀ x, x ∈ xs → okLn x
theorem c_textL {d k : Nat} {h : pm_Hp} (hd : 24 ≤ d) (hk : k < 2) (hb : ∀ i, tp i < 256) (hn : n ≤ 400) (e1 : h 133 1 = nI n) (et : ∀ i, i < n → h 134 i = nI (tp i)) : ∃ K r h1, KE tp n K ∧ pm_ev d 117 [.ref 0, .int (nI k)] h = some (r, h1) ∧ h1 133 1 = 0 ∧ TCl tp n k h h1 r (lsf (tc tp n) (tv tp n) k 17 0 0) := by
  obtain ⟨d, rfl, -⟩ := dpos hd
  obtain ⟨K, g, a1, a2, a3, a4, a5, a6, a7, a8⟩ := c_start (d := d) (k := k) (by omega) (by omega) hb hn e1 et
  obtain ⟨r, y, b1, b2_, b3⟩ := c_law (d := d) (r := k) (by omega) hk a1 a7 a8 a6
  have hk2 : k = 0 ∨ k = 1 := by omega
  refine ⟨K, ?_⟩
  have key : ∃ r h1, (pm_bd (pm_ev d 88 [.ref 133, .int (b2 (k = 0))] g) fun r7 y7 => if r7 = 0 then (some ((-1 : Int32), (pm_up y7 133 1 0))) else (pm_bd (pm_ev d 53 [.ref 150] (pm_up y7 133 1 0)) fun _ y8 => pm_bd (pm_ev d 45 [.ref (18 + 7 * k), .ref 135] y8) fun _ y10 => some (y10 (18 + 7 * k) 6, y10))) = some (r, h1) ∧ h1 133 1 = 0 ∧ TCl tp n k h h1 r (lsf (tc tp n) (tv tp n) k 17 0 0) := by
    rw [b1, pm_bd_s]
    cases hR : lsf (tc tp n) (tv tp n) k 17 0 0 with
    | inl e =>
      rw [hR] at b3
      rw [if_pos b3.1]
      exact ⟨-1, _, rfl, pm_up_s, rfl, by rw [pm_up_j (by omega)]; exact b3.2.1, by rw [pm_up_j (by omega)]; exact b3.2.2, fun a ha => by rw [pm_up_n (by omega), b2_.1 a (by omega), a3 a (by omega) (by omega)]⟩
    | inr xs =>
      rw [hR] at b3
      obtain ⟨c1, c2, c3, c4, c5, c6, c7, c8⟩ := b3
      rw [List.nil_append] at c4 c5 c6 c7 c8
      obtain ⟨z, d1, d2, d3, d4, d5⟩ := c_copyL_t (d := d) (k := k) (by omega) hk (pm_up (pm_up y 133 1 0) 150 0 0)
      rw [if_neg (by rw [c1]; decide), f_53 (by omega), pm_bd_s, d1, pm_bd_s]
      have q : ∀ a, 135 ≤ a → a ≤ 149 → (pm_up (pm_up y 133 1 0) 150 0 0) a = y a := fun a x1 x2 => by rw [pm_up_n (by omega), pm_up_n (by omega)]
      refine ⟨_, z, rfl, by rw [d2 133 (by omega), pm_up_k (by omega), pm_up_s], ?_, ?_, ?_, c8, fun a ha => ?_, ?_, ?_, fun j hj => ?_, lsf_ok a1 hk 17 0 0 xs (Nat.zero_le _) hR⟩
      · rw [d3, q 135 (by omega) (by omega)]; exact c4
      · rw [d2 133 (by omega), pm_up_k (by omega), pm_up_j (by omega), c2]; exact a4
      · rw [d2 133 (by omega), pm_up_k (by omega), pm_up_j (by omega), c3]; exact a5
      · rw [d2 a (by omega), pm_up_n (by omega), pm_up_n (by omega), b2_.1 a (by omega), a3 a (by omega) (by omega)]
      · rw [d2 150 (by omega), pm_up_s]
      · rw [d3, q 135 (by omega) (by omega)]; exact c4
      · have := cls_at (h := y) (h' := z) (c := 19 + 7 * k) (fun j hj => by rw [d4 j hj, q 136 (by omega) (by omega)]) (fun r j x1 x2 hj => by rw [d5 r j x1 x2 hj, q (136 + r) (by omega) (by omega)]) xs 0 0 c5 c6 (by omega) (by omega) j hj
        rw [Nat.zero_add] at this
        exact this
  obtain ⟨r', h1, k1, k2, k3⟩ := key
  refine ⟨r', h1, a1, ?_, k2, k3⟩
  rw [e_X9_text, a2, pm_bd_s, if_neg (by decide)]
  rcases hk2 with rfl | rfl
  · rw [b2_t rfl] at k1
    rw [if_neg (by decide), if_pos nI_0, ← k1]
    rfl
  · rw [b2_f (by omega)] at k1
    rw [if_neg (by decide), if_neg (by decide), ← k1]
    rfl
def TMl (tp : Nat → Nat) (n k : Nat) (h h1 : pm_Hp) (r : Int32) (R : Rs) : Prop := match R with
  | .inl e => r = -1 ∧ h1 169 25 = nI e.1 ∧ h1 169 27 = nI (tl_ tp n e.2) ∧ ∀ a, a ≠ 169 → a ≠ 173 → a ≠ 174 → h1 a = h a
  | .inr xs => r = nI xs.length ∧ h1 169 25 = 0 ∧ h1 169 27 = -1 ∧ (∀ a, a ≠ 169 → a ≠ 170 → a ≠ 173 → a ≠ 174 → h1 a = h a) ∧ (∀ x, ¬ inLw k x → h1 170 x = h 170 x) ∧ h1 170 (329 + k) = nI xs.length ∧ ∀ j, j < xs.length → modL h1 k j (lat xs j)
/-- the model is ready to read -/
theorem m_start {d k : Nat} {h : pm_Hp} (hd : 7 ≤ d) (hk : k ≤ 2) (hb : ∀ i, tp i < 256) (hn : n ≤ 400) (t : TM tp n h) : ∃ y, pm_ev d 186 [.ref 169] (pm_up (pm_up (pm_up (pm_up (pm_up h 169 25 0) 169 27 (-1)) 169 23 0) 169 19 0) 169 12 (nI k)) = some (0, y) ∧ (∀ a, a ≠ 169 → y a = h a) ∧ (∀ j, j ≠ 12 → (j < 19 ∨ 23 < j) → j ≠ 25 → j ≠ 27 → y 169 j = h 169 j) ∧ y 169 25 = 0 ∧ y 169 27 = -1 ∧ TM tp n y ∧ y 169 12 = nI k ∧ MA k (tks tp n 0) y := by
  generalize hg : pm_up (pm_up (pm_up (pm_up (pm_up h 169 25 0) 169 27 (-1)) 169 23 0) 169 19 0) 169 12 (nI k) = g
  have go : ∀ a, a ≠ 169 → g a = h a := fun a x => by rw [← hg, pm_up_n x, pm_up_n x, pm_up_n x, pm_up_n x, pm_up_n x]
  have gj : ∀ j, j ≠ 12 → j ≠ 19 → j ≠ 23 → j ≠ 25 → j ≠ 27 → g 169 j = h 169 j := fun j x1 x2 x3 x4 x5 => by rw [← hg, pm_up_j x1, pm_up_j x2, pm_up_j x3, pm_up_j x5, pm_up_j x4]
  have g12 : g 169 12 = nI k := by rw [← hg]; exact pm_up_s
  have t1 : TM tp n g := t.to (gj 18 (by omega) (by omega) (by omega) (by omega) (by omega)) (go 177 (by omega))
  obtain ⟨y, a1, a2, a3⟩ := m_next (p := 0) hd hb hn (by omega) (Nat.zero_le _) t1 (by rw [← hg, pm_up_j (by omega), pm_up_s]; rfl) g12
  exact ⟨y, a1, fun a ha => by rw [a2.1 a ha]; exact go a ha, fun j x1 x2 x3 x4 => by rw [a2.2 j (by omega)]; exact gj j x1 (by omega) (by omega) x3 x4, by rw [a2.2 25 (by omega), ← hg, pm_up_j (by omega), pm_up_j (by omega), pm_up_j (by omega), pm_up_j (by omega), pm_up_s], by rw [a2.2 27 (by omega), ← hg, pm_up_j (by omega), pm_up_j (by omega), pm_up_j (by omega), pm_up_s], a2.tm t1, by rw [a2.2 12 (by omega)]; exact g12, a3⟩
theorem m_textL {d k K : Nat} {h : pm_Hp} (hd : 40 ≤ d) (hk : k < 2) (hb : ∀ i, tp i < 256) (hn : n ≤ 400) (hK : KE tp n K) (t : TM tp n h) : ∃ r h1, pm_ev d 206 [.ref 169, .int (nI k)] h = some (r, h1) ∧ h1 169 18 = 0 ∧ (∀ j, (j < 5 ∨ 28 < j) → h1 169 j = h 169 j) ∧ TMl tp n k h h1 r (lsf (tc tp n) (tv tp n) k 17 0 0) := by
  obtain ⟨d, rfl, -⟩ := dpos hd
  have B : HB tp n K k := ⟨hb, hn, hk, hK, fun j => (tks_bd hb j).2.2.2⟩
  obtain ⟨y, a1, a2, a3, a4, a5, a6, a7, a8⟩ := m_start (d := d) (k := k) (by omega) (by omega) hb hn t
  obtain ⟨q, z, b1, b2_, b3⟩ := m_law (d := d) (by omega) B a6 a7 a8
  have k2 : ¬ nI k = nI 2 := fun x => by have := (nI_eq (by omega) (by omega)).mp x; omega
  rw [e_X10_text, m_isIn (by omega), pm_bd_s, b2_t ⟨nI_pos (by omega), nI_le (by omega) (by omega)⟩, if_neg (by decide), a1, pm_bd_s, if_neg k2, b1, pm_bd_s]
  cases hR : lsf (tc tp n) (tv tp n) k 17 0 0 with
  | inl e =>
    rw [hR] at b3
    rw [if_pos b3.1]
    refine ⟨-1, _, rfl, by rw [pm_up_j (by omega), pm_up_j (by omega), pm_up_s], fun j hj => ?_, rfl, ?_, ?_, fun a x1 x2 x3 => ?_⟩
    · rw [pm_up_j (by omega), pm_up_j (by omega), pm_up_j (by omega), b2_.2 j (by omega) (by omega) (by omega) (by omega), a3 j (by omega) (by omega) (by omega) (by omega)]
    · rw [pm_up_j (by omega), pm_up_s]; exact b3.2.1
    · rw [pm_up_s]; exact b3.2.2
    · rw [pm_up_n x1, pm_up_n x1, pm_up_n x1, b2_.1 a x1 x2 x3, a2 a x1]
  | inr xs =>
    rw [hR] at b3
    obtain ⟨c1, c2, c3, c4, c5, c6, c7⟩ := b3
    rw [List.nil_append] at c2 c3 c4 c5 c6 c7
    obtain ⟨x, d1, d2, d3, d4, d5, d6⟩ := m_putsLaw (d := d) (k := k) (L := xs.length) (s := (lcat xs).length) (h := pm_up z 169 18 0) (by omega) hk c7 (by omega) (by rw [pm_up_j (by omega)]; exact c2) (by rw [pm_up_j (by omega)]; exact c4)
    rw [if_neg (by rw [c1]; decide), if_neg k2, d1, pm_bd_s]
    have xo : ∀ a, a ≠ 169 → a ≠ 170 → x a = z a := fun a x1 x2 => by rw [d2 a x2, pm_up_n x1]
    have xj : ∀ j, j ≠ 18 → x 169 j = z 169 j := fun j hj => by rw [d2 169 (by omega), pm_up_j hj]
    refine ⟨nI xs.length, x, rfl, by rw [d2 169 (by omega), pm_up_s], fun j hj => ?_, rfl, ?_, ?_, fun a x1 x2 x3 x4 => ?_, fun i hi => ?_, d4, fun j hj => ?_⟩
    · rw [xj j (by omega), b2_.2 j (by omega) (by omega) (by omega) (by omega), a3 j (by omega) (by omega) (by omega) (by omega)]
    · rw [xj 25 (by omega), b2_.2 25 (by omega) (by omega) (by omega) (by omega)]; exact a4
    · rw [xj 27 (by omega), b2_.2 27 (by omega) (by omega) (by omega) (by omega)]; exact a5
    · rw [xo a x1 x2, b2_.1 a x1 x3 x4, a2 a x1]
    · rw [d3 i hi, pm_up_k (by omega), b2_.1 170 (by omega) (by omega) (by omega), a2 170 (by omega)]
    · have := mod_at (h := z) (h' := x) (k := k) (s := (lcat xs).length) (by omega) (fun j hj => by rw [d6 j hj, pm_up_n (by omega)]) xs.length (fun j hj => by have := d5 j hj; rw [pm_up_n (by omega)] at this; exact this) xs 0 0 c3 c5 (by omega) (by omega) j hj
      rw [Nat.zero_add] at this
      exact this
end
