/-! THE CLASS SEARCHES -/
theorem ob155 : ∀ j, j < 7 → (pm_ob 155).2.2.getD j 0 = 156 + j := by decide
theorem b_srch {i : Nat} (h1 : 0 ≤ i) (h2 : i ≤ 5) (d : Nat) (h : pm_Hp) (v1 v2 v3 v4 v5 : Int32) (u6 : Value) : pm_rn d kX4_search 82 [.ref 150, .int v1, .int v2, .int v3, .int v4, .int v5, u6] [.ref (156 + i)] h = pm_at v1 6 fun j1 => pm_bd (pm_ev d 154 [.int (h (156 + i) j1), .int v4] h) fun r1 y1 => if r1 = 0 then (pm_rn d kX4_search 51 [.ref 150, .int v1, .int v2, .int v3, .int (v4 + 1), .int v5, u6] [] y1) else (if v5 + v3 < y1 150 13 then (pm_bd (pm_ev d 64 [.ref 150, .int v1, .int v4] y1) fun r2 y2 => if r2 = (-1) then (pm_rn d kX4_search 51 [.ref 150, .int v1, .int v2, .int v3, .int (v4 + 1), .int v5, .int r2] [] y2) else (if v5 + r2 < y2 150 13 then (pm_at v1 6 fun j2 => pm_bd (pm_ev d 63 [.ref 150, .int (v1 + 1), .int v5] (pm_up y2 163 j2 v4)) fun _ y3 => pm_rn d kX4_search 51 [.ref 150, .int v1, .int v2, .int v3, .int (v4 + 1), .int v5, .int r2] [] y3) else (pm_rn d kX4_search 51 [.ref 150, .int v1, .int v2, .int v3, .int (v4 + 1), .int v5, .int r2] [] y2))) else (pm_rn d kX4_search 51 [.ref 150, .int v1, .int v2, .int v3, .int (v4 + 1), .int v5, u6] [] y1)) := by
  have : i = 0 ∨ i = 1 ∨ i = 2 ∨ i = 3 ∨ i = 4 ∨ i = 5 := by omega
  rcases this with rfl | rfl | rfl | rfl | rfl | rfl
  · exact b_X4_search_0_82 d h v1 v2 v3 v4 v5 u6
  · exact b_X4_search_1_82 d h v1 v2 v3 v4 v5 u6
  · exact b_X4_search_2_82 d h v1 v2 v3 v4 v5 u6
  · exact b_X4_search_3_82 d h v1 v2 v3 v4 v5 u6
  · exact b_X4_search_4_82 d h v1 v2 v3 v4 v5 u6
  · exact b_X4_search_5_82 d h v1 v2 v3 v4 v5 u6
theorem b_sts {i : Nat} (h2 : i ≤ 5) (d : Nat) (h : pm_Hp) (v1 : Int32) : pm_rn d kX4_startSearch 20 [.ref 150, .int v1] [.ref (156 + i), .ref 152] h = pm_bd (pm_ev d 155 [.ref 152, .ref (156 + i)] h) fun _ y1 => pm_rn d kX4_startSearch 2 [.ref 150, .int (v1 + 1)] [] y1 := by
  have : i = 0 ∨ i = 1 ∨ i = 2 ∨ i = 3 ∨ i = 4 ∨ i = 5 := by omega
  rcases this with rfl | rfl | rfl | rfl | rfl | rfl
  · exact b_X4_startSearch_0_20 d h v1
  · exact b_X4_startSearch_1_20 d h v1
  · exact b_X4_startSearch_2_20 d h v1
  · exact b_X4_startSearch_3_20 d h v1
  · exact b_X4_startSearch_4_20 d h v1
  · exact b_X4_startSearch_5_20 d h v1
theorem r_left {i d : Nat} (hd : 2 ≤ d) (h2 : i ≤ 5) (h : pm_Hp) : pm_ev d 155 [.ref 152, .ref (156 + i)] h = some (0, pm_cp h 152 (156 + i) 0 0 6) := by
  have : i = 0 ∨ i = 1 ∨ i = 2 ∨ i = 3 ∨ i = 4 ∨ i = 5 := by omega
  rcases this with rfl | rfl | rfl | rfl | rfl | rfl
  · exact r_152_156 hd h
  · exact r_152_157 hd h
  · exact r_152_158 hd h
  · exact r_152_159 hd h
  · exact r_152_160 hd h
  · exact r_152_161 hd h
theorem b_oth {i : Nat} (h2 : i ≤ 5) (d : Nat) (h : pm_Hp) (v1 v2 : Int32) : pm_rn d kX4_otherwise 17 [.ref 150, .int v1, .int v2] [.ref (156 + i)] h = pm_at v1 6 fun j1 => pm_at v1 6 fun j2 => pm_at v1 6 fun j3 => pm_rn d kX4_otherwise 6 [.ref 150, .int v1, .int (v2 + 1)] [] (pm_up h (156 + i) j3 ((h (156 + i) j1) &&& ((pm_shl 1 (h 151 j2)) ^^^ (-1)))) := by
  have : i = 0 ∨ i = 1 ∨ i = 2 ∨ i = 3 ∨ i = 4 ∨ i = 5 := by omega
  rcases this with rfl | rfl | rfl | rfl | rfl | rfl
  · exact b_X4_otherwise_0_17 d h v1 v2
  · exact b_X4_otherwise_1_17 d h v1 v2
  · exact b_X4_otherwise_2_17 d h v1 v2
  · exact b_X4_otherwise_3_17 d h v1 v2
  · exact b_X4_otherwise_4_17 d h v1 v2
  · exact b_X4_otherwise_5_17 d h v1 v2
theorem b_nrw {i : Nat} (h1 : 0 ≤ i) (h2 : i ≤ 5) (d : Nat) (h : pm_Hp) (v1 v2 v3 v4 : Int32) (u5 : Value) : pm_rn d kX4_narrow 22 [.ref 150, .int v1, .int v2, .int v3, .int v4, u5] [.ref (156 + i)] h = pm_at v4 6 fun j1 => pm_bd (pm_ev d 56 [.int v1, .int v2, .int v4] h) fun r1 y1 => pm_at r1 576 fun j2 => if (h (156 + i) j1) &&& (y1 154 j2) = 0 then (some ((-1), y1)) else (pm_at (v1 + 1) 7 fun j3 => pm_rn d kX4_narrow 55 [.ref 150, .int v1, .int v2, .int v3, .int v4, .int ((h (156 + i) j1) &&& (y1 154 j2))] [.ref ((pm_ob 155).2.2.getD j3 0)] y1) := by
  have : i = 0 ∨ i = 1 ∨ i = 2 ∨ i = 3 ∨ i = 4 ∨ i = 5 := by omega
  rcases this with rfl | rfl | rfl | rfl | rfl | rfl
  · exact b_X4_narrow_0_22 d h v1 v2 v3 v4 u5
  · exact b_X4_narrow_1_22 d h v1 v2 v3 v4 u5
  · exact b_X4_narrow_2_22 d h v1 v2 v3 v4 u5
  · exact b_X4_narrow_3_22 d h v1 v2 v3 v4 u5
  · exact b_X4_narrow_4_22 d h v1 v2 v3 v4 u5
  · exact b_X4_narrow_5_22 d h v1 v2 v3 v4 u5
theorem b_nrx {i : Nat} (h1 : 1 ≤ i) (h2 : i ≤ 6) (d : Nat) (h : pm_Hp) (v1 v2 v3 v4 v5 : Int32) : pm_rn d kX4_narrow 55 [.ref 150, .int v1, .int v2, .int v3, .int v4, .int v5] [.ref (156 + i)] h = pm_at v4 6 fun j1 => pm_bd (pm_ev d 65 [.ref 150, .int v4, .int v5] (pm_up h (156 + i) j1 v5)) fun r1 y1 => pm_rn d kX4_narrow 7 [.ref 150, .int v1, .int v2, .int (v3 + r1), .int (v4 + 1), .int v5] [] y1 := by
  have : i = 1 ∨ i = 2 ∨ i = 3 ∨ i = 4 ∨ i = 5 ∨ i = 6 := by omega
  rcases this with rfl | rfl | rfl | rfl | rfl | rfl
  · exact b_X4_narrow_1_55 d h v1 v2 v3 v4 v5
  · exact b_X4_narrow_2_55 d h v1 v2 v3 v4 v5
  · exact b_X4_narrow_3_55 d h v1 v2 v3 v4 v5
  · exact b_X4_narrow_4_55 d h v1 v2 v3 v4 v5
  · exact b_X4_narrow_5_55 d h v1 v2 v3 v4 v5
  · exact b_X4_narrow_6_55 d h v1 v2 v3 v4 v5
theorem sm_end {mm : Nat → Nat} {i n : Nat} : sm mm i (n + 1) = sm mm i n + mm (i + n) := by
  rw [sm_app n i 1]
  rfl
section
variable {T W : Nat} {cd ce : Nat → Nat → Prop} {co : Nat → Nat → Nat} {gt : Nat → Nat → Nat → Nat → Prop}
theorem PRw.to {h h' : pm_Hp} (R : PRw T W cd co gt h) (e5 : h' 150 5 = h 150 5) (e6 : h' 150 6 = h 150 6) (a : h' 152 = h 152) (b : h' 153 = h 153) (c : h' 154 = h 154) : PRw T W cd co gt h' := by
  unfold PRw
  rw [e5, e6, a, b, c]
  exact R
/-- what is left behind the wears below i -/
def LFR (T W : Nat) (ce : Nat → Nat → Prop) (gt : Nat → Nat → Nat → Nat → Prop) (i : Nat) (f : Nat → Nat) (h : pm_Hp) : Prop := ∀ j, i ≤ j → j < W → bs T (h (156 + i) j) (fun b => ce j b ∧ ∀ k, k < i → gt k (f k) j b)
theorem c_narrow {gp : Nat → Nat → Nat → Nat → Prop} {d i t : Nat} {f : Nat → Nat} {h : pm_Hp} (hd : 4 ≤ d) (hT : T ≤ 16) (hW : W ≤ 6) (hc : ∀ i t, co i t ≤ 100000) (he : ∀ i b, ce i b → cd i b) (hg : ∀ a j b, gp i a j b ↔ gt i a j b) (R : PRw T W cd co gt h) (hi : i < W) (ht : t < T) (ct : cd i t) (L : LFR T W ce gp i f h) : ∃ r h', pm_ev d 64 [.ref 150, .int (nI i), .int (nI t)] h = some (r, h') ∧ eqi [156 + (i + 1)] h h' ∧ ((r = -1 ∧ ∃ j, i < j ∧ j < W ∧ ∀ b, b < T → ce j b → ¬ ∀ k, k < i + 1 → gp k (sup f i t k) j b) ∨ ∃ mm : Nat → Nat, r = nI (sm mm (i + 1) (W - (i + 1))) ∧ (∀ j, i < j → j < W → mm j ≤ 100000 ∧ ∀ b, b < T → ce j b → (∀ k, k < i + 1 → gp k (sup f i t k) j b) → mm j ≤ co j b) ∧ LFR T W ce gp (i + 1) (sup f i t) h') := by
  obtain ⟨d, rfl, -⟩ := dpos hd
  rw [e_X4_narrow, nI_1]
  have Q : ∀ j b, (ce j b ∧ ∀ k, k < i + 1 → gp k (sup f i t k) j b) ↔ ((ce j b ∧ ∀ k, k < i → gp k (f k) j b) ∧ (cd j b ∧ gt i t j b)) := fun j b => by
    refine ⟨fun z => ⟨⟨z.1, fun k hk => ?_⟩, he j b z.1, ?_⟩, fun z => ⟨z.1.1, fun k hk => ?_⟩⟩
    · have := z.2 k (by omega); rw [sup_o (by omega)] at this; exact this
    · have := z.2 i (by omega); rw [sup_s] at this; exact (hg t j b).mp this
    · by_cases e : k = i
      · subst e; rw [sup_s]; exact (hg t j b).mpr z.2.2
      · rw [sup_o e]; exact z.1.2 k (by omega)
  have key : ∀ (m j : Nat) (g : pm_Hp) (u : Value), j + m = W → i < j → eqi [156 + (i + 1)] h g → (∀ x, i < x → x < j → (∃ b, b < T ∧ ce x b ∧ ∀ k, k < i + 1 → gp k (sup f i t k) x b) ∧ bs T (g (156 + (i + 1)) x) (fun b => ce x b ∧ ∀ k, k < i + 1 → gp k (sup f i t k) x b)) → ∃ r h', pm_rn d kX4_narrow 7 [.ref 150, .int (nI i), .int (nI t), .int (nI (sm (fun x => mnf (fun b => ce x b ∧ ∀ k, k < i + 1 → gp k (sup f i t k) x b) (co x) MAXI T) (i + 1) (j - (i + 1)))), .int (nI j), u] [] g = some (r, h') ∧ eqi [156 + (i + 1)] h h' ∧ ((r = -1 ∧ ∃ j, i < j ∧ j < W ∧ ∀ b, b < T → ce j b → ¬ ∀ k, k < i + 1 → gp k (sup f i t k) j b) ∨ ∃ mm : Nat → Nat, r = nI (sm mm (i + 1) (W - (i + 1))) ∧ (∀ j, i < j → j < W → mm j ≤ 100000 ∧ ∀ b, b < T → ce j b → (∀ k, k < i + 1 → gp k (sup f i t k) j b) → mm j ≤ co j b) ∧ LFR T W ce gp (i + 1) (sup f i t) h') := by
    intro m
    induction m with
    | zero =>
      intro j g u hj hij E D
      have e5 : g 150 5 = nI W := by rw [E 150 (by simp; omega)]; exact R.1
      have : j = W := by omega
      subst this
      rw [b_X4_narrow_7, e5, if_neg (nI_nlt (by omega) (by omega))]
      refine ⟨_, g, rfl, E, Or.inr ⟨_, rfl, fun x h1 h2 => ⟨?_, fun b hb c1 c2 => ?_⟩, fun x h1 h2 => (D x (by omega) h2).2⟩⟩
      · obtain ⟨b, hb, pb⟩ := (D x h1 h2).1
        exact mnf_ex (hc x) T ⟨b, hb, pb⟩
      · exact mnf_le (p := fun b => ce x b ∧ ∀ k, k < i + 1 → gp k (sup f i t k) x b) T b hb ⟨c1, c2⟩
    | succ m ih =>
      intro j g u hj hij E D
      have ne : ∀ a, a ≠ 156 + (i + 1) → g a = h a := fun a ha => E a (by simp; omega)
      have e5 : g 150 5 = nI W := by rw [ne 150 (by omega)]; exact R.1
      have Rg : PRw T W cd co gt g := R.to (by rw [ne 150 (by omega)]) (by rw [ne 150 (by omega)]) (ne 152 (by omega)) (ne 153 (by omega)) (ne 154 (by omega))
      have bx : bs T (g (156 + i) j &&& g 154 ((i * 16 + t) * 6 + j)) (fun b => ce j b ∧ ∀ k, k < i + 1 → gp k (sup f i t k) j b) := by
        rw [ne (156 + i) (by omega)]
        exact ((L j (by omega) (by omega)).and_ (Rg.2.2.2.2 i t j hij (by omega) ht ct)).cg (fun b _ => (Q j b).symm)
      rw [b_X4_narrow_7, e5, if_pos (nI_lt (by omega) (by omega)), pm_at_c (by omega) (by omega), ob155 i (by omega), b_nrw (by omega) (by omega), pm_at_c (by omega) (by omega), (show pm_ev d 56 [.int (nI i), .int (nI t), .int (nI j)] g = some (nI ((i * 16 + t) * 6 + j), g) by
        obtain ⟨d, rfl, -⟩ := dpos (show 2 + 1 ≤ d by omega)
        rw [e_X4_besideAt, pk_mul, nI_add, pk_mul, nI_add]), pm_bd_s, pm_at_c (by omega) (by omega)]
      by_cases z : g (156 + i) j &&& g 154 ((i * 16 + t) * 6 + j) = 0
      · rw [if_pos z]
        refine ⟨-1, g, rfl, E, Or.inl ⟨rfl, j, hij, by omega, fun b hb c1 c2 => ?_⟩⟩
        exact (bx.eq0 hT).mp z b hb ⟨c1, c2⟩
      · rw [if_neg z, nI_1, pm_at_c (by omega) (by omega), ob155 (i + 1) (by omega), b_nrx (by omega) (by omega), pm_at_c (by omega) (by omega)]
        have ex : ∃ b, b < T ∧ ce j b ∧ ∀ k, k < i + 1 → gp k (sup f i t k) j b := by
          by_cases q : ∃ b, b < T ∧ ce j b ∧ ∀ k, k < i + 1 → gp k (sup f i t k) j b
          · exact q
          · exact absurd ((bx.eq0 hT).mpr (fun b hb p => q ⟨b, hb, p⟩)) z
        generalize hv : g (156 + i) j &&& g 154 ((i * 16 + t) * 6 + j) = v at bx z
        have Rg2 : PRw T W cd co gt (pm_up g (156 + (i + 1)) j v) := Rg.to (pm_up_k (by omega)) (pm_up_k (by omega)) (pm_up_n (by omega)) (pm_up_n (by omega)) (pm_up_n (by omega))
        rw [c_cheap (by omega) hT hW (fun i t => Nat.le_trans (hc i t) (by omega)) Rg2 (by omega) bx (fun b _ p => he j b p.1), pm_bd_s, nI_add, nI_1]
        have := ih (j + 1) (pm_up g (156 + (i + 1)) j v) (.int v) (by omega) (by omega) (fun a ha => by
          have : a ≠ 156 + (i + 1) := by simp at ha; omega
          rw [pm_up_n this]; exact ne a this) (fun x h1 h2 => by
          by_cases e : x = j
          · subst e
            rw [pm_up_s]
            exact ⟨ex, bx⟩
          · rw [pm_up_j e]
            exact D x h1 (by omega))
        rw [show j + 1 - (i + 1) = (j - (i + 1)) + 1 by omega, sm_end, show i + 1 + (j - (i + 1)) = j by omega] at this
        exact this
  have := key (W - (i + 1)) (i + 1) h .null (by omega) (by omega) eqi.rf (fun x h1 h2 => by omega)
  rw [Nat.sub_self] at this
  exact this
end
