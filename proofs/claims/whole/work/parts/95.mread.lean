/-! THE MODEL READS a law -/
theorem mt_cs {r c : Nat} (hr : r < 2) : ((c < 3) ∧ mt r c = c) ∨ ((c < 200) ∧ 3 ≤ c ∧ mt r c = 100 + c) ∨ ((c = 205) ∧ mt r c = 3) ∨ ((c = 206) ∧ mt r c = 4) ∨ ((c = 207) ∧ mt r c = 5) ∨ ((c = 208) ∧ mt r c = 6) ∨ ((c = 203) ∧ mt r c = 48) ∨ ((209 ≤ c ∧ c ≤ 215) ∧ mt r c = c - 168) ∨ ((c = 216) ∧ mt r c = 49) ∨ ((c = 200 ∧ r = 0) ∧ mt r c = 20) ∨ ((c = 201 ∧ r = 0) ∧ mt r c = 21) ∨ ((c = 202 ∧ r = 1) ∧ mt r c = 22) ∨ ((c = 204 ∧ r = 1) ∧ mt r c = 24) ∨ ((¬ (c < 3) ∧ ¬ (c < 200) ∧ ¬ (c = 205) ∧ ¬ (c = 206) ∧ ¬ (c = 207) ∧ ¬ (c = 208) ∧ ¬ (c = 203) ∧ ¬ (209 ≤ c ∧ c ≤ 215) ∧ ¬ (c = 216) ∧ ¬ (c = 200 ∧ r = 0) ∧ ¬ (c = 201 ∧ r = 0) ∧ ¬ (c = 202 ∧ r = 1) ∧ ¬ (c = 204 ∧ r = 1)) ∧ mt r c = 1) := by
  have gr : ¬ r = 2 := by omega
  by_cases g0 : c < 3
  · exact Or.inl ⟨g0, by unfold mt; rw [if_pos g0]⟩
  by_cases g1 : c < 200
  · exact Or.inr (Or.inl ⟨g1, by omega, by unfold mt; rw [if_neg g0, if_pos g1]⟩)
  by_cases g3 : c = 205
  · exact Or.inr (Or.inr (Or.inl ⟨g3, by unfold mt; rw [if_neg g0, if_neg g1, if_neg gr, if_pos g3]⟩))
  by_cases g4 : c = 206
  · exact Or.inr (Or.inr (Or.inr (Or.inl ⟨g4, by unfold mt; rw [if_neg g0, if_neg g1, if_neg gr, if_neg g3, if_pos g4]⟩)))
  by_cases g5 : c = 207
  · exact Or.inr (Or.inr (Or.inr (Or.inr (Or.inl ⟨g5, by unfold mt; rw [if_neg g0, if_neg g1, if_neg gr, if_neg g3, if_neg g4, if_pos g5]⟩))))
  by_cases g6 : c = 208
  · exact Or.inr (Or.inr (Or.inr (Or.inr (Or.inr (Or.inl ⟨g6, by unfold mt; rw [if_neg g0, if_neg g1, if_neg gr, if_neg g3, if_neg g4, if_neg g5, if_pos g6]⟩)))))
  by_cases g7 : c = 203
  · exact Or.inr (Or.inr (Or.inr (Or.inr (Or.inr (Or.inr (Or.inl ⟨g7, by unfold mt; rw [if_neg g0, if_neg g1, if_neg gr, if_neg g3, if_neg g4, if_neg g5, if_neg g6, if_pos g7]⟩))))))
  by_cases g8 : 209 ≤ c ∧ c ≤ 215
  · exact Or.inr (Or.inr (Or.inr (Or.inr (Or.inr (Or.inr (Or.inr (Or.inl ⟨g8, by unfold mt; rw [if_neg g0, if_neg g1, if_neg gr, if_neg g3, if_neg g4, if_neg g5, if_neg g6, if_neg g7, if_pos g8]⟩)))))))
  by_cases g9 : c = 216
  · exact Or.inr (Or.inr (Or.inr (Or.inr (Or.inr (Or.inr (Or.inr (Or.inr (Or.inl ⟨g9, by unfold mt; rw [if_neg g0, if_neg g1, if_neg gr, if_neg g3, if_neg g4, if_neg g5, if_neg g6, if_neg g7, if_neg g8, if_pos g9]⟩))))))))
  by_cases g10 : c = 200 ∧ r = 0
  · exact Or.inr (Or.inr (Or.inr (Or.inr (Or.inr (Or.inr (Or.inr (Or.inr (Or.inr (Or.inl ⟨g10, by unfold mt; rw [if_neg g0, if_neg g1, if_neg gr, if_neg g3, if_neg g4, if_neg g5, if_neg g6, if_neg g7, if_neg g8, if_neg g9, if_pos g10]⟩)))))))))
  by_cases g11 : c = 201 ∧ r = 0
  · exact Or.inr (Or.inr (Or.inr (Or.inr (Or.inr (Or.inr (Or.inr (Or.inr (Or.inr (Or.inr (Or.inl ⟨g11, by unfold mt; rw [if_neg g0, if_neg g1, if_neg gr, if_neg g3, if_neg g4, if_neg g5, if_neg g6, if_neg g7, if_neg g8, if_neg g9, if_neg g10, if_pos g11]⟩))))))))))
  by_cases g12 : c = 202 ∧ r = 1
  · exact Or.inr (Or.inr (Or.inr (Or.inr (Or.inr (Or.inr (Or.inr (Or.inr (Or.inr (Or.inr (Or.inr (Or.inl ⟨g12, by unfold mt; rw [if_neg g0, if_neg g1, if_neg gr, if_neg g3, if_neg g4, if_neg g5, if_neg g6, if_neg g7, if_neg g8, if_neg g9, if_neg g10, if_neg g11, if_pos g12]⟩)))))))))))
  by_cases g13 : c = 204 ∧ r = 1
  · exact Or.inr (Or.inr (Or.inr (Or.inr (Or.inr (Or.inr (Or.inr (Or.inr (Or.inr (Or.inr (Or.inr (Or.inr (Or.inl ⟨g13, by unfold mt; rw [if_neg g0, if_neg g1, if_neg gr, if_neg g3, if_neg g4, if_neg g5, if_neg g6, if_neg g7, if_neg g8, if_neg g9, if_neg g10, if_neg g11, if_neg g12, if_pos g13]⟩))))))))))))
  exact Or.inr (Or.inr (Or.inr (Or.inr (Or.inr (Or.inr (Or.inr (Or.inr (Or.inr (Or.inr (Or.inr (Or.inr (Or.inr ⟨⟨g0, g1, g3, g4, g5, g6, g7, g8, g9, g10, g11, g12, g13⟩, by unfold mt; rw [if_neg g0, if_neg g1, if_neg gr, if_neg g3, if_neg g4, if_neg g5, if_neg g6, if_neg g7, if_neg g8, if_neg g9, if_neg g10, if_neg g11, if_neg g12, if_neg g13]⟩))))))))))))
theorem mt_lt {r c : Nat} (hr : r < 2) (hc : c < 300) : mt r c < 400 := by
  rcases mt_cs (c := c) hr with h | h | h | h | h | h | h | h | h | h | h | h | h | h <;> omega
theorem mt_sg {r c s : Nat} (hr : r < 2) (hs : 3 ≤ s) (hs2 : s < 200) : mt r c = 100 + s ↔ c = s := by
  rcases mt_cs (c := c) hr with h | h | h | h | h | h | h | h | h | h | h | h | h | h <;> omega
theorem mt_0 {r c : Nat} (hr : r < 2) : mt r c = 0 ↔ c = 0 := by
  rcases mt_cs (c := c) hr with h | h | h | h | h | h | h | h | h | h | h | h | h | h <;> omega
theorem mt_2 {r c : Nat} (hr : r < 2) : mt r c = 2 ↔ c = 2 := by
  rcases mt_cs (c := c) hr with h | h | h | h | h | h | h | h | h | h | h | h | h | h <;> omega
theorem mt_w {r c : Nat} (hr : r < 2) : (mt r c = 3 ↔ c = 205) ∧ (mt r c = 4 ↔ c = 206) ∧ (mt r c = 5 ↔ c = 207) ∧ (mt r c = 6 ↔ c = 208) := by
  rcases mt_cs (c := c) hr with h | h | h | h | h | h | h | h | h | h | h | h | h | h <;> omega
theorem mt_f {r c : Nat} (hr : r < 2) : (41 ≤ mt r c ∧ mt r c ≤ 49) ↔ ((209 ≤ c ∧ c ≤ 216) ∨ c = 203) := by
  rcases mt_cs (c := c) hr with h | h | h | h | h | h | h | h | h | h | h | h | h | h <;> omega
theorem mt_fv {r c : Nat} (hr : r < 2) (hf : 209 ≤ c ∧ c ≤ 216) : mt r c = 40 + fcd c := by
  unfold fcd
  by_cases g : c = 216
  · rw [if_pos g]
    rcases mt_cs (c := c) hr with h | h | h | h | h | h | h | h | h | h | h | h | h | h <;> omega
  · rw [if_neg g]
    rcases mt_cs (c := c) hr with h | h | h | h | h | h | h | h | h | h | h | h | h | h <;> omega
theorem mt_dv {r c : Nat} (hr : r < 2) (hf : c = 203) : mt r c = 48 := by
  rcases mt_cs (c := c) hr with h | h | h | h | h | h | h | h | h | h | h | h | h | h <;> omega
theorem mt_ln {r c : Nat} (hr : r < 2) : (20 ≤ mt r c ∧ mt r c ≤ 24) ↔ ((r = 0 ∧ (c = 200 ∨ c = 201)) ∨ (r = 1 ∧ (c = 202 ∨ c = 204))) := by
  rcases mt_cs (c := c) hr with h | h | h | h | h | h | h | h | h | h | h | h | h | h <;> omega
theorem mt_lv {r c : Nat} (hr : r < 2) (hf : (r = 0 ∧ (c = 200 ∨ c = 201)) ∨ (r = 1 ∧ (c = 202 ∨ c = 204))) : mt r c = c - 180 := by
  rcases mt_cs (c := c) hr with h | h | h | h | h | h | h | h | h | h | h | h | h | h <;> omega
theorem mt_48 {r c : Nat} (hr : r < 2) : mt r c = 48 ↔ c = 203 := by
  rcases mt_cs (c := c) hr with h | h | h | h | h | h | h | h | h | h | h | h | h | h <;> omega
def fseg (h : pm_Hp) : Nat → List Op → Prop
  | _, [] => True
  | p, o :: l => (h 174 (2 * p) = nI o.1 ∧ ((o.1 = 0 ∨ o.1 = 26) → h 174 (2 * p + 1) = o.2)) ∧ fseg h (p + 1) l
theorem fseg_app {h : pm_Hp} : ∀ (l r : List Op) (p : Nat), fseg h p l → fseg h (p + l.length) r → fseg h p (l ++ r) := by
  intro l
  induction l with
  | nil => intro r p _ b; exact b
  | cons o l ih =>
    intro r p a b
    refine ⟨a.1, ih r _ a.2 ?_⟩
    rw [show p + 1 + l.length = p + (o :: l).length by show _ = p + (l.length + 1); omega]
    exact b
theorem fseg_to {h h' : pm_Hp} : ∀ (l : List Op) (p : Nat), (∀ i, i < 2 * (p + l.length) → h' 174 i = h 174 i) → fseg h p l → fseg h' p l := by
  intro l
  induction l with
  | nil => intro p _ _; trivial
  | cons o l ih =>
    intro p e a
    have el : (o :: l).length = l.length + 1 := rfl
    exact ⟨by rw [e _ (by omega), e _ (by omega)]; exact a.1, ih _ (fun i hi => e i (by omega)) a.2⟩
def FR (h h' : pm_Hp) : Prop := (∀ k, k ≠ 169 → k ≠ 174 → h' k = h k) ∧ ∀ j, j ≠ 15 → (j < 19 ∨ 24 < j) → j ≠ 26 → h' 169 j = h 169 j
theorem FR.rf {h : pm_Hp} : FR h h := ⟨fun _ _ _ => rfl, fun _ _ _ _ => rfl⟩
theorem FR.tr {h h' h'' : pm_Hp} (a : FR h h') (b : FR h' h'') : FR h h'' := ⟨fun k x y => (b.1 k x y).trans (a.1 k x y), fun j x y z => (b.2 j x y z).trans (a.2 j x y z)⟩
theorem FN.fr {h h' : pm_Hp} (a : FN h h') : FR h h' := ⟨fun k x _ => a.1 k x, fun j _ y _ => a.2 j (by omega)⟩
theorem FR.up {h h' : pm_Hp} {j : Nat} {v : Int32} (a : FR h h') (hj : j = 15 ∨ (19 ≤ j ∧ j ≤ 24) ∨ j = 26) : FR h (pm_up h' 169 j v) := ⟨fun k x y => by rw [pm_up_n x]; exact a.1 k x y, fun i x y z => by rw [pm_up_j (by omega)]; exact a.2 i x y z⟩
theorem FR.st {h h' : pm_Hp} {j : Nat} {v : Int32} (a : FR h h') : FR h (pm_up h' 174 j v) := ⟨fun k x y => by rw [pm_up_n y]; exact a.1 k x y, fun i x y z => by rw [pm_up_k (by omega)]; exact a.2 i x y z⟩
section
variable {tp : Nat → Nat} {n K r : Nat}
/-- the reading's givens -/
def HB (tp : Nat → Nat) (n K r : Nat) : Prop := (∀ i, tp i < 256) ∧ n ≤ 400 ∧ r < 2 ∧ KE tp n K ∧ ∀ k, (tks tp n k).2.2.2 ≤ n
def MS (tp : Nat → Nat) (n r k : Nat) (acc : List Op) (o : Nat) (h : pm_Hp) : Prop := TM tp n h ∧ h 169 12 = nI r ∧ MA r (tks tp n k) h ∧ h 169 15 = nI acc.length ∧ fseg h 0 acc ∧ h 169 26 = nI o
def OM (tp : Nat → Nat) (n r : Nat) (acc : List Op) (o : Nat) (h' : pm_Hp) (q : Int32) (R : Rz) : Prop := match R with
  | .inl e => q = 0 ∧ h' 169 23 = nI e.1 ∧ h' 169 24 = nI (tl_ tp n e.2)
  | .inr p => q = 1 ∧ MS tp n r p.2 (acc ++ p.1) o h'
theorem OM.ap {acc l : List Op} {o : Nat} {h' : pm_Hp} {q : Int32} {R : Rz} (a : OM tp n r (acc ++ l) o h' q R) : OM tp n r acc o h' q (ap l R) := by
  cases R with
  | inl e => exact a
  | inr p => exact ⟨a.1, by have := a.2; rw [List.append_assoc] at this; exact this⟩
theorem m_nx {d k o : Nat} {acc : List Op} {h : pm_Hp} (hd : 7 ≤ d) (B : HB tp n K r) (S : MS tp n r k acc o h) : ∃ h', pm_ev d 186 [.ref 169] h = some (0, h') ∧ FR h h' ∧ MS tp n r (k + 1) acc o h' := by
  obtain ⟨b1, b2_, b3, b4, b5⟩ := B
  obtain ⟨s1, s2, s3, s4, s5, s6⟩ := S
  obtain ⟨h', a1, a2, a3⟩ := m_next hd b1 b2_ (by omega) (b5 k) s1 s3.2.2.1 s2
  exact ⟨h', a1, a2.fr, a2.tm s1, by rw [a2.2 12 (by omega)]; exact s2, a3, by rw [a2.2 15 (by omega)]; exact s4, fseg_to acc 0 (fun i _ => by rw [a2.1 174 (by omega)]) s5, by rw [a2.2 26 (by omega)]; exact s6⟩
theorem m_lay {d s : Nat} {h : pm_Hp} {a v : Int32} (hd : 1 ≤ d) (e : h 169 15 = nI s) (hs : s < 410) : pm_ev d 189 [.ref 169, .int a, .int v] h = some (0, pm_up (pm_up (pm_up h 174 (2 * s) a) 174 (2 * s + 1) v) 169 15 (nI (s + 1))) := by
  obtain ⟨d, rfl, -⟩ := dpos hd
  rw [e_X10_lay, e, pk_mul, nI_1, pm_at_c (by omega) (by omega), pm_at_c (by omega) (by omega), nI_1]
theorem MS.lay {k o q : Nat} {acc : List Op} {h : pm_Hp} {a v w : Int32} (S : MS tp n r k acc o h) (ha : a = nI q) (hv : (q = 0 ∨ q = 26) → v = w) : MS tp n r k (acc ++ [(q, w)]) o (pm_up (pm_up (pm_up h 174 (2 * acc.length) a) 174 (2 * acc.length + 1) v) 169 15 (nI (acc.length + 1))) := by
  obtain ⟨s1, s2, s3, s4, s5, s6⟩ := S
  have e : ∀ j, j ≠ 15 → pm_up (pm_up (pm_up h 174 (2 * acc.length) a) 174 (2 * acc.length + 1) v) 169 15 (nI (acc.length + 1)) 169 j = h 169 j := fun j hj => by rw [pm_up_j hj, pm_up_k (by omega), pm_up_k (by omega)]
  refine ⟨s1.to (e 18 (by omega)) (by rw [pm_up_n (by omega), pm_up_n (by omega), pm_up_n (by omega)]), (e 12 (by omega)).trans s2, ⟨(e 20 (by omega)).trans s3.1, (e 21 (by omega)).trans s3.2.1, (e 19 (by omega)).trans s3.2.2.1, fun z => (e 22 (by omega)).trans (s3.2.2.2 z)⟩, by rw [pm_up_s, List.length_append]; rfl, ?_, (e 26 (by omega)).trans s6⟩
  refine fseg_app acc _ 0 (fseg_to acc 0 (fun i hi => by rw [pm_up_k (by omega), pm_up_j (by omega), pm_up_j (by omega)]) s5) ⟨⟨?_, fun z => ?_⟩, trivial⟩
  · rw [Nat.zero_add, pm_up_k (by omega), pm_up_j (by omega), pm_up_s, ha]
  · rw [Nat.zero_add, pm_up_k (by omega), pm_up_s]; exact hv z
theorem FR.lay {h h' : pm_Hp} {i j : Nat} {u v w : Int32} (a : FR h h') : FR h (pm_up (pm_up (pm_up h' 174 i u) 174 j v) 169 15 w) := (a.st.st).up (by omega)
theorem m_bad {d e k o : Nat} {acc : List Op} {h : pm_Hp} (hd : 1 ≤ d) (S : MS tp n r k acc o h) : ∃ h', pm_ev d 187 [.ref 169, .int (nI e)] h = some (0, h') ∧ FR h h' ∧ ∀ (a : List Op) (o' : Nat), OM tp n r a o' h' 0 (.inl (e, k)) := by
  obtain ⟨d, rfl, -⟩ := dpos hd
  exact ⟨_, e_X10_bad d h _, (FR.rf.up (by omega)).up (by omega), fun a o' => ⟨rfl, by rw [pm_up_j (by omega), pm_up_s], by rw [pm_up_s]; exact S.2.2.1.2.1⟩⟩
theorem m_isIn3 {d a b c : Nat} {h : pm_Hp} (hd : 1 ≤ d) (ha : a < 1000) (hb : b < 1000) (hc : c < 1000) : pm_ev d 157 [.int (nI a), .int (nI b), .int (nI c)] h = some (b2 (b ≤ a ∧ a ≤ c), h) := by
  rw [m_isIn hd]
  by_cases g : b ≤ a ∧ a ≤ c
  · rw [b2_t g, b2_t ⟨nI_nlt g.1 (by omega), nI_le g.2 (by omega)⟩]
  · rw [b2_f g, b2_f (fun z => g ⟨by
      by_cases q : b ≤ a
      · exact q
      · exact absurd (nI_lt (by omega) (by omega)) z.1, by
      by_cases q : a ≤ c
      · exact q
      · exact (nI_leI (by omega) (by omega)).mp z.2⟩)]
end
