/-! WHAT A PLAN IS, by the state -/
def nv (v : Int32) : Nat := v.toNatClampNeg
theorem nv_n {j : Nat} (h : j < 2 ^ 31) : nv (nI j) = j := nI_clamp h
theorem nv_nb {v : Int32} {k : Nat} (hk : k < 2 ^ 31) (h : nb v k) : nI (nv v) = v ∧ nv v ≤ k := by
  obtain ⟨j, hj, rfl⟩ := h
  rw [nv_n (by omega)]
  exact ⟨rfl, hj⟩
def wsc (h : pm_Hp) (i : Nat) : Nat := nv (ww (h 170) i 0)
def wac (h : pm_Hp) (i : Nat) : Nat := nv (ww (h 170) i 1)
def wkd (h : pm_Hp) (i : Nat) : Nat := nv (ww (h 170) i 2)
def mnu (h : pm_Hp) (s : Nat) : Nat := nv (h 170 (366 + s))
def cdw (h : pm_Hp) (i t : Nat) : Prop := (wq h t 0 = nI (wkd h i) ∨ (wq h t 0 < nI 3 ∧ nI (wkd h i) < wq h t 0)) ∧ wq h t 3 < nI 5 ∧ ¬ aw h t ∧ ¬ fit (h 170) t (wac h i) = 0
def cow (n : Nat) (Ls : Nat → Ln) (h : pm_Hp) (i t : Nat) : Nat := min (nv (prc (h 170) n Ls t (too (h 170) t (some (wac h i))))) 100000
def chv (n : Nat) (Ls : Nat → Ln) (h : pm_Hp) (t k : Nat) : Nat := nv (tlw (fct (h 170) t 0 0 0 (nI k) (wq h t 3)) Ls 4 (nI 3) (nI 999) 0 n)
def gtw (n : Nat) (Ls : Nat → Ln) (h : pm_Hp) (i a j b : Nat) : Prop := if wsc h i = wsc h j then a ≠ b else if wsc h i + 1 = wsc h j then (if wac h i = wac h j then (a = b ∨ chv n Ls h a (nv (wq h b 0)) ≤ mnu h (wsc h i)) else (a ≠ b ∨ 2 * chv n Ls h a (nv (wq h a 0)) ≤ mnu h (wsc h i))) else True
theorem cow_le {n : Nat} {Ls : Nat → Ln} {h : pm_Hp} (i t : Nat) : cow n Ls h i t ≤ 1000000 := Nat.le_trans (Nat.min_le_right _ _) (by omega)
theorem cow_lh {n : Nat} {Ls : Nat → Ln} {h : pm_Hp} (i t : Nat) : cow n Ls h i t ≤ 100000 := Nat.min_le_right _ _
theorem chv_eq {n : Nat} {Ls : Nat → Ln} {h : pm_Hp} {t k : Nat} : nI (chv n Ls h t k) = tlw (fct (h 170) t 0 0 0 (nI k) (wq h t 3)) Ls 4 (nI 3) (nI 999) 0 n ∧ chv n Ls h t k ≤ 999 := nv_nb (by omega) (tlw_nb (by omega) ⟨3, by omega, rfl⟩ n 0)
theorem prc_nb {n t a A : Nat} {Ls : Nat → Ln} {h : pm_Hp} (W : WT h t) (Q : AC A h) (ha : a < A) : nb (prc (h 170) n Ls t (too (h 170) t (some a))) 49995 := by
  have p1 : ∀ m, m < 5 → nb (pr1 (h 170) n Ls t (too (h 170) t (some a)) m) 9999 := fun m hm => by
    unfold pr1
    refine tlw_nb (by omega) ?_ n 0
    obtain ⟨x, hx, ex⟩ := (Q.2.2.2 a m ha hm).2
    obtain ⟨y, hy, ey⟩ := (W.2.2.2.2.2.2 m hm).2.1
    have ex : too (h 170) t (some a) m = nI x := ex
    have ey : h 170 (4 + 20 * t + (15 + m)) = nI y := ey
    rw [ex, ey, ds_nI (by omega) (by omega)]
    by_cases g : x < y
    · rw [if_pos g]; exact ⟨_, by omega, rfl⟩
    · rw [if_neg g]; exact ⟨_, by omega, rfl⟩
  have st : ∀ (i B : Nat) (v : Int32), i < 5 → nb v B → nb (prg (h 170) n Ls t (too (h 170) t (some a)) i v) (B + 9999) := fun i B v hi hv => by
    obtain ⟨j, hj, e⟩ := hv
    have up : nb v (B + 9999) := ⟨j, by omega, e⟩
    unfold prg
    by_cases g1 : h 170 (4 + 20 * t + (15 + i)) = 0
    · rw [if_pos g1]; exact up
    rw [if_neg g1]
    by_cases g2 : too (h 170) t (some a) i = 0
    · rw [if_pos g2]; exact up
    rw [if_neg g2]
    by_cases g3 : h 170 (4 + 20 * t + (15 + i)) = too (h 170) t (some a) i
    · rw [if_pos g3]; exact up
    rw [if_neg g3]
    obtain ⟨x, hx, ex⟩ := p1 i hi
    rw [e, ex, nI_add]
    exact ⟨_, by omega, rfl⟩
  have z := st 4 39996 _ (by omega) (st 3 29997 _ (by omega) (st 2 19998 _ (by omega) (st 1 9999 _ (by omega) (st 0 0 0 (by omega) ⟨0, by omega, rfl⟩))))
  exact z
theorem cow_eq {n t i A : Nat} {Ls : Nat → Ln} {h : pm_Hp} (W : WT h t) (Q : AC A h) (ha : wac h i < A) : nI (cow n Ls h i t) = prc (h 170) n Ls t (too (h 170) t (some (wac h i))) := by
  obtain ⟨e1, e2⟩ := nv_nb (by omega) (prc_nb (n := n) (Ls := Ls) W Q ha)
  unfold cow
  rw [Nat.min_eq_left (by omega)]
  exact e1
theorem SN.wr {A N M i : Nat} {h : pm_Hp} (S : SN A N M h) (hA : A ≤ 6) (hi : i < M) : wsc h i < N ∧ wac h i < A ∧ wkd h i ≤ 4 ∧ (ww (h 170) i 0 = nI (wsc h i) ∧ ww (h 170) i 1 = nI (wac h i) ∧ ww (h 170) i 2 = nI (wkd h i)) ∧ h 34 i = nI (wsc h i) ∧ h 35 i = nI (wac h i) ∧ h 36 i = nI (wkd h i) := by
  obtain ⟨s1, s2, s3, s4, s5, s6, s7, s8⟩ := S
  obtain ⟨⟨x1, x2, x3⟩, s, a, k, y1, y2, y3, z1, z2, z3⟩ := s8 i hi
  have e1 : wsc h i = s := by unfold wsc; rw [z1, nv_n (by omega)]
  have e2 : wac h i = a := by unfold wac; rw [z2, nv_n (by omega)]
  have e3 : wkd h i = k := by unfold wkd; rw [z3, nv_n (by omega)]
  rw [e1, e2, e3]
  exact ⟨y1, y2, y3, ⟨z1, z2, z3⟩, x1.trans z1, x2.trans z2, x3.trans z3⟩
theorem SN.mn {A N M s : Nat} {h : pm_Hp} (S : SN A N M h) (hs : s < N) : h 33 s = nI (mnu h s) ∧ h 170 (366 + s) = nI (mnu h s) ∧ mnu h s ≤ 99 := by
  obtain ⟨x1, x2⟩ := S.2.2.2.2.2.2.1 s hs
  obtain ⟨y1, y2⟩ := nv_nb (by omega) x2
  have y1 : nI (mnu h s) = h 170 (366 + s) := y1
  exact ⟨x1.trans y1.symm, y1.symm, y2⟩
/-- what the planner changes -/
def PFr (h h' : pm_Hp) : Prop := ∀ k, k ≠ 24 → k ≠ 31 → k ≠ 37 → (k < 150 ∨ (164 < k ∧ k ≠ 185)) → h' k = h k
theorem PFr.rf {h : pm_Hp} : PFr h h := fun _ _ _ _ _ => rfl
theorem PFr.tr {h h' h'' : pm_Hp} (a : PFr h h') (b : PFr h' h'') : PFr h h'' := fun k x y z w => (b k x y z w).trans (a k x y z w)
theorem PFr.up {h h' : pm_Hp} {a j : Nat} {v : Int32} (p : PFr h h') (ha : 150 ≤ a ∧ a ≤ 164) : PFr h (pm_up h' a j v) := fun k x y z w => by rw [pm_up_n (by omega)]; exact p k x y z w
theorem PFr.law {h h' : pm_Hp} {L : List Nat} (hL : ∀ x, x ∈ L → x = 24 ∨ x = 31 ∨ x = 37) (e : eqi L h h') : PFr h h' := fun k x y z _ => e k (fun q => by rcases hL k q with r | r | r <;> omega)
theorem FS.pf {T R A n0 n1 q N M : Nat} {L0 L1 : Nat → Ln} {h h' : pm_Hp} (e : PFr h h') (F : FS T R A n0 n1 q N M L0 L1 h) : FS T R A n0 n1 q N M L0 L1 h' := F.ag (fun k j hc => by
  have hk := cel_k hc
  have n1 : k ≠ 24 := fun z => by subst z; exact absurd hc (by simp [cel])
  have n2 : k ≠ 31 := fun z => by subst z; exact absurd hc (by simp [cel])
  rw [e k n1 n2 (by omega) (by omega)])
theorem cdw_eq {h h' : pm_Hp} (e : h' 170 = h 170) (i t : Nat) : cdw h' i t = cdw h i t := by
  unfold cdw wac wkd wq
  rw [aw_eq e, e]
theorem cow_cg {n : Nat} {Ls : Nat → Ln} {h h' : pm_Hp} (e : h' 170 = h 170) (i t : Nat) : cow n Ls h' i t = cow n Ls h i t := by
  unfold cow wac
  rw [e]
theorem gtw_eq {n : Nat} {Ls : Nat → Ln} {h h' : pm_Hp} (e : h' 170 = h 170) (i a j b : Nat) : gtw n Ls h' i a j b = gtw n Ls h i a j b := by
  unfold gtw chv wac wsc mnu wq
  rw [e]
/-- the class finds the candidates of a wear -/
theorem c_cand {T R A n0 n1 q N M d i : Nat} {L0 L1 : Nat → Ln} {h : pm_Hp} (hd : 6 ≤ d) (F : FS T R A n0 n1 q N M L0 L1 h) (hi : i < M) (e6 : h 150 6 = nI T) : ∃ h', pm_ev d 55 [.ref 150, .ref 1, .int (nI i)] h = some (0, h') ∧ PFr h h' ∧ (∀ a, 150 ≤ a → a ≤ 164 → a ≠ 152 → a ≠ 153 → h' a = h a) ∧ (∀ j, j ≠ i → h' 152 j = h 152 j) ∧ (∀ j, (j < i * 16 ∨ i * 16 + 16 ≤ j) → h' 153 j = h 153 j) ∧ bs T (h' 152 i) (cdw h i) ∧ ∀ t, t < T → cdw h i t → h' 153 (i * 16 + t) = nI (cow n0 L0 h i t) := by
  obtain ⟨d, rfl, -⟩ := dpos hd
  have hA := F.2.1.1
  have hT := F.1.1.1
  have hM := F.2.2.2.2.1.2.1
  obtain ⟨w1, w2, w3, w4, w5, w6, w7⟩ := F.2.2.2.2.1.wr hA hi
  rw [e_X4_findCandidates, pm_at_c (by omega) (by omega), pm_at_c (by omega) (by omega), w6]
  have key : ∀ (m t : Nat) (g : pm_Hp), t + m = T → PFr h g → (∀ a, 150 ≤ a → a ≤ 164 → a ≠ 152 → a ≠ 153 → g a = h a) → (∀ j, j ≠ i → g 152 j = h 152 j) → (∀ j, (j < i * 16 ∨ i * 16 + 16 ≤ j) → g 153 j = h 153 j) → bs T (g 152 i) (fun b => cdw h i b ∧ b < t) → (∀ x, x < t → cdw h i x → g 153 (i * 16 + x) = nI (cow n0 L0 h i x)) → ∃ h', pm_rn d kX4_findCandidates 20 [.ref 150, .ref 1, .int (nI i), .int (nI (wac h i)), .int (nI t)] [] g = some (0, h') ∧ PFr h h' ∧ (∀ a, 150 ≤ a → a ≤ 164 → a ≠ 152 → a ≠ 153 → h' a = h a) ∧ (∀ j, j ≠ i → h' 152 j = h 152 j) ∧ (∀ j, (j < i * 16 ∨ i * 16 + 16 ≤ j) → h' 153 j = h 153 j) ∧ bs T (h' 152 i) (cdw h i) ∧ ∀ t, t < T → cdw h i t → h' 153 (i * 16 + t) = nI (cow n0 L0 h i t) := by
    intro m
    induction m with
    | zero =>
      intro t g ht G1 G2 G3 G4 G5 G6
      have e6' : g 150 6 = nI T := by rw [G2 150 (by omega) (by omega) (by omega) (by omega)]; exact e6
      rw [b_X4_findCandidates_20, e6', if_neg (nI_nlt (by omega) (by omega))]
      exact ⟨g, rfl, G1, G2, G3, G4, G5.cg (fun b hb => ⟨fun z => z.1, fun z => ⟨z, by omega⟩⟩), fun x hx => G6 x (by omega)⟩
    | succ m ih =>
      intro t g ht G1 G2 G3 G4 G5 G6
      have e6' : g 150 6 = nI T := by rw [G2 150 (by omega) (by omega) (by omega) (by omega)]; exact e6
      have e170 : g 170 = h 170 := G1 170 (by omega) (by omega) (by omega) (by omega)
      have Fg := F.pf G1
      have tT : t < T := by omega
      have c36 : g 36 i = nI (wkd h i) := by rw [G1 36 (by omega) (by omega) (by omega) (by omega)]; exact w7
      have g0 : wq g t 0 = wq h t 0 := by show g 170 _ = h 170 _; rw [e170]
      have g3 : g 4 t = wq h t 3 := by rw [G1 4 (by omega) (by omega) (by omega) (by omega)]; exact F.1.1.2.2.2.2.2.2.1 t 3 tT (by omega) (by omega)
      have no : ¬ cdw h i t → ∃ h', pm_rn d kX4_findCandidates 20 [.ref 150, .ref 1, .int (nI i), .int (nI (wac h i)), .int (nI (t + 1))] [] g = some (0, h') ∧ PFr h h' ∧ (∀ a, 150 ≤ a → a ≤ 164 → a ≠ 152 → a ≠ 153 → h' a = h a) ∧ (∀ j, j ≠ i → h' 152 j = h 152 j) ∧ (∀ j, (j < i * 16 ∨ i * 16 + 16 ≤ j) → h' 153 j = h 153 j) ∧ bs T (h' 152 i) (cdw h i) ∧ ∀ t, t < T → cdw h i t → h' 153 (i * 16 + t) = nI (cow n0 L0 h i t) := fun nc => by
        have H5 : bs T (g 152 i) (fun b => cdw h i b ∧ b < t + 1) := by
          refine G5.cg (fun b hb => ⟨fun z => ⟨z.1, by omega⟩, fun z => ?_⟩)
          by_cases e : b = t
          · exact absurd z.1 (by rw [e]; exact nc)
          · exact ⟨z.1, by omega⟩
        have H6 : ∀ x, x < t + 1 → cdw h i x → g 153 (i * 16 + x) = nI (cow n0 L0 h i x) := fun x hx cx => by
          by_cases e : x = t
          · exact absurd cx (by rw [e]; exact nc)
          · exact G6 x (by omega) cx
        exact ih (t + 1) g (by omega) G1 G2 G3 G4 H5 H6
      rw [b_X4_findCandidates_20, e6', if_pos (nI_lt (by omega) (by omega)), pm_at_c (by omega) (by omega), c36, c_isOfKind (by omega) Fg.1.1 (Fg.1.2.1 t tT) tT (by omega), pm_bd_s, nI_1]
      by_cases k1 : wq h t 0 = nI (wkd h i) ∨ (wq h t 0 < nI 3 ∧ nI (wkd h i) < wq h t 0)
      · rw [b2_t (by rw [g0]; exact k1), if_neg (by decide), pm_at_c (by omega) (by omega), g3]
        by_cases k2 : wq h t 3 < nI 5
        · rw [if_pos k2, c_isAway (by omega) Fg.1.1 tT, pm_bd_s]
          by_cases k3 : aw h t
          · rw [b2_t (by rw [aw_eq e170]; exact k3), if_neg (by decide)]
            exact no (fun z => z.2.2.1 k3)
          · rw [b2_f (by rw [aw_eq e170]; exact k3), if_pos rfl, c_fit (by omega) Fg.1.1 Fg.2.1 (Fg.1.2.1 t tT) tT w2, pm_bd_s, e170]
            by_cases k4 : fit (h 170) t (wac h i) = 0
            · rw [if_pos k4]
              exact no (fun z => z.2.2.2 k4)
            · have cc : cdw h i t := ⟨k1, k2, k3, k4⟩
              rw [if_neg k4, pm_at_c (by omega) (by omega), pm_at_c (by omega) (by omega)]
              have G1' : PFr h (pm_up g 152 i (g 152 i ||| pm_shl 1 (nI t))) := G1.up (by omega)
              obtain ⟨y, p1, p2⟩ := c_priceA (d := d) (by omega) (F.pf G1').st tT w2
              rw [p1, pm_bd_s, pk_mul, nI_add, pm_at_c (by omega) (by omega)]
              have py : ∀ a, a ≠ 24 → a ≠ 37 → y a = (pm_up g 152 i (g 152 i ||| pm_shl 1 (nI t))) a := fun a x1 x2 => p2 a (by simp; omega)
              have ep : prc ((pm_up g 152 i (g 152 i ||| pm_shl 1 (nI t))) 170) n0 L0 t (too ((pm_up g 152 i (g 152 i ||| pm_shl 1 (nI t))) 170) t (some (wac h i))) = nI (cow n0 L0 h i t) := by
                rw [pm_up_n (by omega), e170]
                exact (cow_eq (F.1.2.1 t tT) F.2.1 w2).symm
              rw [ep]
              refine ih (t + 1) _ (by omega) ((G1'.tr (PFr.law (by simp) p2)).up (by omega)) (fun a x1 x2 x3 x4 => by rw [pm_up_n x4, py a (by omega) (by omega), pm_up_n x3]; exact G2 a x1 x2 x3 x4) (fun j hj => by rw [pm_up_n (by omega), py 152 (by omega) (by omega), pm_up_j hj]; exact G3 j hj) (fun j hj => by rw [pm_up_j (by omega), py 153 (by omega) (by omega), pm_up_n (by omega)]; exact G4 j hj) ?_ (fun x hx cx => ?_)
              · rw [pm_up_n (by omega), py 152 (by omega) (by omega), pm_up_s]
                refine (G5.add hT tT).cg (fun b hb => ⟨fun z => ?_, fun z => ?_⟩)
                · rcases z with z | z
                  · exact ⟨z.1, by omega⟩
                  · rw [z]; exact ⟨cc, by omega⟩
                · by_cases e : b = t
                  · exact Or.inr e
                  · exact Or.inl ⟨z.1, by omega⟩
              · by_cases e : x = t
                · subst e; rw [pm_up_s]
                · rw [pm_up_j (by omega), py 153 (by omega) (by omega), pm_up_n (by omega)]; exact G6 x (by omega) cx
        · rw [if_neg k2]
          exact no (fun z => k2 z.2.1)
      · rw [b2_f (by rw [g0]; exact k1), if_pos rfl]
        exact no (fun z => k1 z.1)
  exact key T 0 (pm_up h 152 i 0) (by omega) (PFr.rf.up (by omega)) (fun a _ _ x _ => pm_up_n x) (fun j hj => pm_up_j hj) (fun j _ => by rw [pm_up_n (by omega)]) (by rw [pm_up_s]; exact bs.zero.cg (fun b _ => ⟨fun z => absurd z id, fun z => absurd z.2 (Nat.not_lt_zero b)⟩)) (fun x hx => absurd hx (Nat.not_lt_zero x))
