/-! THE CLASS READS a law -/
section
variable {tp : Nat → Nat} {n K : Nat}
abbrev tc (tp : Nat → Nat) (n k : Nat) : Nat := (tks tp n k).1
abbrev tv (tp : Nat → Nat) (n k : Nat) : Nat := (tks tp n k).2.2.1
abbrev tl_ (tp : Nat → Nat) (n k : Nat) : Nat := (tks tp n k).2.1
def CS (tp : Nat → Nat) (n K k : Nat) (acc : List Op) (h : pm_Hp) : Prop := h 133 9 = nI (K + 1) ∧ TKR tp n (K + 1) h ∧ h 133 10 = nI k ∧ k ≤ K ∧ h 135 7 = nI (cln acc) ∧ cseg h 136 0 acc
/-- K is the end -/
def KE (tp : Nat → Nat) (n K : Nat) : Prop := K ≤ 400 ∧ tc tp n K = 0 ∧ (∀ k, tc tp n k ≠ 0 → k < K) ∧ (∀ k, tc tp n k < 300) ∧ (∀ k, tc tp n k = 2 → tv tp n k ≤ 9999) ∧ ∀ k, tv tp n k ≤ 9999 ∧ tl_ tp n k ≤ 400
def FC (h h' : pm_Hp) : Prop := (∀ a, a ≠ 133 → a ≠ 135 → a ≠ 136 → h' a = h a) ∧ (∀ j, j ≠ 2 → j ≠ 3 → j ≠ 10 → h' 133 j = h 133 j) ∧ ∀ j, j ≠ 7 → h' 135 j = h 135 j
theorem FC.rf {h : pm_Hp} : FC h h := ⟨fun _ _ _ _ => rfl, fun _ _ _ _ => rfl, fun _ _ => rfl⟩
theorem FC.tr {h h' h'' : pm_Hp} (a : FC h h') (b : FC h' h'') : FC h h'' := ⟨fun k x y z => (b.1 k x y z).trans (a.1 k x y z), fun j x y z => (b.2.1 j x y z).trans (a.2.1 j x y z), fun j x => (b.2.2 j x).trans (a.2.2 j x)⟩
theorem FC.at_ {h h' : pm_Hp} {v : Int32} (a : FC h h') : FC h (pm_up h' 133 10 v) := ⟨fun k x y z => by rw [pm_up_n x]; exact a.1 k x y z, fun j x y z => by rw [pm_up_j z]; exact a.2.1 j x y z, fun j x => by rw [pm_up_k (by omega)]; exact a.2.2 j x⟩
theorem FC.flt {h h' : pm_Hp} {v w : Int32} (a : FC h h') : FC h (pm_up (pm_up h' 133 2 v) 133 3 w) := ⟨fun k x y z => by rw [pm_up_n x, pm_up_n x]; exact a.1 k x y z, fun j x y z => by rw [pm_up_j y, pm_up_j x]; exact a.2.1 j x y z, fun j x => by rw [pm_up_k (by omega), pm_up_k (by omega)]; exact a.2.2 j x⟩
theorem FC.em {h h' : pm_Hp} {s : Nat} {v w : Int32} (a : FC h h') : FC h (pm_up (pm_up h' 136 s v) 135 7 w) := ⟨fun k x y z => by rw [pm_up_n y, pm_up_n z]; exact a.1 k x y z, fun j x y z => by rw [pm_up_k (by omega), pm_up_k (by omega)]; exact a.2.1 j x y z, fun j x => by rw [pm_up_j x, pm_up_k (by omega)]; exact a.2.2 j x⟩
theorem TKR.to {i : Nat} {h h' : pm_Hp} (e7 : h' 147 = h 147) (e8 : h' 148 = h 148) (e9 : h' 149 = h 149) (t : TKR tp n i h) : TKR tp n i h' := fun x hx => by rw [e7, e8, e9]; exact t x hx
theorem cseg_app {h : pm_Hp} {c : Nat} : ∀ (l r : List Op) (p : Nat), cseg h c p l → cseg h c (p + cln l) r → cseg h c p (l ++ r) := by
  intro l
  induction l with
  | nil => intro r p _ b; exact b
  | cons o l ih =>
    intro r p a b
    refine ⟨a.1, ih r _ a.2 ?_⟩
    rw [show p + eln o + cln l = p + cln (o :: l) by show _ = p + (eln o + cln l); omega]
    exact b
theorem cseg_up {h : pm_Hp} {c s : Nat} {v : Int32} : ∀ (l : List Op) (p : Nat), p + cln l ≤ s → cseg h c p l → cseg (pm_up h c s v) c p l := by
  intro l
  induction l with
  | nil => intro p _ _; trivial
  | cons o l ih =>
    intro p hs a
    have hs : p + (eln o + cln l) ≤ s := hs
    exact ⟨fun i hi => by rw [pm_up_j (by omega)]; exact a.1 i hi, ih _ (by omega) a.2⟩
theorem c_token {d k : Nat} {acc : List Op} {h : pm_Hp} (hd : 1 ≤ d) (hK : KE tp n K) (S : CS tp n K k acc h) : pm_ev d 84 [.ref 133] h = some (nI (tc tp n k), h) := by
  obtain ⟨d, rfl, -⟩ := dpos hd
  obtain ⟨s1, s2, s3, s4, -⟩ := S
  have := hK.1
  rw [e_X5_token, s1, s3, if_pos (nI_lt (by omega) (by omega)), pm_at_c (by omega) (by omega), (s2 k (by omega)).1]
theorem c_value {d k : Nat} {acc : List Op} {h : pm_Hp} (hd : 1 ≤ d) (hK : KE tp n K) (S : CS tp n K k acc h) : pm_ev d 85 [.ref 133] h = some (nI (tv tp n k), h) := by
  obtain ⟨d, rfl, -⟩ := dpos hd
  obtain ⟨s1, s2, s3, s4, -⟩ := S
  have := hK.1
  rw [e_X5_value, s1, s3, if_pos (nI_lt (by omega) (by omega)), pm_at_c (by omega) (by omega), (s2 k (by omega)).2.2]
theorem c_refuse {d k : Nat} {acc : List Op} {h : pm_Hp} (hd : 1 ≤ d) (hK : KE tp n K) (S : CS tp n K k acc h) (e : Int32) : pm_ev d 86 [.ref 133, .int e] h = some (0, pm_up (pm_up h 133 2 e) 133 3 (nI (tl_ tp n k))) := by
  obtain ⟨d, rfl, -⟩ := dpos hd
  obtain ⟨s1, s2, s3, s4, -⟩ := S
  have := hK.1
  rw [e_X5_refuse, s1, s3, if_pos (nI_lt (by omega) (by omega)), pm_at_c (by omega) (by omega), (s2 k (by omega)).2.1]
theorem CS.adv {k k' : Nat} {acc : List Op} {h : pm_Hp} (S : CS tp n K k acc h) (hk : k' ≤ K) : CS tp n K k' acc (pm_up h 133 10 (nI k')) := by
  obtain ⟨s1, s2, s3, s4, s5, s6⟩ := S
  exact ⟨by rw [pm_up_j (by omega)]; exact s1, s2.to (pm_up_n (by omega)) (pm_up_n (by omega)) (pm_up_n (by omega)), pm_up_s, hk, by rw [pm_up_k (by omega)]; exact s5, cseg_eq (pm_up_n (by omega)) _ _ s6⟩
theorem CS.em {k : Nat} {acc : List Op} {o : Op} {h : pm_Hp} (S : CS tp n K k acc h) (ho : o.1 ≠ 26) : CS tp n K k (acc ++ [o]) (pm_up (pm_up h 136 (cln acc) (enc o 0)) 135 7 (nI (cln acc + 1))) := by
  obtain ⟨s1, s2, s3, s4, s5, s6⟩ := S
  have el : eln o = 1 := if_neg ho
  refine ⟨by rw [pm_up_k (by omega), pm_up_k (by omega)]; exact s1, s2.to (by rw [pm_up_n (by omega), pm_up_n (by omega)]) (by rw [pm_up_n (by omega), pm_up_n (by omega)]) (by rw [pm_up_n (by omega), pm_up_n (by omega)]), by rw [pm_up_k (by omega), pm_up_k (by omega)]; exact s3, s4, ?_, ?_⟩
  · rw [pm_up_s, cln_app]
    show _ = nI (cln acc + (eln o + 0))
    rw [el]
  · refine cseg_eq (pm_up_n (by omega)) _ _ (cseg_app acc [o] 0 (cseg_up acc 0 (by omega) s6) ⟨fun i hi => ?_, trivial⟩)
    have : i = 0 := by omega
    subst this
    rw [Nat.zero_add, Nat.add_zero, pm_up_s]
theorem CS.em2 {k x : Nat} {acc : List Op} {h : pm_Hp} (S : CS tp n K k acc h) : CS tp n K k (acc ++ [(26, nI x)]) (pm_up (pm_up (pm_up (pm_up h 136 (cln acc) (nI x)) 135 7 (nI (cln acc + 1))) 136 (cln acc + 1) (-(nI 47))) 135 7 (nI (cln acc + 2))) := by
  obtain ⟨s1, s2, s3, s4, s5, s6⟩ := S
  refine ⟨by rw [pm_up_k (by omega), pm_up_k (by omega), pm_up_k (by omega), pm_up_k (by omega)]; exact s1, s2.to (by rw [pm_up_n (by omega), pm_up_n (by omega), pm_up_n (by omega), pm_up_n (by omega)]) (by rw [pm_up_n (by omega), pm_up_n (by omega), pm_up_n (by omega), pm_up_n (by omega)]) (by rw [pm_up_n (by omega), pm_up_n (by omega), pm_up_n (by omega), pm_up_n (by omega)]), by rw [pm_up_k (by omega), pm_up_k (by omega), pm_up_k (by omega), pm_up_k (by omega)]; exact s3, s4, by rw [pm_up_s, cln_app]; rfl, ?_⟩
  refine cseg_eq (pm_up_n (by omega)) _ _ (cseg_app acc _ 0 (cseg_up acc 0 (by omega) (cseg_eq (pm_up_n (by omega)) _ _ (cseg_up acc 0 (by omega) s6))) ⟨fun i hi => ?_, trivial⟩)
  have hi : i < 2 := hi
  have : i = 0 ∨ i = 1 := by omega
  rcases this with rfl | rfl
  · rw [Nat.zero_add, pm_up_j (by omega), pm_up_k (by omega), Nat.add_zero, pm_up_s]; rfl
  · rw [Nat.zero_add, pm_up_s]; rfl
theorem c_emit {d s : Nat} {h : pm_Hp} (hd : 1 ≤ d) (e : h 135 7 = nI s) (hs : s < 400) (x : Int32) : pm_ev d 47 [.ref 135, .int x] h = some (0, pm_up (pm_up h 136 s x) 135 7 (nI (s + 1))) := by
  obtain ⟨d, rfl, -⟩ := dpos hd
  rw [e_X3_emit, e, if_pos (nI_lt hs (by omega)), pm_at_c hs (by omega), nI_1]
theorem c_emitX {d s : Nat} {h : pm_Hp} (hd : 1 ≤ d) (e : h 135 7 = nI s) (hs : s ≤ 400) (x : Int32) : ∃ h' s', pm_ev d 47 [.ref 135, .int x] h = some (0, h') ∧ FC h h' ∧ s' ≤ 400 ∧ h' 135 7 = nI s' ∧ h' 133 = h 133 := by
  by_cases g : s < 400
  · exact ⟨_, s + 1, c_emit hd e g x, FC.rf.em, by omega, pm_up_s, by rw [pm_up_n (by omega), pm_up_n (by omega)]⟩
  · obtain ⟨d, rfl, -⟩ := dpos hd
    exact ⟨h, s, by rw [e_X3_emit, e, if_neg (nI_nlt (by omega) (by omega))], FC.rf, hs, e, rfl⟩
def OC (tp : Nat → Nat) (n K : Nat) (acc : List Op) (h h' : pm_Hp) (r : Int32) (R : Rz) : Prop := match R with
  | .inl e => r = 0 ∧ h' 133 2 = nI e.1 ∧ h' 133 3 = nI (tl_ tp n e.2) ∧ ∃ s, s ≤ 400 ∧ h' 135 7 = nI s
  | .inr q => r = 1 ∧ CS tp n K q.2 (acc ++ q.1) h' ∧ h' 133 2 = h 133 2 ∧ h' 133 3 = h 133 3
theorem OC.ap {acc l : List Op} {h0 h h' : pm_Hp} {r : Int32} {R : Rz} (e2 : h 133 2 = h0 133 2) (e3 : h 133 3 = h0 133 3) (a : OC tp n K (acc ++ l) h h' r R) : OC tp n K acc h0 h' r (ap l R) := by
  cases R with
  | inl e => exact a
  | inr q =>
    obtain ⟨a1, a2, a3, a4⟩ := a
    exact ⟨a1, by rw [List.append_assoc] at a2; exact a2, a3.trans e2, a4.trans e3⟩
theorem ap_ap {l r : List Op} {R : Rz} : ap l (ap r R) = ap (l ++ r) R := by
  cases R with
  | inl e => rfl
  | inr q => show Sum.inr (l ++ (r ++ q.1), q.2) = Sum.inr (l ++ r ++ q.1, q.2); rw [List.append_assoc]
theorem ap_nil {R : Rz} : ap [] R = R := by cases R <;> rfl
theorem OC.no {acc : List Op} {k e : Nat} {h : pm_Hp} (S : CS tp n K k acc h) (hl : cln acc ≤ 400) : OC tp n K acc h (pm_up (pm_up h 133 2 (nI e)) 133 3 (nI (tl_ tp n k))) 0 (.inl (e, k)) := ⟨rfl, by rw [pm_up_j (by omega), pm_up_s], pm_up_s, cln acc, hl, by rw [pm_up_k (by omega), pm_up_k (by omega)]; exact S.2.2.2.2.1⟩
theorem c_unit0 {d k : Nat} {acc : List Op} {h : pm_Hp} (hd : 2 ≤ d) (hK : KE tp n K) (S : CS tp n K k acc h) (hl : cln acc ≤ k) : ∃ r h', pm_ev d 93 [.ref 133, .int 0] h = some (r, h') ∧ FC h h' ∧ OC tp n K acc h h' r (pU (tc tp n) (tv tp n) k) := by
  obtain ⟨d, rfl, -⟩ := dpos hd
  have k4 := hK.1
  have c3 := hK.2.2.2.1 k
  have tk := c_token (d := d) (by omega) hK S
  have kk := S.2.2.2.1
  have s10 := S.2.2.1
  have s7 := S.2.2.2.2.1
  have done : ∀ o : Op, o.1 ≠ 26 → tc tp n k ≠ 0 → pU (tc tp n) (tv tp n) k = .inr ([o], k + 1) → ∃ r h', (some ((1 : Int32), pm_up (pm_up (pm_up h 136 (cln acc) (enc o 0)) 135 7 (nI (cln acc + 1))) 133 10 (nI (k + 1)))) = some (r, h') ∧ FC h h' ∧ OC tp n K acc h h' r (pU (tc tp n) (tv tp n) k) := fun o ho h0 hu => by
    have kK := hK.2.2.1 k h0
    rw [hu]
    exact ⟨1, _, rfl, FC.rf.em.at_, rfl, (S.em ho).adv (by omega), by rw [pm_up_j (by omega), pm_up_k (by omega), pm_up_k (by omega)], by rw [pm_up_j (by omega), pm_up_k (by omega), pm_up_k (by omega)]⟩
  rw [e_X5_readUnit, tk, pm_bd_s, nI_ite (by omega) (by omega)]
  by_cases g1 : tc tp n k = 2
  · have kK := hK.2.2.1 k (by omega)
    rw [if_pos g1, if_pos rfl, c_value (by omega) hK S, pm_bd_s, c_emit (by omega) s7 (by omega), pm_bd_s, pm_up_k (by omega), pm_up_k (by omega), s10, nI_1]
    exact done (0, nI (tv tp n k)) (by show (0 : Nat) ≠ 26; omega) (by omega) (by unfold pU; rw [if_pos g1])
  · rw [if_neg g1, if_pos rfl, ltn_ite (by omega) (by omega)]
    have hd' : ∀ (g3 : tc tp n k = 203), ∃ r h', (pm_bd (pm_ev d 47 [.ref 135, .int (-9)] h) fun _ y8 => some ((1 : Int32), (pm_up y8 133 10 ((y8 133 10) + 1)))) = some (r, h') ∧ FC h h' ∧ OC tp n K acc h h' r (pU (tc tp n) (tv tp n) k) := fun g3 => by
      have kK := hK.2.2.1 k (by omega)
      rw [c_emit (by omega) s7 (by omega), pm_bd_s, pm_up_k (by omega), pm_up_k (by omega), s10, nI_1]
      exact done (8, 0) (by show (8 : Nat) ≠ 26; omega) (by omega) (by unfold pU; rw [if_neg g1, if_neg (by omega), if_pos g3])
    have no : ¬ (209 ≤ tc tp n k ∧ tc tp n k ≤ 216) → ¬ tc tp n k = 203 → ∃ r h', (pm_bd (pm_ev d 86 [.ref 133, .int 1] h) fun r9 y9 => pm_bw r9 (some (r9, y9))) = some (r, h') ∧ FC h h' ∧ OC tp n K acc h h' r (pU (tc tp n) (tv tp n) k) := fun g2 g3 => by
      rw [c_refuse (by omega) hK S, pm_bd_s, pm_bw_0, show pU (tc tp n) (tv tp n) k = .inl (1, k) by unfold pU; rw [if_neg g1, if_neg g2, if_neg g3]]
      exact ⟨0, _, rfl, FC.rf.flt, OC.no S (by omega)⟩
    by_cases g2 : tc tp n k < 209
    · rw [if_pos g2, if_pos rfl, nI_ite (by omega) (by omega)]
      by_cases g3 : tc tp n k = 203
      · rw [if_pos g3]; exact hd' g3
      · rw [if_neg g3]; exact no (by omega) g3
    · rw [if_neg g2, len_ite (by omega) (by omega)]
      by_cases g4 : tc tp n k ≤ 216
      · have kK := hK.2.2.1 k (by omega)
        rw [if_pos g4, pk_sub (by omega), c_emit (by omega) s7 (by omega), pm_bd_s, pm_up_k (by omega), pm_up_k (by omega), s10, nI_1]
        have ef : (-1 : Int32) - nI (tc tp n k - 209) = enc (fcd (tc tp n k), 0) 0 := by
          unfold enc fcd cfi
          have : tc tp n k = 209 ∨ tc tp n k = 210 ∨ tc tp n k = 211 ∨ tc tp n k = 212 ∨ tc tp n k = 213 ∨ tc tp n k = 214 ∨ tc tp n k = 215 ∨ tc tp n k = 216 := by omega
          rcases this with e | e | e | e | e | e | e | e <;> rw [e] <;> rfl
        rw [ef]
        refine done (fcd (tc tp n k), 0) ?_ (by omega) (by unfold pU; rw [if_neg g1, if_pos ⟨by omega, g4⟩])
        show fcd (tc tp n k) ≠ 26
        unfold fcd
        by_cases g : tc tp n k = 216
        · rw [if_pos g]; omega
        · rw [if_neg g]; omega
      · rw [if_neg g4, if_pos rfl, nI_ite (by omega) (by omega), if_neg (by omega)]
        exact no (by omega) (by omega)
/-- a divisor -/
theorem c_unit1 {d k : Nat} {acc : List Op} {h : pm_Hp} (hd : 2 ≤ d) (hK : KE tp n K) (S : CS tp n K k acc h) (hl : cln acc ≤ k) : (tc tp n k = 2 → tv tp n k ≠ 0 → pm_ev d 93 [.ref 133, .int 1] h = some (1, pm_up (pm_up (pm_up h 136 (cln acc) (nI (tv tp n k))) 135 7 (nI (cln acc + 1))) 133 10 (nI (k + 1)))) ∧ (tc tp n k = 2 → tv tp n k = 0 → pm_ev d 93 [.ref 133, .int 1] h = some (0, pm_up (pm_up h 133 2 (nI 2)) 133 3 (nI (tl_ tp n k)))) ∧ (tc tp n k ≠ 2 → pm_ev d 93 [.ref 133, .int 1] h = some (0, pm_up (pm_up h 133 2 1) 133 3 (nI (tl_ tp n k)))) := by
  obtain ⟨d, rfl, -⟩ := dpos hd
  have k4 := hK.1
  have c3 := hK.2.2.2.1 k
  have v3 := (hK.2.2.2.2.2 k).1
  have tk := c_token (d := d) (by omega) hK S
  have s10 := S.2.2.1
  have s7 := S.2.2.2.2.1
  refine ⟨fun g1 g2 => ?_, fun g1 g2 => ?_, fun g1 => ?_⟩
  · have kK := hK.2.2.1 k (by omega)
    rw [e_X5_readUnit, tk, pm_bd_s, nI_ite (by omega) (by omega), if_pos g1, if_neg (by decide), c_value (by omega) hK S, pm_bd_s, if_neg (show ¬ nI (tv tp n k) = 0 from fun z => g2 ((nI_eq (b := 0) (by omega) (by omega)).mp z)), c_value (by omega) hK S, pm_bd_s, c_emit (by omega) s7 (by omega), pm_bd_s, pm_up_k (by omega), pm_up_k (by omega), s10, nI_1]
  · rw [e_X5_readUnit, tk, pm_bd_s, nI_ite (by omega) (by omega), if_pos g1, if_neg (by decide), c_value (by omega) hK S, pm_bd_s, if_pos (by rw [g2]; rfl), c_refuse (by omega) hK S, pm_bd_s, pm_bw_0]
  · rw [e_X5_readUnit, tk, pm_bd_s, nI_ite (by omega) (by omega), if_neg g1, if_neg (by decide), if_neg (by decide), c_refuse (by omega) hK S, pm_bd_s, pm_bw_0]
/-- a sign that waits -/
def fl (p : Nat) : List Op := if p = 0 then [] else if p = 43 then [(23, 0)] else if p = 45 then [(24, 0)] else [(32, 0)]
theorem c_pend {d k p : Nat} {acc : List Op} {h : pm_Hp} (hd : 2 ≤ d) (hp : p = 0 ∨ p = 43 ∨ p = 45 ∨ p = 206) (S : CS tp n K k acc h) (hl : cln acc < 400) : ∃ h', pm_ev d 90 [.ref 133, .int (nI p)] h = some (0, h') ∧ FC h h' ∧ CS tp n K k (acc ++ fl p) h' ∧ h' 133 2 = h 133 2 ∧ h' 133 3 = h 133 3 := by
  obtain ⟨d, rfl, -⟩ := dpos hd
  have s7 := S.2.2.2.2.1
  rcases hp with rfl | hp
  · exact ⟨h, by rw [e_X5_emitPending, if_pos nI_0], FC.rf, by show CS tp n K k (acc ++ []) h; rw [List.append_nil]; exact S, rfl, rfl⟩
  · have ne : ¬ nI p = 0 := fun z => by
      have := (nI_eq (b := 0) (by omega) (by omega)).mp z
      omega
    have key : ∀ o : Op, o.1 ≠ 26 → fl p = [o] → -(nI p) = enc o 0 → ∃ h', pm_ev (d + 1) 90 [.ref 133, .int (nI p)] h = some (0, h') ∧ FC h h' ∧ CS tp n K k (acc ++ fl p) h' ∧ h' 133 2 = h 133 2 ∧ h' 133 3 = h 133 3 := fun o ho e1 e2 => by
      rw [e1]
      refine ⟨_, by rw [e_X5_emitPending, if_neg ne, c_emit (by omega) s7 hl, pm_bd_s, e2], FC.rf.em, S.em ho, by rw [pm_up_k (by omega), pm_up_k (by omega)], by rw [pm_up_k (by omega), pm_up_k (by omega)]⟩
    rcases hp with rfl | rfl | rfl
    · exact key (23, 0) (by show (23 : Nat) ≠ 26; omega) rfl rfl
    · exact key (24, 0) (by show (24 : Nat) ≠ 26; omega) rfl rfl
    · exact key (32, 0) (by show (32 : Nat) ≠ 26; omega) rfl rfl
/-- what the loop of a sum reads, a sign waiting -/
def LQ (c v : Nat → Nat) (m m' p o k : Nat) (R : Rz) : Prop := (∃ e, PX c v m o k (.inl e) ∧ R = .inl e) ∨ ∃ l k1 S, PX c v m o k (.inr (l, k1)) ∧ PX c v m' o k1 S ∧ R = ap (l ++ fl p) S
theorem c_sumL {d o : Nat} (hd : 3 ≤ d) (hK : KE tp n K) : ∀ (m k p t : Nat) (acc : List Op) (h : pm_Hp) (u : Value), K - k ≤ m → CS tp n K k acc h → cln acc + (if p = 0 then 0 else 1) ≤ k → t ≤ k → (p = 0 ∨ p = 43 ∨ p = 45) → ∃ R r h', LQ (tc tp n) (tv tp n) 4 6 p o k R ∧ pm_rn d kX5_readSum 14 [.ref 133, .int (nI p), .int (nI t), u] [] h = some (r, h') ∧ FC h h' ∧ OC tp n K acc h h' r R := by
  have K4 := hK.1
  have fin : ∀ (k p : Nat) (acc : List Op) (h : pm_Hp), CS tp n K k acc h → cln acc < 400 → (p = 0 ∨ p = 43 ∨ p = 45) → tc tp n k ≠ 42 → tc tp n k ≠ 47 → tc tp n k ≠ 43 → tc tp n k ≠ 45 → ∃ R r h', LQ (tc tp n) (tv tp n) 4 6 p o k R ∧ (pm_bd (pm_ev d 90 [.ref 133, .int (nI p)] h) fun _ y82 => some ((1 : Int32), y82)) = some (r, h') ∧ FC h h' ∧ OC tp n K acc h h' r R := fun k p acc h S hl hp g1 g2 g3 g4 => by
    obtain ⟨h', a1, a2, a3, a4, a5⟩ := c_pend (d := d) (p := p) (by omega) (by omega) S hl
    refine ⟨.inr (fl p, k), 1, h', Or.inr ⟨[], k, .inr ([], k), PX.p4e g1 g2, PX.p6e g3 g4, by show _ = Sum.inr ([] ++ fl p ++ [], k); rw [List.append_nil, List.nil_append]⟩, by rw [a1, pm_bd_s], a2, rfl, a3, a4, a5⟩
  intro m
  induction m with
  | zero =>
    intro k p t acc h u hm S hl ht hp
    have kk := S.2.2.2.1
    have : k = K := by omega
    subst this
    have c0 := hK.2.1
    have hl2 : cln acc ≤ k := by
      by_cases g : p = 0
      · rw [if_pos g] at hl; omega
      · rw [if_neg g] at hl; omega
    rw [b_X5_readSum_14]
    by_cases gt : t < 400
    · rw [if_pos (nI_lt gt (by omega)), c_token (by omega) hK S, pm_bd_s, c0, if_neg (by decide), if_neg (by decide), if_neg (by decide), if_neg (by decide)]
      by_cases g4 : cln acc < 400
      · exact fin k p acc h S g4 hp (by omega) (by omega) (by omega) (by omega)
      · have p0 : p = 0 := by
          by_cases g : p = 0
          · exact g
          · rw [if_neg g] at hl; omega
        subst p0
        obtain ⟨d, rfl, -⟩ := dpos (show 2 + 1 ≤ d by omega)
        refine ⟨.inr ([], k), 1, h, Or.inr ⟨[], k, .inr ([], k), PX.p4e (by omega) (by omega), PX.p6e (by omega) (by omega), rfl⟩, by rw [e_X5_emitPending, if_pos nI_0, pm_bd_s], FC.rf, rfl, by show CS tp n k k (acc ++ []) h; rw [List.append_nil]; exact S, rfl, rfl⟩
    · rw [if_neg (nI_nlt (by omega) (by omega))]
      have p0 : p = 0 ∨ cln acc < 400 := by
        by_cases g : p = 0
        · exact Or.inl g
        · rw [if_neg g] at hl; exact Or.inr (by omega)
      rcases p0 with p0 | p0
      · subst p0
        obtain ⟨d, rfl, -⟩ := dpos (show 2 + 1 ≤ d by omega)
        refine ⟨.inr ([], k), 1, h, Or.inr ⟨[], k, .inr ([], k), PX.p4e (by omega) (by omega), PX.p6e (by omega) (by omega), rfl⟩, by rw [e_X5_emitPending, if_pos nI_0, pm_bd_s], FC.rf, rfl, by show CS tp n k k (acc ++ []) h; rw [List.append_nil]; exact S, rfl, rfl⟩
      · exact fin k p acc h S p0 hp (by omega) (by omega) (by omega) (by omega)
  | succ m ih =>
    intro k p t acc h u hm S hl ht hp
    have kk := S.2.2.2.1
    have hl2 : cln acc ≤ k := by
      by_cases g : p = 0
      · rw [if_pos g] at hl; omega
      · rw [if_neg g] at hl; omega
    by_cases kK : k < K
    · have s10 := S.2.2.1
      have A := S.adv (k' := k + 1) (by omega)
      have c3 := hK.2.2.2.1 k
      have FA : FC h (pm_up h 133 10 (nI (k + 1))) := FC.rf.at_
      have e23 : (pm_up h 133 10 (nI (k + 1))) 133 2 = h 133 2 ∧ (pm_up h 133 10 (nI (k + 1))) 133 3 = h 133 3 := ⟨pm_up_j (by omega), pm_up_j (by omega)⟩
      rw [b_X5_readSum_14, if_pos (nI_lt (by omega) (by omega)), c_token (by omega) hK S, pm_bd_s]
      by_cases g42 : tc tp n k = 42
      · rw [g42, if_neg (by decide), if_neg (by decide), if_pos rfl, if_neg (by decide), if_neg (by decide), if_neg (by decide), s10, nI_1, nI_1]
        obtain ⟨r, h1, a1, a2, a3⟩ := c_unit0 (d := d) (by omega) hK A (by omega)
        rw [a1, pm_bd_s]
        cases hu : pU (tc tp n) (tv tp n) (k + 1) with
        | inl e =>
          rw [hu] at a3
          have hr : r = 0 := a3.1
          have he : e = (1, k + 1) := by
            unfold pU at hu
            by_cases q1 : tc tp n (k + 1) = 2
            · rw [if_pos q1] at hu; cases hu
            · rw [if_neg q1] at hu
              by_cases q2 : 209 ≤ tc tp n (k + 1) ∧ tc tp n (k + 1) ≤ 216
              · rw [if_pos q2] at hu; cases hu
              · rw [if_neg q2] at hu
                by_cases q3 : tc tp n (k + 1) = 203
                · rw [if_pos q3] at hu; cases hu
                · rw [if_neg q3] at hu; cases hu; rfl
          rw [if_pos hr]
          exact ⟨.inl e, 0, h1, Or.inl ⟨e, by rw [he] at hu ⊢; exact PX.p4f g42 hu (by omega), rfl⟩, rfl, FA.tr a2, rfl, a3.2⟩
        | inr q =>
          rw [hu] at a3
          obtain ⟨hr, a4, a5, a6⟩ := a3
          obtain ⟨l, k1⟩ := q
          obtain ⟨u1, u2, u3, u4⟩ := pU_inv hK.2.2.2.2.1 hu
          subst u1
          have a4 : CS tp n K (k + 1 + 1) (acc ++ l) h1 := a4
          have kK2 := a4.2.2.2.1
          have s7 := a4.2.2.2.2.1
          have cl : cln (acc ++ l) = cln acc + 1 := by rw [cln_app, u4]
          rw [if_neg (by rw [hr]; decide), if_pos rfl, c_emit (by omega) s7 (by omega), pm_bd_s]
          have B := a4.em (o := (25, 0)) (by show (25 : Nat) ≠ 26; omega)
          have cl2 : cln (acc ++ l ++ [((25, 0) : Op)]) = cln acc + 2 := by rw [cln_app, cl]; rfl
          obtain ⟨R, r2, h2, b1, b2, b3, b4⟩ := ih (k + 1 + 1) p (t + 1) (acc ++ l ++ [(25, 0)]) _ (.int (nI 42)) (by omega) B (by rw [cl2]; omega) (by omega) hp
          refine ⟨ap (l ++ [(25, 0)]) R, r2, h2, ?_, b2, FA.tr (a2.tr (FC.rf.em.tr b3)), ?_⟩
          · rcases b1 with ⟨e, b1, rfl⟩ | ⟨l4, k4, S6, b1, b5, rfl⟩
            · exact Or.inl ⟨e, PX.p4s g42 hu b1, rfl⟩
            · refine Or.inr ⟨l ++ [(25, 0)] ++ l4, k4, S6, PX.p4s g42 hu b1, b5, ?_⟩
              rw [ap_ap, List.append_assoc, List.append_assoc, List.append_assoc]
          · rw [← ap_ap]
            refine OC.ap (h := h1) (a5.trans e23.1) (a6.trans e23.2) (OC.ap (h := pm_up (pm_up h1 136 (cln (acc ++ l)) (enc (25, 0) 0)) 135 7 (nI (cln (acc ++ l) + 1))) (by rw [pm_up_k (by omega), pm_up_k (by omega)]) (by rw [pm_up_k (by omega), pm_up_k (by omega)]) b4)
      · by_cases g47 : tc tp n k = 47
        · rw [g47, if_neg (by decide), if_neg (by decide), if_neg (by decide), if_pos rfl, if_neg (by decide), if_neg (by decide), if_pos rfl, s10, nI_1, nI_1]
          obtain ⟨x1, x2, x3⟩ := c_unit1 (d := d) (by omega) hK A (by omega)
          by_cases q1 : tc tp n (k + 1) = 2
          · by_cases q2 : tv tp n (k + 1) = 0
            · rw [x2 q1 q2, pm_bd_s, if_pos rfl]
              exact ⟨.inl (2, k + 1), 0, _, Or.inl ⟨_, PX.p4d2 g47 q1 q2, rfl⟩, rfl, FA.flt, OC.no A (by omega)⟩
            · have kK2 := hK.2.2.1 (k + 1) (by omega)
              rw [x1 q1 q2, pm_bd_s, if_neg (by decide), if_neg (by decide), if_pos rfl, c_emit (s := cln acc + 1) (by omega) (by rw [pm_up_k (by omega), pm_up_s]) (by omega), pm_bd_s]
              have B := (A.adv (k' := k + 1 + 1) (by omega)).em2 (x := tv tp n (k + 1))
              have cl2 : cln (acc ++ [((26, nI (tv tp n (k + 1))) : Op)]) = cln acc + 2 := by rw [cln_app]; rfl
              have eqh : pm_up (pm_up (pm_up (pm_up (pm_up (pm_up h 133 10 (nI (k + 1))) 136 (cln acc) (nI (tv tp n (k + 1)))) 135 7 (nI (cln acc + 1))) 133 10 (nI (k + 1 + 1))) 136 (cln acc + 1) (-(nI 47))) 135 7 (nI (cln acc + 1 + 1)) = pm_up (pm_up (pm_up (pm_up (pm_up (pm_up h 133 10 (nI (k + 1))) 133 10 (nI (k + 1 + 1))) 136 (cln acc) (nI (tv tp n (k + 1)))) 135 7 (nI (cln acc + 1))) 136 (cln acc + 1) (-(nI 47))) 135 7 (nI (cln acc + 2)) := by
                have sw : ∀ (g : pm_Hp) (a j b i : Nat) (x y : Int32), a ≠ b → pm_up (pm_up g a j x) b i y = pm_up (pm_up g b i y) a j x := fun g a j b i x y hab => by
                  funext p q
                  unfold pm_up
                  by_cases e1 : p = b ∧ q = i
                  · rw [if_pos e1, if_neg (fun z => hab (z.1.symm.trans e1.1)), if_pos e1]
                  · rw [if_neg e1, if_neg e1]
                rw [sw _ 135 7 133 10 _ _ (by omega), sw _ 136 (cln acc) 133 10 _ _ (by omega)]
              rw [eqh]
              obtain ⟨R, r2, h2, b1, b2, b3, b4⟩ := ih (k + 1 + 1) p (t + 1) (acc ++ [(26, nI (tv tp n (k + 1)))]) _ (.int (nI 47)) (by omega) B (by rw [cl2]; omega) (by omega) hp
              refine ⟨ap [(26, nI (tv tp n (k + 1)))] R, r2, h2, ?_, b2, FA.at_.em.em.tr b3, ?_⟩
              · rcases b1 with ⟨e, b1, rfl⟩ | ⟨l4, k4, S6, b1, b5, rfl⟩
                · exact Or.inl ⟨e, PX.p4d g47 q1 q2 b1, rfl⟩
                · refine Or.inr ⟨[(26, nI (tv tp n (k + 1)))] ++ l4, k4, S6, PX.p4d g47 q1 q2 b1, b5, ?_⟩
                  rw [ap_ap, List.append_assoc]
              · refine OC.ap ?_ ?_ b4
                · rw [pm_up_k (by omega), pm_up_k (by omega), pm_up_k (by omega), pm_up_k (by omega), pm_up_j (by omega), pm_up_j (by omega)]
                · rw [pm_up_k (by omega), pm_up_k (by omega), pm_up_k (by omega), pm_up_k (by omega), pm_up_j (by omega), pm_up_j (by omega)]
          · rw [x3 q1, pm_bd_s, if_pos rfl]
            exact ⟨.inl (1, k + 1), 0, _, Or.inl ⟨_, PX.p4d1 g47 q1, rfl⟩, rfl, FA.flt, OC.no A (by omega)⟩
        · by_cases g4 : tc tp n k = 43 ∨ tc tp n k = 45
          · have step : ∀ t0 : Nat, tc tp n k = t0 → (t0 = 43 ∨ t0 = 45) → ∃ R r h', LQ (tc tp n) (tv tp n) 4 6 p o k R ∧ (pm_bd (pm_ev d 90 [.ref 133, .int (nI p)] h) fun _ y2 => pm_bd (pm_ev d 93 [.ref 133, .int 0] (pm_up y2 133 10 ((y2 133 10) + 1))) fun r6 y6 => if r6 = 0 then (some ((0 : Int32), y6)) else (pm_rn d kX5_readSum 14 [.ref 133, .int (nI t0), .int (nI (t + 1)), .int (nI t0)] [] y6)) = some (r, h') ∧ FC h h' ∧ OC tp n K acc h h' r R := fun t0 et0 h0 => by
              obtain ⟨h1, a1, a2, a3, a4, a5⟩ := c_pend (d := d) (p := p) (by omega) (by omega) S (by omega)
              have b10 := a3.2.2.1
              have A1 := a3.adv (k' := k + 1) (by omega)
              have clp : cln (acc ++ fl p) ≤ k := by
                rw [cln_app]
                rcases hp with rfl | rfl | rfl
                · show cln acc + 0 ≤ k; omega
                · show cln acc + 1 ≤ k; rw [if_neg (by omega)] at hl; exact hl
                · show cln acc + 1 ≤ k; rw [if_neg (by omega)] at hl; exact hl
              rw [a1, pm_bd_s, b10, nI_1]
              obtain ⟨r, h2, x1, x2, x3⟩ := c_unit0 (d := d) (by omega) hK A1 (by omega)
              rw [x1, pm_bd_s]
              have f1 : FC h (pm_up h1 133 10 (nI (k + 1))) := a2.at_
              have e2 : pm_up h1 133 10 (nI (k + 1)) 133 2 = h 133 2 := by rw [pm_up_j (by omega)]; exact a4
              have e3 : pm_up h1 133 10 (nI (k + 1)) 133 3 = h 133 3 := by rw [pm_up_j (by omega)]; exact a5
              have n42 : PX (tc tp n) (tv tp n) 4 o k (.inr ([], k)) := PX.p4e g42 g47
              cases hu : pU (tc tp n) (tv tp n) (k + 1) with
              | inl e =>
                rw [hu] at x3
                have hr : r = 0 := x3.1
                have he : e.1 ≠ 9 := by
                  unfold pU at hu
                  by_cases q1 : tc tp n (k + 1) = 2
                  · rw [if_pos q1] at hu; cases hu
                  · rw [if_neg q1] at hu
                    by_cases q2 : 209 ≤ tc tp n (k + 1) ∧ tc tp n (k + 1) ≤ 216
                    · rw [if_pos q2] at hu; cases hu
                    · rw [if_neg q2] at hu
                      by_cases q3 : tc tp n (k + 1) = 203
                      · rw [if_pos q3] at hu; cases hu
                      · rw [if_neg q3] at hu; cases hu; show (1 : Nat) ≠ 9; omega
                rw [if_pos hr]
                exact ⟨.inl e, 0, h2, Or.inr ⟨[], k, .inl e, n42, PX.p6f (by omega) (PX.p5f hu he), rfl⟩, rfl, f1.tr x2, rfl, x3.2⟩
              | inr q =>
                rw [hu] at x3
                obtain ⟨hr, y4, y5, y6⟩ := x3
                obtain ⟨l, k1⟩ := q
                obtain ⟨u1, u2, u3, u4⟩ := pU_inv hK.2.2.2.2.1 hu
                subst u1
                have y4 : CS tp n K (k + 1 + 1) (acc ++ fl p ++ l) h2 := y4
                rw [if_neg (by rw [hr]; decide)]
                obtain ⟨R, r2, h3, b1, b2, b3, b4⟩ := ih (k + 1 + 1) t0 (t + 1) (acc ++ fl p ++ l) h2 (.int (nI t0)) (by omega) y4 (by rw [cln_app, u4, if_neg (by omega)]; omega) (by omega) (by omega)
                refine ⟨ap (fl p) (ap l R), r2, h3, ?_, b2, f1.tr (x2.tr b3), OC.ap (h := pm_up h1 133 10 (nI (k + 1))) e2 e3 (OC.ap (h := h2) y5 y6 b4)⟩
                refine Or.inr ⟨[], k, ?_⟩
                rcases b1 with ⟨e, b1, rfl⟩ | ⟨l4, k4, S6, b1, b5, rfl⟩
                · exact ⟨.inl e, n42, PX.p6f (by omega) (PX.p5 hu b1), rfl⟩
                · refine ⟨_, n42, PX.p6s (by omega) (PX.p5 hu b1) b5, ?_⟩
                  have ef : fl t0 = [((if tc tp n k = 43 then 23 else 24), 0)] := by
                    rcases h0 with rfl | rfl
                    · rw [et0]; rfl
                    · rw [et0]; rfl
                  rw [ef, ap_ap, ap_ap, ap_ap, List.nil_append]
                  congr 1
                  simp only [List.append_assoc]
            rcases g4 with g4 | g4
            · rw [g4, if_pos rfl, if_pos rfl]
              have := step 43 g4 (by omega)
              rw [nI_1]
              refine Eq.mp ?_ this
              congr 1
            · rw [g4, if_neg (by decide), if_pos rfl, if_neg (by decide), if_pos rfl]
              have := step 45 g4 (by omega)
              rw [nI_1]
              exact this
          · rw [if_neg (fun z => g4 (Or.inl ((nI_eq (by omega) (by omega)).mp z))), if_neg (fun z => g4 (Or.inr ((nI_eq (by omega) (by omega)).mp z))), if_neg (fun z => g42 ((nI_eq (by omega) (by omega)).mp z)), if_neg (fun z => g47 ((nI_eq (by omega) (by omega)).mp z))]
            exact fin k p acc h S (by omega) hp g42 g47 (by omega) (by omega)
    · exact ih k p t acc h u (by omega) S hl ht hp
end
