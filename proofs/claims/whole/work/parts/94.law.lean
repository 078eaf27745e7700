/-! THE CLASS READS the lines of a law -/
noncomputable def px (c v : Nat → Nat) (m o k : Nat) : Rz := @dite _ (∃ R, PX c v m o k R) (Classical.propDecidable _) (fun h => h.choose) (fun _ => .inl (9, 0))
theorem PX.px_ {c v : Nat → Nat} {m o k : Nat} {R : Rz} (a : PX c v m o k R) : px c v m o k = R := by
  have ex : ∃ R, PX c v m o k R := ⟨R, a⟩
  have e : px c v m o k = ex.choose := @dif_pos _ (Classical.propDecidable _) ex _ _ _
  rw [e]
  exact ex.choose_spec.det a
abbrev stw (r t : Nat) : Prop := (r = 0 ∧ (t = 200 ∨ t = 201)) ∨ (r = 1 ∧ (t = 202 ∨ t = 203 ∨ t = 204))
abbrev Rl : Type := (Nat × Nat) ⊕ (Ln × Nat)
abbrev Rs : Type := (Nat × Nat) ⊕ List Ln
/-- a semicolon -/
def sem (c : Nat → Nat) (x : Ln) (k : Nat) : Rl := if c k = 59 then .inr (x, k + 1) else .inl (1, k)
def rl {α β : Type} (x : (Nat × Nat) ⊕ α) (f : α → (Nat × Nat) ⊕ β) : (Nat × Nat) ⊕ β := match x with
  | .inl e => .inl e
  | .inr q => f q
noncomputable def lnf (c v : Nat → Nat) (k : Nat) : Rl := rl (px c v 7 0 (k + 1)) (fun q => if c q.2 = 205 then rl (px c v 3 0 (q.2 + 1)) (fun p => sem c (c k - 200, q.1, p.1) p.2) else sem c (c k - 200, q.1, []) q.2)
def lcs (R : Rl) (f : Nat → Rs) : Rs := rl R (fun q => rl (f q.2) (fun xs => .inr (q.1 :: xs)))
noncomputable def lsf (c v : Nat → Nat) (r : Nat) : Nat → Nat → Nat → Rs
  | 0, _, _ => .inr []
  | f + 1, i, k => if c k = 0 then .inr [] else if stw r (c k) then (if i = 16 then .inl (3, k) else lcs (lnf c v k) (lsf c v r f (i + 1))) else .inl (1, k)
def lcat : List Ln → List Op
  | [] => []
  | x :: l => x.2.1 ++ (x.2.2 ++ lcat l)
theorem lcat_app : ∀ (a b : List Ln), lcat (a ++ b) = lcat a ++ lcat b := by
  intro a
  induction a with
  | nil => intro b; rfl
  | cons x a ih => intro b; show x.2.1 ++ (x.2.2 ++ lcat (a ++ b)) = x.2.1 ++ (x.2.2 ++ lcat a) ++ lcat b; rw [ih, List.append_assoc, List.append_assoc]
theorem lcat_1 (x : Ln) : lcat [x] = x.2.1 ++ x.2.2 := by show x.2.1 ++ (x.2.2 ++ []) = _; rw [List.append_nil]
/-- the rows of lines from j on, at p -/
def LR (h : pm_Hp) : Nat → Nat → List Ln → Prop
  | _, _, [] => True
  | j, p, x :: l => (h 137 j = nI (200 + x.1) ∧ h 138 j = nI p ∧ h 139 j = nI (p + cln x.2.1) ∧ h 140 j = nI (p + cln x.2.1 + cln x.2.2)) ∧ LR h (j + 1) (p + cln x.2.1 + cln x.2.2) l
theorem LR_app {h : pm_Hp} : ∀ (l r : List Ln) (j p : Nat), LR h j p l → LR h (j + l.length) (p + cln (lcat l)) r → LR h j p (l ++ r) := by
  intro l
  induction l with
  | nil => intro r j p _ b; exact b
  | cons x l ih =>
    intro r j p a b
    refine ⟨a.1, ih r _ _ a.2 ?_⟩
    rw [show j + 1 + l.length = j + (x :: l).length by show _ = j + (l.length + 1); omega, show p + cln x.2.1 + cln x.2.2 + cln (lcat l) = p + cln (lcat (x :: l)) by show _ = p + cln (x.2.1 ++ (x.2.2 ++ lcat l)); rw [cln_app, cln_app]; omega]
    exact b
theorem LR_to {h h' : pm_Hp} : ∀ (l : List Ln) (j p : Nat), (∀ i, i < j + l.length → h' 137 i = h 137 i ∧ h' 138 i = h 138 i ∧ h' 139 i = h 139 i ∧ h' 140 i = h 140 i) → LR h j p l → LR h' j p l := by
  intro l
  induction l with
  | nil => intro j p _ _; trivial
  | cons x l ih =>
    intro j p e a
    have el : (x :: l).length = l.length + 1 := rfl
    obtain ⟨e1, e2, e3, e4⟩ := e j (by omega)
    exact ⟨by rw [e1, e2, e3, e4]; exact a.1, ih _ _ (fun i hi => e i (by omega)) a.2⟩
theorem c_addLine {d i : Nat} {h : pm_Hp} (hd : 1 ≤ d) (e : h 135 6 = nI i) (hi : i < 16) (x y z : Int32) : pm_ev d 48 [.ref 135, .int x, .int y, .int z] h = some (0, pm_up (pm_up (pm_up (pm_up (pm_up h 137 i x) 138 i y) 139 i z) 140 i (h 135 7)) 135 6 (nI (i + 1))) := by
  obtain ⟨d, rfl, -⟩ := dpos hd
  rw [e_X3_addLine, e, if_pos (nI_lt hi (by omega)), pm_at_c hi (by omega), pm_at_c hi (by omega), pm_at_c hi (by omega), pm_at_c hi (by omega), nI_1]
theorem pm_ev_46 {d : Nat} {h : pm_Hp} (hd : 1 ≤ d) : pm_ev d 46 [.ref 135] h = some (0, pm_up (pm_up h 135 6 0) 135 7 0) := by
  obtain ⟨d, rfl, -⟩ := dpos hd
  exact e_X3_clear d h
section
variable {tp : Nat → Nat} {n K : Nat}
def FL (h h' : pm_Hp) : Prop := (∀ a, (a < 133 ∨ a = 134 ∨ 140 < a) → h' a = h a) ∧ ∀ j, j ≠ 2 → j ≠ 3 → j ≠ 10 → h' 133 j = h 133 j
theorem FL.rf {h : pm_Hp} : FL h h := ⟨fun _ _ => rfl, fun _ _ _ _ => rfl⟩
theorem FL.tr {h h' h'' : pm_Hp} (a : FL h h') (b : FL h' h'') : FL h h'' := ⟨fun k x => (b.1 k x).trans (a.1 k x), fun j x y z => (b.2 j x y z).trans (a.2 j x y z)⟩
theorem FC.fl {h h' : pm_Hp} (a : FC h h') : FL h h' := ⟨fun k x => a.1 k (by omega) (by omega) (by omega), a.2.1⟩
theorem FC.lr {h h' : pm_Hp} (a : FC h h') {l : List Ln} {j p : Nat} (r : LR h j p l) : LR h' j p l := LR_to l j p (fun i _ => by rw [a.1 137 (by omega) (by omega) (by omega), a.1 138 (by omega) (by omega) (by omega), a.1 139 (by omega) (by omega) (by omega), a.1 140 (by omega) (by omega) (by omega)]; exact ⟨rfl, rfl, rfl, rfl⟩) r
theorem CS.to {k : Nat} {acc : List Op} {h h' : pm_Hp} (S : CS tp n K k acc h) (e1 : h' 133 = h 133) (e2 : h' 147 = h 147) (e3 : h' 148 = h 148) (e4 : h' 149 = h 149) (e5 : h' 135 7 = h 135 7) (e6 : h' 136 = h 136) : CS tp n K k acc h' := by
  obtain ⟨s1, s2, s3, s4, s5, s6⟩ := S
  exact ⟨by rw [e1]; exact s1, s2.to e2 e3 e4, by rw [e1]; exact s3, s4, by rw [e5]; exact s5, cseg_eq e6 _ _ s6⟩
def OL (tp : Nat → Nat) (n : Nat) (Ls : List Ln) (h h' : pm_Hp) (r1 : Int32) (R : Rs) : Prop := match R with
  | .inl e => r1 = 0 ∧ h' 133 2 = nI e.1 ∧ h' 133 3 = nI (tl_ tp n e.2)
  | .inr xs => r1 = 1 ∧ h' 133 2 = h 133 2 ∧ h' 133 3 = h 133 3 ∧ h' 135 6 = nI (Ls ++ xs).length ∧ LR h' 0 0 (Ls ++ xs) ∧ cseg h' 136 0 (lcat (Ls ++ xs)) ∧ cln (lcat (Ls ++ xs)) ≤ 400 ∧ (Ls ++ xs).length ≤ 16
theorem OL.fault {Ls : List Ln} {h h' : pm_Hp} {r1 : Int32} {e : Nat × Nat} (a : r1 = 0) (b : h' 133 2 = nI e.1) (c : h' 133 3 = nI (tl_ tp n e.2)) : OL tp n Ls h h' r1 (.inl e) := ⟨a, b, c⟩
theorem OL.next {Ls : List Ln} {x : Ln} {h h1 h' : pm_Hp} {r1 : Int32} {R : Rs} (e2 : h1 133 2 = h 133 2) (e3 : h1 133 3 = h 133 3) (a : OL tp n (Ls ++ [x]) h1 h' r1 R) : OL tp n Ls h h' r1 (rl R (fun xs => .inr (x :: xs))) := by
  cases R with
  | inl e => exact a
  | inr xs =>
    obtain ⟨a1, a2, a3, a4, a5, a6, a7, a8⟩ := a
    have e : Ls ++ [x] ++ xs = Ls ++ (x :: xs) := by rw [List.append_assoc]; rfl
    rw [e] at a4 a5 a6 a7 a8
    exact ⟨a1, a2.trans e2, a3.trans e3, a4, a5, a6, a7, a8⟩
theorem c_lawL {d r : Nat} (hd : 22 ≤ d) (hr : r < 2) (hK : KE tp n K) : ∀ (f i k : Nat) (Ls : List Ln) (h : pm_Hp) (u3 u4 u5 u6 : Value), f + i = 17 → i ≤ 16 → Ls.length = i → CS tp n K k (lcat Ls) h → h 135 6 = nI i → LR h 0 0 Ls → cln (lcat Ls) ≤ k → ∃ r1 h', pm_rn d kX5_readLaw 9 [.ref 133, .int (b2 (r = 0)), .int (nI i), u3, u4, u5, u6] [] h = some (r1, h') ∧ FL h h' ∧ OL tp n Ls h h' r1 (lsf (tc tp n) (tv tp n) r f i k) := by
  have K4 := hK.1
  intro f
  induction f with
  | zero =>
    intro i k Ls h u3 u4 u5 u6 hf hi
    omega
  | succ f ih =>
    intro i k Ls h u3 u4 u5 u6 hf i16 hl S e6 R hc
    have kK := S.2.2.2.1
    have s10 := S.2.2.1
    have s7 := S.2.2.2.2.1
    have c3 := hK.2.2.2.1 k
    have tk := c_token (d := d) (by omega) hK S
    rw [b_X5_readLaw_9, if_pos (nI_le (by omega) (by omega)), tk, pm_bd_s]
    by_cases c0 : tc tp n k = 0
    · rw [if_pos (by rw [c0]; exact nI_0), show lsf (tc tp n) (tv tp n) r (f + 1) i k = .inr [] from if_pos c0]
      refine ⟨1, h, rfl, FL.rf, rfl, rfl, rfl, ?_⟩
      rw [List.append_nil]
      exact ⟨by rw [hl]; exact e6, R, S.2.2.2.2.2, by omega, by omega⟩
    · rw [if_neg (show ¬ nI (tc tp n k) = 0 from fun z => c0 ((nI_eq (b := 0) (by omega) (by omega)).mp z)), tk, pm_bd_s]
      have el : lsf (tc tp n) (tv tp n) r (f + 1) i k = if stw r (tc tp n k) then (if i = 16 then .inl (3, k) else lcs (lnf (tc tp n) (tv tp n) k) (lsf (tc tp n) (tv tp n) r f (i + 1))) else .inl (1, k) := if_neg c0
      rw [el]
      have no : ¬ stw r (tc tp n k) → ∃ r1 h', (pm_bd (pm_ev d 86 [.ref 133, .int 1] h) fun r27 y27 => pm_bw r27 (some (r27, y27))) = some (r1, h') ∧ FL h h' ∧ OL tp n Ls h h' r1 (if stw r (tc tp n k) then (if i = 16 then .inl (3, k) else lcs (lnf (tc tp n) (tv tp n) k) (lsf (tc tp n) (tv tp n) r f (i + 1))) else .inl (1, k)) := fun ns => by
        rw [if_neg ns, c_refuse (by omega) hK S, pm_bd_s, pm_bw_0]
        exact ⟨0, _, rfl, FC.rf.flt.fl, rfl, by rw [pm_up_j (by omega), pm_up_s]; rfl, pm_up_s⟩
      have yes : stw r (tc tp n k) → ∃ r1 h', (if h 135 6 < nI 16 then (pm_bd (pm_ev d 92 [.ref 133] (pm_up h 133 10 ((h 133 10) + 1))) fun r3 y3 => if r3 = 0 then (some ((0 : Int32), y3)) else (pm_bd (pm_ev d 84 [.ref 133] y3) fun r4 y4 => if r4 = nI 205 then (pm_bd (pm_ev d 89 [.ref 133, .int 0] (pm_up y4 133 10 ((y4 133 10) + 1))) fun r5 y5 => if r5 = 0 then (some (0, y5)) else (pm_bd (pm_ev d 87 [.ref 133, .int (nI 59)] y5) fun r6 y6 => if r6 = 0 then (some (0, y6)) else (pm_bd (pm_ev d 48 [.ref 135, .int (nI (tc tp n k)), .int (h 135 7), .int (y3 135 7)] y6) fun _ y7 => pm_rn d kX5_readLaw 9 [.ref 133, .int (b2 (r = 0)), .int (nI i + 1), .int (nI (tc tp n k)), .int 1, .int (h 135 7), .int (y3 135 7)] [] y7))) else (pm_bd (pm_ev d 87 [.ref 133, .int (nI 59)] y4) fun r8 y8 => if r8 = 0 then (some (0, y8)) else (pm_bd (pm_ev d 48 [.ref 135, .int (nI (tc tp n k)), .int (h 135 7), .int (y3 135 7)] y8) fun _ y9 => pm_rn d kX5_readLaw 9 [.ref 133, .int (b2 (r = 0)), .int (nI i + 1), .int (nI (tc tp n k)), .int 1, .int (h 135 7), .int (y3 135 7)] [] y9)))) else (pm_bd (pm_ev d 86 [.ref 133, .int (nI 3)] h) fun r10 y10 => pm_bw r10 (some (r10, y10)))) = some (r1, h') ∧ FL h h' ∧ OL tp n Ls h h' r1 (if stw r (tc tp n k) then (if i = 16 then .inl (3, k) else lcs (lnf (tc tp n) (tv tp n) k) (lsf (tc tp n) (tv tp n) r f (i + 1))) else .inl (1, k)) := fun st => by
        rw [if_pos st, e6, ltn_ite (by omega) (by omega)]
        by_cases g16 : i = 16
        · rw [if_neg (by omega), if_pos g16, c_refuse (by omega) hK S, pm_bd_s, pm_bw_0]
          exact ⟨0, _, rfl, FC.rf.flt.fl, rfl, by rw [pm_up_j (by omega), pm_up_s], pm_up_s⟩
        · have kK1 := hK.2.2.1 k c0
          have A := S.adv (k' := k + 1) (by omega)
          have FA : FC h (pm_up h 133 10 (nI (k + 1))) := FC.rf.at_
          have e2A : (pm_up h 133 10 (nI (k + 1))) 133 2 = h 133 2 := pm_up_j (by omega)
          have e3A : (pm_up h 133 10 (nI (k + 1))) 133 3 = h 133 3 := pm_up_j (by omega)
          rw [if_pos (by omega), if_neg g16, s10, s7, nI_1, nI_1]
          /- behind a line -/
          have tail : ∀ (l q : List Op) (k2 : Nat) (y : pm_Hp), CS tp n K k2 (lcat Ls ++ (l ++ q)) y → FC h y → y 133 2 = h 133 2 → y 133 3 = h 133 3 → cln (lcat Ls ++ (l ++ q)) ≤ k2 → ∃ r1 h', (pm_bd (pm_ev d 87 [.ref 133, .int (nI 59)] y) fun r8 y8 => if r8 = 0 then (some ((0 : Int32), y8)) else (pm_bd (pm_ev d 48 [.ref 135, .int (nI (tc tp n k)), .int (nI (cln (lcat Ls))), .int (nI (cln (lcat Ls ++ l)))] y8) fun _ y9 => pm_rn d kX5_readLaw 9 [.ref 133, .int (b2 (r = 0)), .int (nI (i + 1)), .int (nI (tc tp n k)), .int 1, .int (nI (cln (lcat Ls))), .int (nI (cln (lcat Ls ++ l)))] [] y9)) = some (r1, h') ∧ FL h h' ∧ OL tp n Ls h h' r1 (lcs (sem (tc tp n) (tc tp n k - 200, l, q) k2) (lsf (tc tp n) (tv tp n) r f (i + 1))) := fun l q k2 y Sy Fy y2 y3 hcl => by
            obtain ⟨p1, p2⟩ := c_pass (d := d) (t := 59) (by omega) hK Sy (by omega)
            have kK2 := Sy.2.2.2.1
            unfold sem
            by_cases g59 : tc tp n k2 = 59
            · have kK3 := hK.2.2.1 k2 (by omega)
              have B := Sy.adv (k' := k2 + 1) (by omega)
              have y6 : (pm_up y 133 10 (nI (k2 + 1))) 135 6 = nI i := by rw [pm_up_k (by omega), Fy.2.2 6 (by omega)]; exact e6
              rw [p1 g59, pm_bd_s, if_neg (by decide), c_addLine (by omega) y6 (by omega), pm_bd_s, if_pos g59]
              generalize hg : pm_up y 133 10 (nI (k2 + 1)) = g at B y6
              have g7 : g 135 7 = nI (cln (lcat Ls ++ (l ++ q))) := B.2.2.2.2.1
              have Fg : FC h g := by rw [← hg]; exact Fy.at_
              have ge2 : g 133 2 = h 133 2 := by rw [← hg, pm_up_j (by omega)]; exact y2
              have ge3 : g 133 3 = h 133 3 := by rw [← hg, pm_up_j (by omega)]; exact y3
              rw [g7]
              generalize hh : pm_up (pm_up (pm_up (pm_up (pm_up g 137 i (nI (tc tp n k))) 138 i (nI (cln (lcat Ls)))) 139 i (nI (cln (lcat Ls ++ l)))) 140 i (nI (cln (lcat Ls ++ (l ++ q))))) 135 6 (nI (i + 1)) = g2
              have oth : ∀ a, (a < 135 ∨ a = 136 ∨ 140 < a) → g2 a = g a := fun a ha => by rw [← hh, pm_up_n (by omega), pm_up_n (by omega), pm_up_n (by omega), pm_up_n (by omega), pm_up_n (by omega)]
              have ex : lcat (Ls ++ [(tc tp n k - 200, l, q)]) = lcat Ls ++ (l ++ q) := by rw [lcat_app, lcat_1]
              have B2 : CS tp n K (k2 + 1) (lcat (Ls ++ [(tc tp n k - 200, l, q)])) g2 := by
                rw [ex]
                exact B.to (oth 133 (by omega)) (oth 147 (by omega)) (oth 148 (by omega)) (oth 149 (by omega)) (by rw [← hh, pm_up_j (by omega), pm_up_k (by omega), pm_up_k (by omega), pm_up_k (by omega), pm_up_k (by omega)]) (oth 136 (by omega))
              have g26 : g2 135 6 = nI (i + 1) := by rw [← hh]; exact pm_up_s
              have R2 : LR g2 0 0 (Ls ++ [(tc tp n k - 200, l, q)]) := by
                refine LR_app Ls _ 0 0 (LR_to Ls 0 0 (fun j hj => ?_) (Fg.lr R)) ⟨⟨?_, ?_, ?_, ?_⟩, trivial⟩
                · rw [← hh, pm_up_n (by omega), pm_up_n (by omega), pm_up_n (by omega), pm_up_n (by omega), pm_up_j (by omega), pm_up_n (by omega), pm_up_n (by omega), pm_up_n (by omega), pm_up_j (by omega), pm_up_n (by omega), pm_up_n (by omega), pm_up_n (by omega), pm_up_j (by omega), pm_up_n (by omega), pm_up_n (by omega), pm_up_n (by omega), pm_up_j (by omega), pm_up_n (by omega), pm_up_n (by omega), pm_up_n (by omega)]
                  exact ⟨rfl, rfl, rfl, rfl⟩
                · rw [Nat.zero_add, hl, ← hh, pm_up_k (by omega), pm_up_k (by omega), pm_up_k (by omega), pm_up_k (by omega), pm_up_s]
                  show nI (tc tp n k) = nI (200 + (tc tp n k - 200))
                  rw [show 200 + (tc tp n k - 200) = tc tp n k by unfold stw at st; omega]
                · rw [Nat.zero_add, Nat.zero_add, hl, ← hh, pm_up_k (by omega), pm_up_k (by omega), pm_up_k (by omega), pm_up_s]
                · rw [Nat.zero_add, Nat.zero_add, hl, ← hh, pm_up_k (by omega), pm_up_k (by omega), pm_up_s, cln_app]
                · rw [Nat.zero_add, Nat.zero_add, hl, ← hh, pm_up_k (by omega), pm_up_s, cln_app, cln_app]
                  congr 1
                  show _ = cln (lcat Ls) + cln l + cln q
                  omega
              obtain ⟨r1, h', a1, a2, a3⟩ := ih (i + 1) (k2 + 1) (Ls ++ [(tc tp n k - 200, l, q)]) g2 (.int (nI (tc tp n k))) (.int 1) (.int (nI (cln (lcat Ls)))) (.int (nI (cln (lcat Ls ++ l)))) (by omega) (by omega) (by rw [List.length_append, hl]; rfl) B2 g26 R2 (by rw [ex]; omega)
              have F2 : FL h g2 := Fg.fl.tr ⟨fun a ha => oth a (by omega), fun j _ _ _ => by rw [oth 133 (by omega)]⟩
              exact ⟨r1, h', a1, F2.tr a2, OL.next (h1 := g2) (by rw [oth 133 (by omega)]; exact ge2) (by rw [oth 133 (by omega)]; exact ge3) a3⟩
            · rw [p2 g59, pm_bd_s, if_pos rfl, if_neg g59]
              exact ⟨0, _, rfl, Fy.flt.fl, rfl, by rw [pm_up_j (by omega), pm_up_s]; rfl, pm_up_s⟩
          unfold lnf
          obtain ⟨R1, r1, h1, a0, a1, a2, a3⟩ := c_sum (d := d) (o := 0) (by omega) hK A (by omega)
          rw [a1, pm_bd_s, a0.px_]
          cases R1 with
          | inl e =>
            rw [if_pos a3.1]
            exact ⟨0, h1, rfl, (FA.tr a2).fl, rfl, a3.2.1, a3.2.2.1⟩
          | inr q =>
            obtain ⟨hr1, a4, a5, a6⟩ := a3
            obtain ⟨l, k1⟩ := q
            have a4 : CS tp n K k1 (lcat Ls ++ l) h1 := a4
            obtain ⟨x1, x2, x3, x4⟩ := a0.ok hK.2.2.2.2.1 hK.2.2.1 (by omega) (by omega)
            have c31 := hK.2.2.2.1 k1
            have cl : cln (lcat Ls ++ l) ≤ k1 := by rw [cln_app]; omega
            rw [if_neg (by rw [hr1]; decide), c_token (by omega) hK a4, pm_bd_s, a4.2.2.2.2.1, nI_ite (by omega) (by omega)]
            show ∃ r1 h', _ ∧ FL h h' ∧ OL tp n Ls h h' r1 (lcs (if tc tp n k1 = 205 then rl (px (tc tp n) (tv tp n) 3 0 (k1 + 1)) (fun p => sem (tc tp n) (tc tp n k - 200, l, p.1) p.2) else sem (tc tp n) (tc tp n k - 200, l, []) k1) _)
            by_cases g205 : tc tp n k1 = 205
            · have kK3 := hK.2.2.1 k1 (by omega)
              have A1 := a4.adv (k' := k1 + 1) (by omega)
              rw [if_pos g205, if_pos g205, a4.2.2.1, nI_1]
              obtain ⟨R2, r2, h2, b0, b1, b2_, b3⟩ := c_either hK d (k1 + 1) (lcat Ls ++ l) _ (by omega) A1 (by omega)
              have b1 : pm_ev d 89 [.ref 133, .int 0] (pm_up h1 133 10 (nI (k1 + 1))) = some (r2, h2) := b1
              rw [b1, pm_bd_s, b0.px_]
              have F12 : FC h h2 := FA.tr (a2.tr (FC.rf.at_.tr b2_))
              cases R2 with
              | inl e =>
                rw [if_pos b3.1]
                exact ⟨0, h2, rfl, F12.fl, rfl, b3.2.1, b3.2.2.1⟩
              | inr q =>
                obtain ⟨hr2, b4, b5, b6⟩ := b3
                obtain ⟨q, k2⟩ := q
                have b4 : CS tp n K k2 (lcat Ls ++ l ++ q) h2 := b4
                obtain ⟨z1, z2, z3, z4⟩ := b0.ok hK.2.2.2.2.1 hK.2.2.1 (by omega) (by omega)
                rw [if_neg (by rw [hr2]; decide)]
                rw [List.append_assoc] at b4
                exact tail l q k2 h2 b4 F12 (by rw [b5, pm_up_j (by omega)]; exact a5.trans e2A) (by rw [b6, pm_up_j (by omega)]; exact a6.trans e3A) (by rw [← List.append_assoc, cln_app]; omega)
            · rw [if_neg g205, if_neg g205]
              exact tail l [] k1 h1 (by rw [List.append_nil]; exact a4) (FA.tr a2) (a5.trans e2A) (a6.trans e3A) (by rw [List.append_nil]; exact cl)
      have hr : r = 0 ∨ r = 1 := by omega
      rcases hr with rfl | rfl
      · rw [if_neg (by rw [b2_t rfl]; decide), nI_ite (by omega) (by omega)]
        by_cases w1 : tc tp n k = 200
        · rw [if_pos w1]; exact yes (Or.inl ⟨rfl, Or.inl w1⟩)
        rw [if_neg w1, nI_ite (by omega) (by omega)]
        by_cases w2 : tc tp n k = 201
        · rw [if_pos w2]; exact yes (Or.inl ⟨rfl, Or.inr w2⟩)
        rw [if_neg w2]
        exact no (by unfold stw; omega)
      · rw [if_pos (b2_f (by omega)), nI_ite (by omega) (by omega)]
        by_cases w1 : tc tp n k = 202
        · rw [if_pos w1]; exact yes (Or.inr ⟨rfl, Or.inl w1⟩)
        rw [if_neg w1, nI_ite (by omega) (by omega)]
        by_cases w2 : tc tp n k = 203
        · rw [if_pos w2]; exact yes (Or.inr ⟨rfl, Or.inr (Or.inl w2)⟩)
        rw [if_neg w2, nI_ite (by omega) (by omega)]
        by_cases w3 : tc tp n k = 204
        · rw [if_pos w3]; exact yes (Or.inr ⟨rfl, Or.inr (Or.inr w3)⟩)
        rw [if_neg w3]
        exact no (by unfold stw; omega)
theorem c_law {d r : Nat} {h : pm_Hp} (hd : 23 ≤ d) (hr : r < 2) (hK : KE tp n K) (e9 : h 133 9 = nI (K + 1)) (T : TKR tp n (K + 1) h) (e10 : h 133 10 = 0) : ∃ r1 h', pm_ev d 88 [.ref 133, .int (b2 (r = 0))] h = some (r1, h') ∧ FL h h' ∧ OL tp n [] h h' r1 (lsf (tc tp n) (tv tp n) r 17 0 0) := by
  obtain ⟨d, rfl, -⟩ := dpos hd
  rw [e_X5_readLaw, pm_ev_46 (by omega), pm_bd_s]
  obtain ⟨r1, h', a1, a2, a3⟩ := c_lawL (d := d) (by omega) hr hK 17 0 0 [] (pm_up (pm_up h 135 6 0) 135 7 0) .null .null .null .null (by omega) (by omega) rfl ⟨by rw [pm_up_k (by omega), pm_up_k (by omega)]; exact e9, T.to (by rw [pm_up_n (by omega), pm_up_n (by omega)]) (by rw [pm_up_n (by omega), pm_up_n (by omega)]) (by rw [pm_up_n (by omega), pm_up_n (by omega)]), by rw [pm_up_k (by omega), pm_up_k (by omega)]; exact e10, by omega, pm_up_s, trivial⟩ (by rw [pm_up_j (by omega), pm_up_s]; rfl) trivial (Nat.le_refl 0)
  refine ⟨r1, h', a1, FL.tr ⟨fun a ha => by rw [pm_up_n (by omega), pm_up_n (by omega)], fun j _ _ _ => by rw [pm_up_k (by omega), pm_up_k (by omega)]⟩ a2, ?_⟩
  have e2 : ∀ j, (pm_up (pm_up h 135 6 0) 135 7 0) 133 j = h 133 j := fun j => by rw [pm_up_k (by omega), pm_up_k (by omega)]
  cases hR : lsf (tc tp n) (tv tp n) r 17 0 0 with
  | inl e => rw [hR] at a3; exact a3
  | inr xs =>
    rw [hR] at a3
    obtain ⟨b1, b2_, b3, b4⟩ := a3
    exact ⟨b1, b2_.trans (e2 2), b3.trans (e2 3), b4⟩
end
