/-! PLAN is alike -/
theorem exs_cg {T : Nat} {cd ce : Nat → Nat → Prop} {co : Nat → Nat → Nat} {gt : Nat → Nat → Nat → Nat → Prop} (hh : ∀ i t, t < T → (cd i t ↔ ce i t)) : ∀ (r i : Nat) (f : Nat → Nat) (c : Nat) (s : Sr), exs T cd co gt r i f c s = exs T ce co gt r i f c s := by
  intro r
  induction r with
  | zero => intro i f c s; rfl
  | succ r ih =>
    intro i f c s
    show itr _ 0 T s = itr _ 0 T s
    refine itr_cq T 0 s (fun t s h1 h2 => ?_)
    have e := hh i t (by omega)
    by_cases g : vd cd gt i f t
    · rw [ck_t g, ck_t (show vd ce gt i f t from ⟨e.mp g.1, g.2⟩), ih]
    · rw [ck_f g, ck_f (fun z : vd ce gt i f t => g ⟨e.mpr z.1, z.2⟩)]
theorem nbn {h : pm_Hp} (b35 : h 169 35 = -1) (i t : Nat) (ht : t < 16) : cdm h i t ↔ cdw h i t := by
  unfold cdm
  rw [b35]
  refine ⟨fun z => z.2, fun z => ⟨fun y => ?_, z⟩⟩
  have := y.2
  rw [nI_m1 (by omega)] at this
  exact this
section
variable {T R A n0 n1 q N M : Nat} {L0 L1 : Nat → Ln} {h : pm_Hp}
theorem PS_ok (hT : T ≤ 16) (hM : M ≤ 6) (s1 : (PS T M n0 L0 n1 L1 h).1 = true) : (∀ k, k < M → (PS T M n0 L0 n1 L1 h).2.2 k < T ∧ cdw h k ((PS T M n0 L0 n1 L1 h).2.2 k) ∧ ∀ j, j < k → gtw n1 L1 h j ((PS T M n0 L0 n1 L1 h).2.2 j) k ((PS T M n0 L0 n1 L1 h).2.2 k)) ∧ (PS T M n0 L0 n1 L1 h).2.1 = sm (fun k => cow n0 L0 h k ((PS T M n0 L0 n1 L1 h).2.2 k)) 0 M ∧ (PS T M n0 L0 n1 L1 h).2.1 ≤ 6000000 := by
  have a := exs_ok (T := T) (cd := cdw h) (co := cow n0 L0 h) (gt := gtw n1 L1 h) (W := M) M 0 (fun _ => 0) 0 s00 (by omega) (fun k hk => absurd hk (Nat.not_lt_zero k)) (fun z => absurd z (by decide)) s1
  have b := exs_cp (T := T) (cd := cdw h) (co := cow n0 L0 h) (gt := gtw n1 L1 h) (W := M) M 0 (fun _ => 0) 0 s00 (by omega) rfl (fun z => absurd z (by decide)) s1
  refine ⟨a, b, ?_⟩
  have e : (PS T M n0 L0 n1 L1 h).2.1 = sm (fun k => cow n0 L0 h k ((PS T M n0 L0 n1 L1 h).2.2 k)) 0 M := b
  rw [e]
  have := sm_le (mm := fun k => cow n0 L0 h k ((PS T M n0 L0 n1 L1 h).2.2 k)) (B := 1000000) M 0 (fun j _ _ => cow_le j _)
  have m6 : M * 1000000 ≤ 6 * 1000000 := Nat.mul_le_mul_right _ hM
  omega
/-- the planner's cache -/
def PC (T M n0 : Nat) (L0 : Nat → Ln) (n1 : Nat) (L1 : Nat → Ln) (h : pm_Hp) : Prop := h 150 0 = 0 ∨ (h 150 0 = 1 ∧ PD T M n0 L0 n1 L1 h)
theorem c_ready {d : Nat} (hd : 16 ≤ d) (F : FS T R A n0 n1 q N M L0 L1 h) (C : PC T M n0 L0 n1 L1 h) : ∃ h', pm_ev d 54 [.ref 150, .ref 1] h = some (0, h') ∧ PFr h h' ∧ h' 150 0 = 1 ∧ PD T M n0 L0 n1 L1 h' := by
  rcases C with C | ⟨C, D⟩
  · exact c_prep hd F C
  · obtain ⟨d, rfl, -⟩ := dpos (show 15 + 1 ≤ d by omega)
    exact ⟨h, by rw [e_X4_prepare, if_neg (by rw [C]; decide)], PFr.rf, C, D⟩
theorem m_lay0 {d : Nat} (hd : 18 ≤ d) (F : FS T R A n0 n1 q N M L0 L1 h) (b35 : h 169 35 = -1) : ∃ h', pm_ev d 263 [.ref 169] h = some (b2 ((PS T M n0 L0 n1 L1 h).1 = true), h') ∧ (∀ a, a ≠ 169 → (a < 178 ∨ 182 < a) → h' a = h a) ∧ (∀ j, j ≠ 32 → j ≠ 33 → h' 169 j = h 169 j) ∧ MSr M (PS T M n0 L0 n1 L1 h) h' := by
  have hT := F.1.1.1
  have := m_laysP (d := d) hd F
  rw [exs_cg (cd := cdm h) (ce := cdw h) (fun i t ht => nbn b35 i t (by omega))] at this
  exact this
/-- what a question of the plan leaves -/
def QP (T M n0 : Nat) (L0 : Nat → Ln) (n1 : Nat) (L1 : Nat → Ln) (h h2 : pm_Hp) : Prop := (∀ k, k ≠ 24 → k ≠ 31 → k ≠ 37 → (k < 150 ∨ (164 < k ∧ k ≠ 185)) → k ≠ 169 → (k < 178 ∨ 182 < k) → h2 k = h k) ∧ (∀ j, j ≠ 32 → j ≠ 33 → h2 169 j = h 169 j) ∧ h2 150 0 = 1 ∧ PD T M n0 L0 n1 L1 h2
def MP (T M n0 : Nat) (L0 : Nat → Ln) (n1 : Nat) (L1 : Nat → Ln) (d c m : Nat) (a : List Value) (h : pm_Hp) : Prop := ∃ r h1 h2, pm_ev d c (.ref 0 :: a) h = some (r, h1) ∧ pm_ev d m (.ref 169 :: a) h1 = some (r, h2) ∧ QP T M n0 L0 n1 L1 h h2
/-- the class's planner after a question -/
def CPl (y z : pm_Hp) : Prop := (∀ a, (a < 150 ∨ (150 < a ∧ a < 155) ∨ (164 < a ∧ a ≠ 185)) → z a = y a) ∧ ∀ j, j ≠ 13 → z 150 j = y 150 j
theorem CPl.rf {y : pm_Hp} : CPl y y := ⟨fun _ _ => rfl, fun _ _ => rfl⟩
theorem QP.mk {y z h2 : pm_Hp} (G : PFr h y) (k1 : y 150 0 = 1) (D : PD T M n0 L0 n1 L1 y) (C : CPl y z) (m1 : ∀ a, a ≠ 169 → (a < 178 ∨ 182 < a) → h2 a = z a) (m2 : ∀ j, j ≠ 32 → j ≠ 33 → h2 169 j = z 169 j) : QP T M n0 L0 n1 L1 h h2 := by
  have h150 : ∀ a, 150 ≤ a → a ≤ 164 → h2 a = z a := fun a x1 x2 => m1 a (by omega) (by omega)
  refine ⟨fun k x1 x2 x3 x4 x5 x6 => ?_, fun j x1 x2 => ?_, ?_, ?_⟩
  · rw [m1 k x5 x6, C.1 k (by omega)]; exact G k x1 x2 x3 x4
  · rw [m2 j x1 x2, C.1 169 (by omega), G 169 (by omega) (by omega) (by omega) (by omega)]
  · rw [h150 150 (by omega) (by omega), C.2 0 (by omega)]; exact k1
  · exact D.eq (by rw [m1 170 (by omega) (by omega), C.1 170 (by omega)]) (fun j hj => by rw [h150 150 (by omega) (by omega), C.2 j hj]) (fun a x1 x2 => by rw [h150 a (by omega) (by omega), C.1 a (by omega)])
noncomputable def planY (d : Nat) (W : Int32) (y : pm_Hp) (v : Int32) : pm_Rs := if v = 0 then some (y 150 2, y) else if v = 1 then some (y 150 3, y) else pm_bd (pm_ev d 295 [.int v, .int (nI 10)] y) fun r2 y2 => if r2 < W then (pm_bd (pm_ev d 294 [.int v, .int (nI 10)] y2) fun r3 y3 => if r3 = 1 then (pm_at r2 6 fun j1 => some (y3 151 j1, y3)) else if r3 = nI 2 then (some ((-1), y3)) else if r3 = nI 3 then (pm_bd (pm_ev d 68 [.ref 150, .int r2] y3) fun r4 y4 => some (r4, y4)) else if r3 = nI 4 then (pm_bd (pm_ev d 69 [.ref 150, .int r2] y3) fun r5 y5 => some (r5, y5)) else (some ((-1), y3))) else (some ((-1), y2))
noncomputable def planX (d : Nat) (W : Int32) (y : pm_Hp) (v : Int32) : pm_Rs := if y 150 1 = 0 then some (-1, y) else if v < nI 50 then planY d W y v else if v < nI 50 + y 1 11 then pm_bd (pm_ev d 67 [.ref 150, .int (v - nI 50)] y) fun r6 y6 => some (r6, y6) else planY d W y v
theorem planX_eq {d : Nat} {v : Int32} (n : ¬ (¬ v < nI 20 ∧ v ≤ nI 20 + h 32 5)) : pm_ev (d + 1) 150 [.ref 0, .int v] h = pm_bd (pm_ev d 54 [.ref 150, .ref 1] h) fun _ y1 => planX d (h 32 5) y1 v := by
  rw [e_X9_plan]
  by_cases g : v < nI 20
  · rw [show (fun (_ : Int32) (y1 : pm_Hp) => planX d (h 32 5) y1 v) = fun _ y1 => _ from rfl]
    congr 1
    funext r y
    rw [if_pos g]
    rfl
  · congr 1
    funext r y
    rw [if_neg g, if_neg (fun z => n ⟨g, z⟩)]
    rfl
theorem fl_pos {d n : Nat} {h : pm_Hp} (hd : 1 ≤ d) (hn : n < 2 ^ 31) : pm_ev d 294 [.int (nI n), .int (nI 10)] h = some (nI (n / 10), h) ∧ pm_ev d 295 [.int (nI n), .int (nI 10)] h = some (nI (n % 10), h) := by
  obtain ⟨d, rfl, -⟩ := dpos hd
  have x : ¬ nI n ^^^ nI 10 < 0 := by
    rw [nI_xor]
    exact nI_pos (Nat.xor_lt_two_pow hn (by omega))
  rw [e_J9_floorDiv_7cf53, e_J9_floorMod_7cf53, if_neg (by decide), if_neg x, if_neg (by decide), if_neg x, pk_rem hn (by omega) (by omega), pk_div hn (by omega) (by omega)]
  exact ⟨rfl, rfl⟩
theorem neg_div {v : Int32} (hv : v < 0) (c : Nat) (h1 : 1 ≤ c) (h5 : c ≤ 5) : ¬ v / nI 10 = nI c := by
  intro e
  have e2 := congrArg Int32.toInt e
  have lt : v.toInt < 0 := Int32.lt_iff_toInt_lt.mp hv
  rw [Int32.toInt_div_of_ne_right _ _ (by decide), show (nI 10).toInt = 10 by decide] at e2
  have np : 0 ≤ (-v.toInt).tdiv 10 := Int.tdiv_nonneg (by omega) (by omega)
  rw [Int.neg_tdiv] at np
  have c5 : c = 1 ∨ c = 2 ∨ c = 3 ∨ c = 4 ∨ c = 5 := by omega
  rcases c5 with rfl | rfl | rfl | rfl | rfl
  · rw [show (nI 1).toInt = 1 by decide] at e2; omega
  · rw [show (nI 2).toInt = 2 by decide] at e2; omega
  · rw [show (nI 3).toInt = 3 by decide] at e2; omega
  · rw [show (nI 4).toInt = 4 by decide] at e2; omega
  · rw [show (nI 5).toInt = 5 by decide] at e2; omega
theorem fl_neg {d : Nat} {v : Int32} {h : pm_Hp} (hd : 1 ≤ d) (hv : v < 0) : (∃ r, pm_ev d 295 [.int v, .int (nI 10)] h = some (r, h)) ∧ ∃ r, pm_ev d 294 [.int v, .int (nI 10)] h = some (r, h) ∧ ¬ r = 1 ∧ ¬ r = nI 3 ∧ ¬ r = nI 4 := by
  obtain ⟨d, rfl, -⟩ := dpos hd
  have e1 : (1 : Int32) = nI 1 := rfl
  refine ⟨?_, ?_⟩
  · rw [e_J9_floorMod_7cf53, if_neg (by decide)]
    by_cases a : v ^^^ nI 10 < 0
    · rw [if_pos a]
      by_cases b : v - v / nI 10 * nI 10 = 0
      · rw [if_pos b]; exact ⟨_, rfl⟩
      · rw [if_neg b]; exact ⟨_, rfl⟩
    · rw [if_neg a]; exact ⟨_, rfl⟩
  · have d0 : ¬ v / nI 10 = 1 ∧ ¬ v / nI 10 = nI 3 ∧ ¬ v / nI 10 = nI 4 := ⟨neg_div hv 1 (by omega) (by omega), neg_div hv 3 (by omega) (by omega), neg_div hv 4 (by omega) (by omega)⟩
    have sb : ∀ c : Nat, v / nI 10 - 1 = nI c → v / nI 10 = nI (c + 1) := fun c e => by
      have : v / nI 10 = (v / nI 10 - 1) + 1 := by rw [Int32.sub_add_cancel]
      rw [this, e, nI_1]
    have d1 : ¬ v / nI 10 - 1 = 1 ∧ ¬ v / nI 10 - 1 = nI 3 ∧ ¬ v / nI 10 - 1 = nI 4 := ⟨fun e => neg_div hv 2 (by omega) (by omega) (sb 1 e), fun e => neg_div hv 4 (by omega) (by omega) (sb 3 e), fun e => neg_div hv 5 (by omega) (by omega) (sb 4 e)⟩
    rw [e_J9_floorDiv_7cf53, if_neg (by decide)]
    by_cases a : v ^^^ nI 10 < 0
    · rw [if_pos a]
      by_cases b : v / nI 10 * nI 10 = v
      · rw [if_pos b]; exact ⟨_, rfl, d0⟩
      · rw [if_neg b]; exact ⟨_, rfl, d1⟩
    · rw [if_neg a]; exact ⟨_, rfl, d0⟩
/-- the model: what is no question of a plan, and what is -/
theorem mplan_no {d : Nat} {v : Int32} (hd : 1 ≤ d) (a20 : ¬ (¬ v < nI 20 ∧ v ≤ nI 20 + h 170 328)) (a10 : ¬ (¬ v < nI 10 ∧ v ≤ nI 9 + h 170 328)) (a30 : ¬ (¬ v < nI 30 ∧ v ≤ nI 29 + h 170 328)) (a40 : ¬ (¬ v < nI 40 ∧ v ≤ nI 39 + h 170 328)) (a01 : ¬ (¬ v < 0 ∧ v ≤ 1)) (a50 : ¬ (¬ v < nI 50 ∧ v ≤ nI 49 + h 170 324)) : pm_ev (d + 1) 267 [.ref 169, .int v] h = some (-1, h) := by
  rw [e_X10_plan, m_isIn hd, pm_bd_s, b2_f a20, if_pos rfl, m_isIn hd, pm_bd_s, b2_f a10, if_pos rfl, m_isIn hd, pm_bd_s, b2_f a30, if_pos rfl, m_isIn hd, pm_bd_s, b2_f a40, if_pos rfl, m_isIn hd, pm_bd_s, b2_f a01, if_pos rfl, m_isIn hd, pm_bd_s, b2_f a50, if_pos rfl]
theorem mplan_go {d : Nat} {v : Int32} (hd : 1 ≤ d) (a20 : ¬ (¬ v < nI 20 ∧ v ≤ nI 20 + h 170 328)) (ok : (¬ v < nI 10 ∧ v ≤ nI 9 + h 170 328) ∨ (¬ v < nI 30 ∧ v ≤ nI 29 + h 170 328) ∨ (¬ v < nI 40 ∧ v ≤ nI 39 + h 170 328) ∨ (¬ v < 0 ∧ v ≤ 1) ∨ (¬ v < nI 50 ∧ v ≤ nI 49 + h 170 324)) : pm_ev (d + 1) 267 [.ref 169, .int v] h = pm_bd (pm_ev d 263 [.ref 169] h) fun r7 y7 => if r7 = 0 then (some ((-1), y7)) else (pm_bd (pm_ev d 266 [.ref 169, .int v] y7) fun r8 y8 => some (r8, y8)) := by
  rw [e_X10_plan, m_isIn hd, pm_bd_s, b2_f a20, if_pos rfl, m_isIn hd, pm_bd_s]
  by_cases a10 : ¬ v < nI 10 ∧ v ≤ nI 9 + h 170 328
  · rw [b2_t a10, if_neg (by decide), m_isIn hd, pm_bd_s]
    by_cases a01 : ¬ v < 0 ∧ v ≤ 1
    · rw [b2_t a01, if_neg (by decide)]
    · rw [b2_f a01, if_pos rfl]
  rw [b2_f a10, if_pos rfl, m_isIn hd, pm_bd_s]
  by_cases a30 : ¬ v < nI 30 ∧ v ≤ nI 29 + h 170 328
  · rw [b2_t a30, if_neg (by decide), m_isIn hd, pm_bd_s]
    by_cases a01 : ¬ v < 0 ∧ v ≤ 1
    · rw [b2_t a01, if_neg (by decide)]
    · rw [b2_f a01, if_pos rfl]
  rw [b2_f a30, if_pos rfl, m_isIn hd, pm_bd_s]
  by_cases a40 : ¬ v < nI 40 ∧ v ≤ nI 39 + h 170 328
  · rw [b2_t a40, if_neg (by decide), m_isIn hd, pm_bd_s]
    by_cases a01 : ¬ v < 0 ∧ v ≤ 1
    · rw [b2_t a01, if_neg (by decide)]
    · rw [b2_f a01, if_pos rfl]
  rw [b2_f a40, if_pos rfl, m_isIn hd, pm_bd_s]
  by_cases a01 : ¬ v < 0 ∧ v ≤ 1
  · rw [b2_t a01, if_neg (by decide)]
  rw [b2_f a01, if_pos rfl, m_isIn hd, pm_bd_s]
  have a50 : ¬ v < nI 50 ∧ v ≤ nI 49 + h 170 324 := ((((ok.resolve_left a10).resolve_left a30).resolve_left a40).resolve_left a01)
  rw [b2_t a50, if_neg (by decide)]
end
