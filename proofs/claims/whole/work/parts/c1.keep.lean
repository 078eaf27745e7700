/-! NO CALL TOUCHES WHAT LIES BEHIND THE OBJECTS (ids 186 and on) -/
def k185 (h h' : pm_Hp) : Prop := ∀ k, 186 ≤ k → h' k = h k
def cGd (mj : Nat) : Prop := mj < 309 ∧ (pm_m mj).2.2.2.2.2.2.1 ≠ 2
def acK (h : pm_Hp) (a : pm_Ac) : Prop := match a with
  | .inl none => True
  | .inl (some q) => k185 h q.2
  | .inr (.inl (_, _, _, h')) => k185 h h'
  | .inr (.inr (mj, _)) => cGd mj
theorem pm_ob_hi {k : Nat} (hk : 186 ≤ k) : (pm_ob k).1 = 99 := by
  have e : ∀ n, n < 186 → Nat.ble k n = false := by
    intro n hn
    cases hb : Nat.ble k n with
    | false => rfl
    | true => exact absurd (Nat.le_of_ble_eq_true hb) (by omega)
  have e1 : Nat.beq k 185 = false := by
    cases hb : Nat.beq k 185 with
    | false => rfl
    | true => exact absurd (Nat.eq_of_beq_eq_true hb) (by omega)
  unfold pm_ob
  simp only [e 92 (by omega), e 138 (by omega), e 161 (by omega), e 173 (by omega), e 179 (by omega), e 182 (by omega), e 183 (by omega), e 184 (by omega), e1, cond_false]
theorem ob_lo {k n : Nat} (hn : n ≠ 99) (h : Nat.beq (pm_ob k).1 n = true) : k < 186 := by
  have h1 := Nat.eq_of_beq_eq_true h
  by_cases hk : k < 186
  · exact hk
  · rw [pm_ob_hi (by omega)] at h1; exact absurd h1.symm hn
theorem k185_up {h : pm_Hp} {k j : Nat} {v : Int32} (hk : k < 186) : k185 h (pm_up h k j v) := by
  intro a ha
  funext b
  show (if a = k ∧ b = j then v else h a b) = h a b
  rw [if_neg (by omega)]
theorem k185_cp {h : pm_Hp} {k0 k1 sp dp n : Nat} (hk : k1 < 186) : k185 h (pm_cp h k0 k1 sp dp n) := by
  intro a ha
  funext b
  show (if a = k1 ∧ dp ≤ b ∧ b < dp + n then h k0 (sp + (b - dp)) else h a b) = h a b
  rw [if_neg (by omega)]
theorem k185.refl (h : pm_Hp) : k185 h h := fun _ _ => rfl
theorem k185.trans {h h1 h2 : pm_Hp} (a : k185 h h1) (b : k185 h1 h2) : k185 h h2 := fun k hk => (b k hk).trans (a k hk)
theorem acK_b {h : pm_Hp} {b : Bool} {x y : pm_Ac} (hx : b = true → acK h x) (hy : b = false → acK h y) : acK h (bif b then x else y) := by
  cases b with
  | true => exact hx rfl
  | false => exact hy rfl
theorem acK_i {h : pm_Hp} {c : Prop} [Decidable c] {x y : pm_Ac} (hx : c → acK h x) (hy : ¬ c → acK h y) : acK h (if c then x else y) := by
  by_cases e : c
  · rw [if_pos e]; exact hx e
  · rw [if_neg e]; exact hy e
theorem acK_sa (h : pm_Hp) (ls st : List Value) (d : Nat) (x : Int32) : ∀ (ks : List Int32) (ts : List Nat), acK h (pm_sa ls st h d x ks ts)
  | [], _ => fun _ _ => rfl
  | _ :: _, [] => fun _ _ => rfl
  | k :: ks, t :: ts => by
    unfold pm_sa
    exact acK_i (fun _ => fun _ _ => rfl) (fun _ => acK_sa h ls st d x ks ts)
theorem acK_ca {h : pm_Hp} {ok : List Value → Bool} {nx : Nat} {st : List Value} {mj na rk : Nat} (g : cGd mj) : acK h (pm_ca ok nx st mj na rk) := by
  unfold pm_ca
  exact acK_b (fun _ => g) (fun _ => trivial)
theorem act_K {oc : Nat} {rt : Option FieldType} {pc len : Nat} {ri : pm_RI} (hok : pm_ok oc rt pc len ri = true) (ls st : List Value) (h : pm_Hp) : acK h (pm_act ri ls st h) := by
  obtain ⟨I, nx, c, xs, ks⟩ := ri
  cases I with
  | tableswitch d lo hi offs =>
    dsimp only [pm_act]
    split
    · exact acK_sa _ _ _ _ _ _ _
    · trivial
  | lookupswitch d ps =>
    dsimp only [pm_act]
    split
    · exact acK_sa _ _ _ _ _ _ _
    · trivial
  | if_icmp q f =>
    dsimp only [pm_act]
    split
    · cases q <;> exact acK_i (fun _ => fun _ _ => rfl) (fun _ => fun _ _ => rfl)
    · trivial
  | ifCond q f =>
    dsimp only [pm_act]
    split
    · cases q <;> exact acK_i (fun _ => fun _ _ => rfl) (fun _ => fun _ _ => rfl)
    · trivial
  | invokevirtual i =>
    dsimp only [pm_act]
    dsimp only [pm_ok] at hok
    split
    · simp only [Bool.and_eq_true] at hok
      refine acK_ca ⟨?_, ?_⟩
      · have := Nat.le_of_ble_eq_true hok.2.2.1.1.1.1.1.2; omega
      · rw [Nat.eq_of_beq_eq_true hok.2.2.1.1.1.1.2]; decide
    · trivial
  | invokestatic i =>
    dsimp only [pm_act]
    dsimp only [pm_ok] at hok
    split
    · refine acK_b (fun h3 => ?_) (fun h3 => acK_b (fun h4 => ?_) (fun h4 => ?_))
      · split
        · refine acK_b (fun hb => acK_i (fun _ => trivial) (fun _ => ?_)) (fun _ => trivial)
          simp only [Bool.and_eq_true] at hb
          exact k185_cp (ob_lo (by decide) hb.1.1.2)
        · trivial
      · split
        · exact acK_b (fun _ => acK_i (fun _ => trivial) (fun _ => fun _ _ => rfl)) (fun _ => trivial)
        · trivial
      · dsimp only at hok
        rw [h3, h4, cond_false, cond_false] at hok
        simp only [Bool.and_eq_true] at hok
        refine acK_ca ⟨?_, ?_⟩
        · have := Nat.le_of_ble_eq_true hok.2.2.1.1.1.2; omega
        · rw [Nat.eq_of_beq_eq_true hok.2.2.1.1.2]; decide
    · trivial
  | putfield i =>
    dsimp only [pm_act]
    dsimp only [pm_ok] at hok
    split
    · rename_i v k st ci fk ft
      simp only [Bool.and_eq_true, decide_eq_true_eq] at hok
      refine acK_b (fun hb => ?_) (fun _ => trivial)
      have hk : k < 186 := by
        refine ob_lo ?_ hb
        intro e
        have h1 := hok.2.2.1.2
        rw [e] at h1
        exact absurd h1 (by rw [show pm_ft 99 = [] by decide]; simp)
      exact acK_b (fun _ => k185_up hk) (fun _ => acK_b (fun _ => acK_i (fun _ => k185_up hk) (fun _ => trivial)) (fun _ => trivial))
    · trivial
  | iastore =>
    dsimp only [pm_act]
    split
    · exact acK_b (fun hb => acK_i (fun _ => trivial) (fun _ => k185_up (ob_lo (by decide) hb))) (fun _ => trivial)
    · trivial
  | ireturn =>
    dsimp only [pm_act]
    split
    · rename_i v q
      match q with
      | 0 => exact fun _ _ => rfl
      | 1 => exact acK_i (fun _ => fun _ _ => rfl) (fun _ => trivial)
      | 2 => exact acK_i (fun _ => fun _ _ => rfl) (fun _ => trivial)
      | n + 3 => exact acK_i (fun _ => fun _ _ => rfl) (fun _ => trivial)
    · trivial
  | _ =>
    first
    | exact trivial
    | exact fun _ _ => rfl
    | (dsimp only [pm_act]; repeat (first | exact trivial | exact fun _ _ => rfl | (refine acK_i (fun _ => ?_) (fun _ => ?_)) | (refine acK_b (fun _ => ?_) (fun _ => ?_)) | split))
theorem do_K {C : pm_Cl} {go : pm_Go} (hC : ∀ mj as h q, cGd mj → C mj as h = some q → k185 h q.2) (hgo : ∀ pc ls st h q, go pc ls st h = some q → k185 h q.2) {ls : List Value} {h : pm_Hp} {a : pm_Ac} (ha : acK h a) {q : Int32 × pm_Hp} (hs : pm_do C go ls h a = some q) : k185 h q.2 := by
  match a, ha, hs with
  | .inl o, ha, hs =>
    have hs : o = some q := hs
    rw [hs] at ha
    exact ha
  | .inr (.inl (pc, ls', st, h')), ha, hs => exact k185.trans ha (hgo _ _ _ _ _ hs)
  | .inr (.inr (mj, as, rk, nx, rest)), ha, hs =>
    have hs : (C mj as h).bind (pm_ret rk nx ls rest go) = some q := hs
    cases e : C mj as h with
    | none => rw [e] at hs; cases hs
    | some r =>
      rw [e] at hs
      have hs : pm_ret rk nx ls rest go r = some q := hs
      refine k185.trans (hC _ _ _ _ ha e) ?_
      match rk, hs with
      | 0, hs => exact hgo _ _ _ _ _ hs
      | 1, hs => exact hgo _ _ _ _ _ hs
      | n + 2, hs => exact hgo _ _ _ _ _ hs
theorem run_K {C : pm_Cl} (hC : ∀ mj as h q, cGd mj → C mj as h = some q → k185 h q.2) {oc : Nat} {rt : Option FieldType} {bs : ByteArray} {cd : Nat → Option pm_RI} (hg : pm_good oc rt bs cd) : ∀ (n pc : Nat) (ls st : List Value) (h : pm_Hp) (q : Int32 × pm_Hp), pm_run C cd n pc ls st h = some q → k185 h q.2 := by
  intro n
  induction n with
  | zero => intro pc ls st h q hs; cases hs
  | succ n ih =>
    intro pc ls st h q hs
    rw [pm_run_s] at hs
    cases e : cd pc with
    | none => rw [e] at hs; cases hs
    | some ri =>
      rw [e] at hs
      obtain ⟨len, -, hok⟩ := hg pc ri e
      exact do_K hC ih (act_K hok ls st h) hs
theorem C_K : ∀ (d n mj : Nat) (as : List Value) (h : pm_Hp) (q : Int32 × pm_Hp), cGd mj → pm_C d n mj as h = some q → k185 h q.2
  | 0, _, _, _, _, _, _, hs => by cases hs
  | d + 1, n, mj, as, h, q, g, hs => run_K (C_K d n) (pm_Ga mj g.1 g.2) n _ _ _ _ _ hs
theorem ev_K {d mj : Nat} {as : List Value} {h h' : pm_Hp} {r : Int32} (g : cGd mj) (hs : pm_ev d mj as h = some (r, h')) : k185 h h' := by
  obtain ⟨n, e⟩ := pm_ev_iff.mp hs
  exact C_K d n mj as h _ g e
