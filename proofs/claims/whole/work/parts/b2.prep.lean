/-! THE CLASS MAKES THE PLAN -/
def chP (h : pm_Hp) (v : Nat → Int32) (i j : Nat) : Prop := wsc h i + 1 = wsc h j ∧ wac h i = wac h j ∧ ¬ v i = v j
noncomputable def chI (h : pm_Hp) (v : Nat → Int32) (i j n : Nat) : Nat := ck (chP h v i j) (n + 1) n
noncomputable def chg (h : pm_Hp) (v : Nat → Int32) (M : Nat) : Nat := itr (fun i n => itr (chI h v i) (i + 1) (M - (i + 1)) n) 0 M 0
theorem itr_cq {α : Type} {g g' : Nat → α → α} : ∀ (n i : Nat) (a : α), (∀ t s, i ≤ t → t < i + n → g t s = g' t s) → itr g i n a = itr g' i n a := by
  intro n
  induction n with
  | zero => intro i a _; rfl
  | succ n ih =>
    intro i a h
    show itr g (i + 1) n (g i a) = itr g' (i + 1) n (g' i a)
    rw [h i a (Nat.le_refl _) (by omega)]
    exact ih (i + 1) _ (fun t s h1 h2 => h t s (by omega) (by omega))
theorem chg_cg {h h' : pm_Hp} {v v' : Nat → Int32} {M : Nat} (e : h' 170 = h 170) (ev : ∀ k, k < M → v' k = v k) : chg h' v' M = chg h v M := by
  unfold chg
  refine itr_cq M 0 0 (fun i n h1 h2 => itr_cq _ _ _ (fun j n h3 h4 => ?_))
  unfold chI chP wsc wac
  rw [e, ev i (by omega), ev j (by omega)]
theorem c_changes {A N M d : Nat} {h : pm_Hp} (hd : 1 ≤ d) (hA : A ≤ 6) (S : SN A N M h) (e5 : h 150 5 = nI M) : pm_ev d 60 [.ref 150, .ref 32] h = some (nI (chg h (h 151) M), h) := by
  obtain ⟨d, rfl, -⟩ := dpos hd
  have hM := S.2.1
  have hN := S.1
  rw [e_X4_countChanges]
  have inn : ∀ (m i j n : Nat), i < M → j + m = M → i < j → pm_rn d kX4_countChanges 17 [.ref 150, .ref 32, .int (nI n), .int (nI i), .int (nI j)] [] h = pm_rn d kX4_countChanges 4 [.ref 150, .ref 32, .int (nI (itr (chI h (h 151) i) j m n)), .int (nI (i + 1)), .int (nI M)] [] h := by
    intro m
    induction m with
    | zero =>
      intro i j n hi hj hij
      have : j = M := by omega
      subst this
      rw [b_X4_countChanges_17, e5, if_neg (nI_nlt (by omega) (by omega)), nI_1]
      rfl
    | succ m ih =>
      intro i j n hi hj hij
      obtain ⟨w1, w2, w3, w4, w5, w6, w7⟩ := S.wr hA hi
      obtain ⟨x1, x2, x3, x4, x5, x6, x7⟩ := S.wr hA (show j < M by omega)
      obtain ⟨d0, d1⟩ := ap_0 (wsc h j) (by omega) (wsc h i) (by omega)
      have st : ∀ n', chI h (h 151) i j n = n' → pm_rn d kX4_countChanges 17 [.ref 150, .ref 32, .int (nI n'), .int (nI i), .int (nI (j + 1))] [] h = pm_rn d kX4_countChanges 4 [.ref 150, .ref 32, .int (nI (itr (chI h (h 151) i) j (m + 1) n)), .int (nI (i + 1)), .int (nI M)] [] h := fun n' hn => by
        rw [ih i (j + 1) n' hi (by omega) (by omega), ← hn]
        rfl
      rw [b_X4_countChanges_17, e5, if_pos (nI_lt (by omega) (by omega)), pm_at_c (by omega) (by omega), pm_at_c (by omega) (by omega), w5, x5, pm_at_c (by omega) (by omega), pm_at_c (by omega) (by omega), w6, x6, pm_at_c (by omega) (by omega), pm_at_c (by omega) (by omega), nI_ite (by omega) (by omega), nI_1, nI_1]
      by_cases g1 : wsc h i + 1 = wsc h j
      · rw [if_pos (d1.mpr g1)]
        by_cases g2 : wac h i = wac h j
        · rw [if_pos g2]
          by_cases g3 : h 151 i = h 151 j
          · rw [if_pos g3]
            exact st n (ck_f (fun z => z.2.2 g3))
          · rw [if_neg g3]
            exact st (n + 1) (ck_t ⟨g1, g2, g3⟩)
        · rw [if_neg g2]
          exact st n (ck_f (fun z => g2 z.2.1))
      · rw [if_neg (fun z => g1 (d1.mp z))]
        exact st n (ck_f (fun z => g1 z.1))
  have out : ∀ (m i n : Nat) (u : Value), i + m = M → pm_rn d kX4_countChanges 4 [.ref 150, .ref 32, .int (nI n), .int (nI i), u] [] h = some (nI (itr (fun i n => itr (chI h (h 151) i) (i + 1) (M - (i + 1)) n) i m n), h) := by
    intro m
    induction m with
    | zero =>
      intro i n u hi
      rw [b_X4_countChanges_4, e5, if_neg (nI_nlt (by omega) (by omega))]
      rfl
    | succ m ih =>
      intro i n u hi
      rw [b_X4_countChanges_4, e5, if_pos (nI_lt (by omega) (by omega)), nI_1, inn (M - (i + 1)) i (i + 1) n (by omega) (by omega) (by omega), ih (i + 1) _ _ (by omega)]
      rfl
  exact out M 0 0 .null (by omega)
noncomputable def PS (T M n0 : Nat) (L0 : Nat → Ln) (n1 : Nat) (L1 : Nat → Ln) (h : pm_Hp) : Sr := exs T (cdw h) (cow n0 L0 h) (gtw n1 L1 h) M 0 (fun _ => 0) 0 s00
def PD (T M n0 : Nat) (L0 : Nat → Ln) (n1 : Nat) (L1 : Nat → Ln) (h : pm_Hp) : Prop := PRw T M (cdw h) (cow n0 L0 h) (gtw n1 L1 h) h ∧ h 150 1 = b2 ((PS T M n0 L0 n1 L1 h).1 = true) ∧ ((PS T M n0 L0 n1 L1 h).1 = true → h 150 2 = nI (PS T M n0 L0 n1 L1 h).2.1 ∧ (∀ k, k < M → h 151 k = nI ((PS T M n0 L0 n1 L1 h).2.2 k)) ∧ h 150 3 = nI (chg h (h 151) M))
theorem fun3 {h h' : pm_Hp} {n0 n1 : Nat} {L0 L1 : Nat → Ln} (e : h' 170 = h 170) : cdw h' = cdw h ∧ cow n0 L0 h' = cow n0 L0 h ∧ gtw n1 L1 h' = gtw n1 L1 h := ⟨funext fun i => funext fun t => cdw_eq e i t, funext fun i => funext fun t => cow_cg e i t, funext fun i => funext fun a => funext fun j => funext fun b => gtw_eq e i a j b⟩
theorem PS_eq {T M n0 n1 : Nat} {L0 L1 : Nat → Ln} {h h' : pm_Hp} (e : h' 170 = h 170) : PS T M n0 L0 n1 L1 h' = PS T M n0 L0 n1 L1 h := by
  obtain ⟨a, b, c⟩ := fun3 (n0 := n0) (n1 := n1) (L0 := L0) (L1 := L1) e
  unfold PS
  rw [a, b, c]
theorem PD.eq {T M n0 n1 : Nat} {L0 L1 : Nat → Ln} {h h' : pm_Hp} (e : h' 170 = h 170) (e0 : ∀ j, j ≠ 13 → h' 150 j = h 150 j) (er : ∀ a, 151 ≤ a → a ≤ 154 → h' a = h a) (P : PD T M n0 L0 n1 L1 h) : PD T M n0 L0 n1 L1 h' := by
  obtain ⟨a, b, c⟩ := fun3 (n0 := n0) (n1 := n1) (L0 := L0) (L1 := L1) e
  obtain ⟨p1, p2, p3⟩ := P
  unfold PD
  rw [PS_eq e, a, b, c, e0 1 (by omega), e0 2 (by omega), e0 3 (by omega), er 151 (by omega) (by omega), chg_cg (v' := h 151) (v := h 151) e (fun _ _ => rfl)]
  exact ⟨p1.to (e0 5 (by omega)) (e0 6 (by omega)) (er 152 (by omega) (by omega)) (er 153 (by omega) (by omega)) (er 154 (by omega) (by omega)), p2, p3⟩
theorem c_prep {T R A n0 n1 q N M d : Nat} {L0 L1 : Nat → Ln} {h : pm_Hp} (hd : 16 ≤ d) (F : FS T R A n0 n1 q N M L0 L1 h) (e0 : h 150 0 = 0) : ∃ h', pm_ev d 54 [.ref 150, .ref 1] h = some (0, h') ∧ PFr h h' ∧ h' 150 0 = 1 ∧ PD T M n0 L0 n1 L1 h' := by
  obtain ⟨d, rfl, -⟩ := dpos hd
  have hA := F.2.1.1
  have hT := F.1.1.1
  have hM := F.2.2.2.2.1.2.1
  have eM : h 32 5 = nI M := F.2.2.2.2.1.2.2.2.2.1
  have eT : h 1 11 = nI T := F.1.1.2.2.2.1
  rw [e_X4_prepare, if_pos e0, eM, eT]
  have fin : ∀ g : pm_Hp, PFr h g → PRw T M (cdw h) (cow n0 L0 h) (gtw n1 L1 h) g → ∃ h', (pm_bd (pm_ev d 61 [.ref 150] g) fun _ y1 => pm_bd (pm_ev d 62 [.ref 150] y1) fun r2 y2 => pm_bw r2 (pm_bd (pm_ev d 155 [.ref 164, .ref 151] (pm_up (pm_up y2 150 1 r2) 150 2 (y2 150 13))) fun _ y3 => pm_bd (pm_ev d 60 [.ref 150, .ref 32] y3) fun r4 y4 => some ((0 : Int32), (pm_up (pm_up y4 150 3 r4) 150 0 1)))) = some (0, h') ∧ PFr h h' ∧ h' 150 0 = 1 ∧ PD T M n0 L0 n1 L1 h' := fun g G R => by
    obtain ⟨y1, a1, a2, a3⟩ := c_startS (d := d) (by omega) hM R
    have n1_ : ∀ a, (a < 156 ∨ 161 < a) → y1 a = g a := a2
    have R1 : PRw T M (cdw h) (cow n0 L0 h) (gtw n1 L1 h) y1 := R.to (by rw [n1_ 150 (by omega)]) (by rw [n1_ 150 (by omega)]) (n1_ 152 (by omega)) (n1_ 153 (by omega)) (n1_ 154 (by omega))
    have L1' : ∀ p j, p ≤ j → j < M → bs T (y1 (156 + p) j) (cdw h j) := fun p j h1 h2 => by
      rw [a3 p j (by omega) h2]
      exact R.2.2.1 j h2
    obtain ⟨y2, b1, b2_, b3⟩ := c_searchAll (d := d) (by omega) hT hM (fun i t => cow_lh i t) (fun _ _ z => z) R1 L1'
    have hs : exs T (cdw h) (cow n0 L0 h) (gtw n1 L1 h) M 0 (fun _ => 0) 0 s00 = PS T M n0 L0 n1 L1 h := rfl
    rw [hs] at b1 b3
    rw [a1, pm_bd_s, b1, pm_bd_s]
    have bw : ∀ x : pm_Rs, pm_bw (b2 ((PS T M n0 L0 n1 L1 h).1 = true)) x = x := fun x => by
      by_cases z : (PS T M n0 L0 n1 L1 h).1 = true
      · rw [b2_t z, pm_bw_1]
      · rw [b2_f z, pm_bw_0]
    rw [bw, r_164_151 (by omega), pm_bd_s]
    generalize hy3 : pm_cp (pm_up (pm_up y2 150 1 (b2 ((PS T M n0 L0 n1 L1 h).1 = true))) 150 2 (y2 150 13)) 164 151 0 0 6 = y3
    have y3o : ∀ a, a ≠ 150 → a ≠ 151 → y3 a = y2 a := fun a x y => by rw [← hy3, cp_a y, pm_up_n x, pm_up_n x]
    have y3j : ∀ j, j ≠ 1 → j ≠ 2 → y3 150 j = y2 150 j := fun j x y => by rw [← hy3, cp_a (by omega), pm_up_j y, pm_up_j x]
    have G2 : PFr h y2 := fun k x y z w => by rw [b2_.1 k (by omega), n1_ k (by omega)]; exact G k x y z w
    have G3 : PFr h y3 := fun k x y z w => by rw [y3o k (by omega) (by omega)]; exact G2 k x y z w
    have e170 : y3 170 = h 170 := G3 170 (by omega) (by omega) (by omega) (by omega)
    have e5 : y3 150 5 = nI M := by rw [y3j 5 (by omega) (by omega), b2_.2.1 5 (by omega)]; exact R1.1
    rw [c_changes (by omega) hA (F.pf G3).2.2.2.2.1 e5, pm_bd_s]
    refine ⟨_, rfl, (G3.up (by omega)).up (by omega), pm_up_s, ?_⟩
    generalize hz : pm_up (pm_up y3 150 3 (nI (chg y3 (y3 151) M))) 150 0 1 = z
    have zo : ∀ a, a ≠ 150 → z a = y3 a := fun a x => by rw [← hz, pm_up_n x, pm_up_n x]
    have zj : ∀ j, j ≠ 0 → j ≠ 3 → z 150 j = y3 150 j := fun j x y => by rw [← hz, pm_up_j x, pm_up_j y]
    have z170 : z 170 = h 170 := by rw [zo 170 (by omega)]; exact e170
    have Rz : PRw T M (cdw h) (cow n0 L0 h) (gtw n1 L1 h) z := R1.to (by rw [zj 5 (by omega) (by omega), e5]; exact R1.1.symm) (by rw [zj 6 (by omega) (by omega), y3j 6 (by omega) (by omega), b2_.2.1 6 (by omega)]) (by rw [zo 152 (by omega), y3o 152 (by omega) (by omega), b2_.1 152 (by omega)]) (by rw [zo 153 (by omega), y3o 153 (by omega) (by omega), b2_.1 153 (by omega)]) (by rw [zo 154 (by omega), y3o 154 (by omega) (by omega), b2_.1 154 (by omega)])
    obtain ⟨q1, q2, q3⟩ := fun3 (n0 := n0) (n1 := n1) (L0 := L0) (L1 := L1) z170
    unfold PD
    rw [PS_eq z170, q1, q2, q3]
    refine ⟨Rz, ?_, fun s1 => ⟨?_, fun k hk => ?_, ?_⟩⟩
    · rw [zj 1 (by omega) (by omega), ← hy3, cp_a (by omega), pm_up_j (by omega), pm_up_s]
    · rw [zj 2 (by omega) (by omega), ← hy3, cp_a (by omega), pm_up_s, b3.1, if_pos s1]
    · rw [zo 151 (by omega), ← hy3, cp_b (by omega), pm_up_n (by omega), pm_up_n (by omega)]
      exact (b3.2 s1).2 k (Nat.zero_le k) hk
    · rw [zo 151 (by omega), chg_cg (v' := y3 151) (v := y3 151) (zo 170 (by omega)) (fun _ _ => rfl), ← hz, pm_up_j (by omega), pm_up_s]
  /- wears against wears -/
  have rel : ∀ (m i : Nat) (g : pm_Hp) (u : Value), i + m = M → PFr h g → g 150 5 = nI M → g 150 6 = nI T → (∀ x, x < M → bs T (g 152 x) (cdw h x)) → (∀ x t, x < M → t < T → cdw h x t → g 153 (x * 16 + t) = nI (cow n0 L0 h x t)) → (∀ x t j, x < i → x < j → j < M → t < T → cdw h x t → bs T (g 154 ((x * 16 + t) * 6 + j)) (fun b => cdw h j b ∧ gtw n1 L1 h x t j b)) → ∃ h', pm_rn d kX4_prepare 51 [.ref 150, .ref 1, .int (nI i), u] [] g = some (0, h') ∧ PFr h h' ∧ h' 150 0 = 1 ∧ PD T M n0 L0 n1 L1 h' := by
    intro m
    induction m with
    | zero =>
      intro i g u hi G E5 E6 B C D
      rw [b_X4_prepare_51, E5, if_neg (nI_nlt (by omega) (by omega))]
      exact fin g G ⟨E5, E6, B, C, fun x t j h1 h2 h3 h4 => D x t j (by omega) h1 h2 h3 h4⟩
    | succ m ih =>
      intro i g u hi G E5 E6 B C D
      have inn : ∀ (mm j : Nat) (y : pm_Hp), j + mm = M → i < j → PFr h y → y 150 5 = nI M → y 150 6 = nI T → (∀ x, x < M → bs T (y 152 x) (cdw h x)) → (∀ x t, x < M → t < T → cdw h x t → y 153 (x * 16 + t) = nI (cow n0 L0 h x t)) → (∀ x t k, x < i → x < k → k < M → t < T → cdw h x t → bs T (y 154 ((x * 16 + t) * 6 + k)) (fun b => cdw h k b ∧ gtw n1 L1 h x t k b)) → (∀ t k, i < k → k < j → t < T → cdw h i t → bs T (y 154 ((i * 16 + t) * 6 + k)) (fun b => cdw h k b ∧ gtw n1 L1 h i t k b)) → ∃ h', pm_rn d kX4_prepare 63 [.ref 150, .ref 1, .int (nI i), .int (nI j)] [] y = some (0, h') ∧ PFr h h' ∧ h' 150 0 = 1 ∧ PD T M n0 L0 n1 L1 h' := by
        intro mm
        induction mm with
        | zero =>
          intro j y hj hij G E5 E6 B C D D2
          have : j = M := by omega
          subst this
          rw [b_X4_prepare_63, E5, if_neg (nI_nlt (by omega) (by omega)), nI_1]
          refine ih (i + 1) y _ (by omega) G E5 E6 B C (fun x t k h1 h2 h3 h4 h5 => ?_)
          by_cases e : x = i
          · rw [e] at h5 h2 ⊢; exact D2 t k h2 h3 h4 h5
          · exact D x t k (by omega) h2 h3 h4 h5
        | succ mm ih2 =>
          intro j y hj hij G E5 E6 B C D D2
          have e170 : y 170 = h 170 := G 170 (by omega) (by omega) (by omega) (by omega)
          obtain ⟨q1, q2, q3⟩ := fun3 (n0 := n0) (n1 := n1) (L0 := L0) (L1 := L1) e170
          obtain ⟨z, z1, z2, z3, z4, z5⟩ := c_relate (d := d) (i := i) (j := j) (by omega) (F.pf G) hij (by omega) E6 (by rw [q1]; exact B i (by omega)) (by rw [q1]; exact B j (by omega))
          rw [q1, q3] at z5
          rw [b_X4_prepare_63, E5, if_pos (nI_lt (by omega) (by omega)), z1, pm_bd_s, nI_1]
          have z150 : z 150 = y 150 := z3 150 (by omega) (by omega) (by omega)
          refine ih2 (j + 1) z (by omega) (by omega) (G.tr z2) (by rw [z150]; exact E5) (by rw [z150]; exact E6) (fun x hx => by rw [z3 152 (by omega) (by omega) (by omega)]; exact B x hx) (fun x t h1 h2 h3 => by rw [z3 153 (by omega) (by omega) (by omega)]; exact C x t h1 h2 h3) (fun x t k h1 h2 h3 h4 h5 => ?_) (fun t k h1 h2 h3 h4 => ?_)
          · rw [z4 _ (fun t' ht' => by omega)]; exact D x t k h1 h2 h3 h4 h5
          · by_cases e : k = j
            · rw [e]; exact z5 t h3 h4
            · rw [z4 _ (fun t' ht' => by omega)]; exact D2 t k h1 (by omega) h3 h4
      rw [b_X4_prepare_51, E5, if_pos (nI_lt (by omega) (by omega)), nI_1]
      exact inn (M - (i + 1)) (i + 1) g (by omega) (by omega) G E5 E6 B C D (fun t k h1 h2 => by omega)
  have cnd : ∀ (m i : Nat) (g : pm_Hp) (u : Value), i + m = M → PFr h g → g 150 5 = nI M → g 150 6 = nI T → (∀ x, x < i → bs T (g 152 x) (cdw h x)) → (∀ x t, x < i → t < T → cdw h x t → g 153 (x * 16 + t) = nI (cow n0 L0 h x t)) → ∃ h', pm_rn d kX4_prepare 29 [.ref 150, .ref 1, .int (nI i), u] [] g = some (0, h') ∧ PFr h h' ∧ h' 150 0 = 1 ∧ PD T M n0 L0 n1 L1 h' := by
    intro m
    induction m with
    | zero =>
      intro i g u hi G E5 E6 B C
      rw [b_X4_prepare_29, E5, if_neg (nI_nlt (by omega) (by omega))]
      exact rel M 0 g u (by omega) G E5 E6 (fun x hx => B x (by omega)) (fun x t h1 => C x t (by omega)) (fun x t j h1 => absurd h1 (Nat.not_lt_zero x))
    | succ m ih =>
      intro i g u hi G E5 E6 B C
      have e170 : g 170 = h 170 := G 170 (by omega) (by omega) (by omega) (by omega)
      obtain ⟨q1, q2, q3⟩ := fun3 (n0 := n0) (n1 := n1) (L0 := L0) (L1 := L1) e170
      obtain ⟨z, z1, z2, z3, z4, z5, z6, z7⟩ := c_cand (d := d) (i := i) (by omega) (F.pf G) (by omega) E6
      rw [q1] at z6 z7
      rw [q2] at z7
      have z150 : z 150 = g 150 := z3 150 (by omega) (by omega) (by omega) (by omega)
      rw [b_X4_prepare_29, E5, if_pos (nI_lt (by omega) (by omega)), z1, pm_bd_s, nI_1]
      refine ih (i + 1) z u (by omega) (G.tr z2) (by rw [z150]; exact E5) (by rw [z150]; exact E6) (fun x hx => ?_) (fun x t h1 h2 h3 => ?_)
      · by_cases e : x = i
        · rw [e]; exact z6
        · rw [z4 x e]; exact B x (by omega)
      · by_cases e : x = i
        · rw [e] at h3 ⊢; exact z7 t h2 h3
        · rw [z5 _ (by omega)]; exact C x t (by omega) h2 h3
  exact cnd M 0 _ .null (by omega) ((PFr.rf.up (by omega)).up (by omega)) (by rw [pm_up_j (by omega), pm_up_s]) pm_up_s (fun x hx => absurd hx (Nat.not_lt_zero x)) (fun x t hx => absurd hx (Nat.not_lt_zero x))
