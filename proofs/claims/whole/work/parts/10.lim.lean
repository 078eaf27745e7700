def pm_pad (n : Nat) (as : List Value) : List Value := as ++ List.replicate (n - as.length) .null
/-- the methods, to a depth d of calls, n steps each -/
def pm_C : Nat → Nat → pm_Cl
  | 0, _ => fun _ _ _ => none
  | d + 1, n => fun mj as h => pm_run (pm_C d n) (pm_m mj).2.2.2.2.1 n 0 (pm_pad (pm_m mj).2.2.1 as) [] h
/-- what one instruction does: it ends, goes on, or calls -/
abbrev pm_Ac : Type := pm_Rs ⊕ ((Nat × List Value × List Value × pm_Hp) ⊕ (Nat × List Value × Nat × Nat × List Value))
def pm_do (C : pm_Cl) (go : pm_Go) (ls : List Value) (h : pm_Hp) (a : pm_Ac) : pm_Rs := match a with
  | .inl o => o
  | .inr (.inl (pc, ls', st, h')) => go pc ls' st h'
  | .inr (.inr (mj, as, rk, nx, rest)) => (C mj as h).bind (pm_ret rk nx ls rest go)
def pm_ca (ok : List Value → Bool) (nx : Nat) (st : List Value) (mj na rk : Nat) : pm_Ac :=
  bif ok (st.take na).reverse && Nat.ble (st.drop na).length 8 && Nat.beq (st.take na).length na then .inr (.inr (mj, (st.take na).reverse, rk, nx, st.drop na)) else .inl none
def pm_sa (ls st : List Value) (h : pm_Hp) (d : Nat) (x : Int32) : List Int32 → List Nat → pm_Ac
  | k :: ks, t :: ts => if x = k then .inr (.inl (t, ls, st, h)) else pm_sa ls st h d x ks ts
  | _, _ => .inr (.inl (d, ls, st, h))
def pm_act (ri : pm_RI) (ls st : List Value) (h : pm_Hp) : pm_Ac :=
  match ri with
  | (I, nx, c, xs, ks) =>
  match I with
  | .iconst _ => .inr (.inl (nx, ls, (.int c :: st), h))
  | .bipush _ => .inr (.inl (nx, ls, (.int c :: st), h))
  | .sipush _ => .inr (.inl (nx, ls, (.int c :: st), h))
  | .ldc _ => (match xs with
    | [] => .inr (.inl (nx, ls, (.int c :: st), h))
    | q :: _ => .inr (.inl (nx, ls, (.ref q :: st), h)))
  | .ldc_w _ => .inr (.inl (nx, ls, (.int c :: st), h))
  | .iload_n i => (match ls[i.val]? with
    | some (.int x) => .inr (.inl (nx, ls, (.int x :: st), h))
    | _ => .inl none)
  | .iload i => (match ls[i]? with
    | some (.int x) => .inr (.inl (nx, ls, (.int x :: st), h))
    | _ => .inl none)
  | .aload_n i => (match ls[i.val]? with
    | some (.ref x) => .inr (.inl (nx, ls, (.ref x :: st), h))
    | _ => .inl none)
  | .aload i => (match ls[i]? with
    | some (.ref x) => .inr (.inl (nx, ls, (.ref x :: st), h))
    | _ => .inl none)
  | .istore_n i => (match st with
    | .int x :: st => bif Nat.ble (i.val + 1) ls.length then .inr (.inl (nx, (ls.set i.val (.int x)), st, h)) else .inl none
    | _ => .inl none)
  | .istore i => (match st with
    | .int x :: st => bif Nat.ble (i + 1) ls.length then .inr (.inl (nx, (ls.set i (.int x)), st, h)) else .inl none
    | _ => .inl none)
  | .astore_n i => (match st with
    | .ref x :: st => bif Nat.ble (i.val + 1) ls.length then .inr (.inl (nx, (ls.set i.val (.ref x)), st, h)) else .inl none
    | _ => .inl none)
  | .astore i => (match st with
    | .ref x :: st => bif Nat.ble (i + 1) ls.length then .inr (.inl (nx, (ls.set i (.ref x)), st, h)) else .inl none
    | _ => .inl none)
  | .iinc i _ => (match ls[i]? with
    | some (.int x) => .inr (.inl (nx, (ls.set i (.int (x + c))), st, h))
    | _ => .inl none)
  | .iadd => (match st with
    | .int y :: .int x :: st => .inr (.inl (nx, ls, (.int (x + y) :: st), h))
    | _ => .inl none)
  | .isub => (match st with
    | .int y :: .int x :: st => .inr (.inl (nx, ls, (.int (x - y) :: st), h))
    | _ => .inl none)
  | .imul => (match st with
    | .int y :: .int x :: st => .inr (.inl (nx, ls, (.int (x * y) :: st), h))
    | _ => .inl none)
  | .idiv => (match st with
    | .int y :: .int x :: st => if y = 0 then .inl none else .inr (.inl (nx, ls, (.int (x / y) :: st), h))
    | _ => .inl none)
  | .irem => (match st with
    | .int y :: .int x :: st => if y = 0 then .inl none else .inr (.inl (nx, ls, (.int (x - x / y * y) :: st), h))
    | _ => .inl none)
  | .ineg => (match st with
    | .int x :: st => .inr (.inl (nx, ls, (.int (-x) :: st), h))
    | _ => .inl none)
  | .iand => (match st with
    | .int y :: .int x :: st => .inr (.inl (nx, ls, (.int (x &&& y) :: st), h))
    | _ => .inl none)
  | .ior => (match st with
    | .int y :: .int x :: st => .inr (.inl (nx, ls, (.int (x ||| y) :: st), h))
    | _ => .inl none)
  | .ixor => (match st with
    | .int y :: .int x :: st => .inr (.inl (nx, ls, (.int (x ^^^ y) :: st), h))
    | _ => .inl none)
  | .ishl => (match st with
    | .int y :: .int x :: st => .inr (.inl (nx, ls, (.int (x <<< (y &&& 31)) :: st), h))
    | _ => .inl none)
  | .ishr => (match st with
    | .int y :: .int x :: st => .inr (.inl (nx, ls, (.int (x >>> (y &&& 31)) :: st), h))
    | _ => .inl none)
  | .iushr => (match st with
    | .int y :: .int x :: st => .inr (.inl (nx, ls, (.int (x.toUInt32 >>> (y.toUInt32 &&& Int32.toUInt32 31)).toInt32 :: st), h))
    | _ => .inl none)
  | .i2c => (match st with
    | .int x :: st => .inr (.inl (nx, ls, (.int (x.toUInt32 % 65536).toInt32 :: st), h))
    | _ => .inl none)
  | .i2b => (match st with
    | .int x :: st => .inr (.inl (nx, ls, (.int x.toInt8.toInt32 :: st), h))
    | _ => .inl none)
  | .dup => (match st with
    | .int x :: st => .inr (.inl (nx, ls, (.int x :: .int x :: st), h))
    | .ref x :: st => .inr (.inl (nx, ls, (.ref x :: .ref x :: st), h))
    | _ => .inl none)
  | .dup2 => (match st with
    | .int x :: .ref y :: st => .inr (.inl (nx, ls, (.int x :: .ref y :: .int x :: .ref y :: st), h))
    | _ => .inl none)
  | .pop => (match st with
    | .int _ :: st => .inr (.inl (nx, ls, st, h))
    | _ => .inl none)
  | .if_icmp q _ => (match st, xs with
    | .int y :: .int x :: st, [t] => (match q with
      | .eq => (if x = y then .inr (.inl (t, ls, st, h)) else .inr (.inl (nx, ls, st, h)))
      | .ne => (if x = y then .inr (.inl (nx, ls, st, h)) else .inr (.inl (t, ls, st, h)))
      | .lt => (if x < y then .inr (.inl (t, ls, st, h)) else .inr (.inl (nx, ls, st, h)))
      | .ge => (if x < y then .inr (.inl (nx, ls, st, h)) else .inr (.inl (t, ls, st, h)))
      | .le => (if x ≤ y then .inr (.inl (t, ls, st, h)) else .inr (.inl (nx, ls, st, h)))
      | .gt => (if x ≤ y then .inr (.inl (nx, ls, st, h)) else .inr (.inl (t, ls, st, h))))
    | _, _ => .inl none)
  | .ifCond q _ => (match st, xs with
    | .int x :: st, [t] => (match q with
      | .eq => (if x = 0 then .inr (.inl (t, ls, st, h)) else .inr (.inl (nx, ls, st, h)))
      | .ne => (if x = 0 then .inr (.inl (nx, ls, st, h)) else .inr (.inl (t, ls, st, h)))
      | .lt => (if x < 0 then .inr (.inl (t, ls, st, h)) else .inr (.inl (nx, ls, st, h)))
      | .ge => (if x < 0 then .inr (.inl (nx, ls, st, h)) else .inr (.inl (t, ls, st, h)))
      | .le => (if x ≤ 0 then .inr (.inl (t, ls, st, h)) else .inr (.inl (nx, ls, st, h)))
      | .gt => (if x ≤ 0 then .inr (.inl (nx, ls, st, h)) else .inr (.inl (t, ls, st, h))))
    | _, _ => .inl none)
  | .goto _ => (match xs with
    | [t] => .inr (.inl (t, ls, st, h))
    | _ => .inl none)
  | .tableswitch _ _ _ _ => (match st, xs with
    | .int x :: st, d :: ts => pm_sa ls st h d x ks ts
    | _, _ => .inl none)
  | .lookupswitch _ _ => (match st, xs with
    | .int x :: st, d :: ts => pm_sa ls st h d x ks ts
    | _, _ => .inl none)
  | .getstatic _ => (match xs with
    | [0] => .inr (.inl (nx, ls, (.int c :: st), h))
    | _ => .inl none)
  | .getfield _ => (match st, xs with
    | .ref k :: st, [ci, fk, ft] => (bif Nat.beq ci 20 then (bif Nat.ble 400 k && Nat.ble k 425 then (bif Nat.beq fk 0 then .inr (.inl (nx, ls, (.ref (k + 100) :: st), h)) else .inr (.inl (nx, ls, (.int 0 :: st), h))) else .inl none)
        else bif Nat.beq (pm_ob k).1 ci then (bif Nat.beq ft 2 then .inr (.inl (nx, ls, (.ref ((pm_ob k).2.2.getD fk 0) :: st), h)) else .inr (.inl (nx, ls, (.int (h k fk) :: st), h))) else .inl none)
    | _, _ => .inl none)
  | .putfield _ => (match st, xs with
    | .int v :: .ref k :: st, [ci, fk, ft] => (bif Nat.beq (pm_ob k).1 ci then (bif Nat.beq ft 0 then .inr (.inl (nx, ls, st, (pm_up h k fk v))) else bif Nat.beq ft 1 then (if v = 0 ∨ v = 1 then .inr (.inl (nx, ls, st, (pm_up h k fk v))) else .inl none) else .inl none) else .inl none)
    | _, _ => .inl none)
  | .iaload => (match st with
    | .int i :: .ref k :: st => (bif Nat.beq k 300 then (if i < 0 ∨ (h 301 0).toNatClampNeg ≤ i.toNatClampNeg then .inl none else .inr (.inl (nx, ls, (.int (h 300 i.toNatClampNeg) :: st), h)))
        else bif Nat.beq (pm_ob k).1 11 then (if i < 0 ∨ (pm_ob k).2.1 ≤ i.toNatClampNeg then .inl none else .inr (.inl (nx, ls, (.int (h k i.toNatClampNeg) :: st), h))) else .inl none)
    | _ => .inl none)
  | .aaload => (match st with
    | .int i :: .ref k :: st => (bif Nat.beq (pm_ob k).1 12 || Nat.beq (pm_ob k).1 13 then (if i < 0 ∨ (pm_ob k).2.1 ≤ i.toNatClampNeg then .inl none else .inr (.inl (nx, ls, (.ref ((pm_ob k).2.2.getD i.toNatClampNeg 0) :: st), h))) else .inl none)
    | _ => .inl none)
  | .baload => (match st with
    | .int i :: .ref k :: st => (bif Nat.ble 500 k && Nat.ble k 525 then (if i < 0 ∨ (lenJS.getD (k - 500) 0) ≤ i.toNatClampNeg then .inl none else .inr (.inl (nx, ls, (.int ((bytJS.getD (k - 500) []).getD i.toNatClampNeg 0) :: st), h))) else .inl none)
    | _ => .inl none)
  | .iastore => (match st with
    | .int v :: .int i :: .ref k :: st => (bif Nat.beq (pm_ob k).1 11 then (if i < 0 ∨ (pm_ob k).2.1 ≤ i.toNatClampNeg then .inl none else .inr (.inl (nx, ls, st, (pm_up h k i.toNatClampNeg v)))) else .inl none)
    | _ => .inl none)
  | .arraylength => (match st with
    | .ref k :: st => (bif Nat.beq k 300 then .inr (.inl (nx, ls, (.int (h 301 0) :: st), h)) else bif Nat.ble 500 k && Nat.ble k 525 then .inr (.inl (nx, ls, (.int (nI (lenJS.getD (k - 500) 0)) :: st), h))
        else bif Nat.beq (pm_ob k).1 11 then .inr (.inl (nx, ls, (.int (nI (pm_ob k).2.1) :: st), h)) else .inl none)
    | _ => .inl none)
  | .invokevirtual _ => (match xs with
    | [mj, na, rk, ci] => pm_ca (pm_rc ci) nx st mj na rk
    | _ => .inl none)
  | .invokestatic _ => (match xs with
    | [mj, na, rk, _] => (bif Nat.beq rk 3 then (match st with
        | .int n :: .int dp :: .ref k1 :: .int sp :: .ref k0 :: st => (bif Nat.beq (pm_ob k0).1 11 && Nat.beq (pm_ob k1).1 11 && !(Nat.beq k0 k1) && Nat.ble st.length 8 then (if (sp < 0 ∨ dp < 0 ∨ n < 0) ∨ ¬ sp.toNatClampNeg + n.toNatClampNeg ≤ (pm_ob k0).2.1 ∨ ¬ dp.toNatClampNeg + n.toNatClampNeg ≤ (pm_ob k1).2.1 then .inl none else .inr (.inl (nx, ls, st, (pm_cp h k0 k1 sp.toNatClampNeg dp.toNatClampNeg n.toNatClampNeg)))) else .inl none)
        | _ => .inl none) else bif Nat.beq rk 4 then (match st with
        | .int n :: .int i :: st => (bif Nat.ble st.length 8 then (if i < 0 ∨ n ≤ i then .inl none else .inr (.inl (nx, ls, st, h))) else .inl none)
        | _ => .inl none) else pm_ca (fun _ => true) nx st mj na rk)
    | _ => .inl none)
  | .ireturn => (match st, xs with
    | [.int v], [q] => (match q with
      | 0 => .inl (some (v, h))
      | 1 => if v = 0 ∨ v = 1 then .inl (some (v, h)) else .inl none
      | 2 => if narrow .char (.int v) = .int v then .inl (some (v, h)) else .inl none
      | _ => if narrow .byte (.int v) = .int v then .inl (some (v, h)) else .inl none)
    | _, _ => .inl none)
  | .areturn => (match st with
    | [.ref k] => bif Nat.beq (pm_ob k).1 11 then .inl (some (nI k, h)) else .inl none
    | _ => .inl none)
  | .return_ => (match st with
    | [] => .inl (some (0, h))
    | _ => .inl none)
  | _ => .inl none
theorem pm_sa_eq (C : pm_Cl) (go : pm_Go) (ls st : List Value) (h : pm_Hp) (d : Nat) (x : Int32) (ls0 : List Value) (h0 : pm_Hp) : ∀ (ks : List Int32) (ts : List Nat), pm_sw go ls st h d x ks ts = pm_do C go ls0 h0 (pm_sa ls st h d x ks ts)
  | [], _ => rfl
  | _ :: _, [] => rfl
  | k :: ks, t :: ts => by
    unfold pm_sw pm_sa
    by_cases e : x = k
    · rw [if_pos e, if_pos e]; rfl
    · rw [if_neg e, if_neg e]; exact pm_sa_eq C go ls st h d x ls0 h0 ks ts
theorem pm_ca_eq (C : pm_Cl) (go : pm_Go) (ok : List Value → Bool) (nx : Nat) (ls st : List Value) (h : pm_Hp) (mj na rk : Nat) : pm_call C go ok nx ls st h mj na rk = pm_do C go ls h (pm_ca ok nx st mj na rk) := by
  unfold pm_call pm_ca
  cases (ok (st.take na).reverse && Nat.ble (st.drop na).length 8 && Nat.beq (st.take na).length na) <;> rfl
theorem pm_dob {C : pm_Cl} {go : pm_Go} {ls : List Value} {h : pm_Hp} (b : Bool) (x y : pm_Ac) : pm_do C go ls h (bif b then x else y) = bif b then pm_do C go ls h x else pm_do C go ls h y := by cases b <;> rfl
theorem pm_doi {C : pm_Cl} {go : pm_Go} {ls : List Value} {h : pm_Hp} (c : Prop) [Decidable c] (x y : pm_Ac) : pm_do C go ls h (if c then x else y) = if c then pm_do C go ls h x else pm_do C go ls h y := by
  by_cases e : c
  · rw [if_pos e, if_pos e]
  · rw [if_neg e, if_neg e]
theorem pm_act_eq (C : pm_Cl) (go : pm_Go) (ri : pm_RI) (ls st : List Value) (h : pm_Hp) : pm_stp C ri go ls st h = pm_do C go ls h (pm_act ri ls st h) := by
  obtain ⟨I, nx, c, xs, ks⟩ := ri
  cases I with
  | if_icmp q f =>
    dsimp only [pm_stp, pm_act]
    split
    · cases q <;> (dsimp only; unfold pm_if; rw [pm_doi]; rfl)
    · split <;> first | rfl | (exfalso; rename_i hh; apply hh <;> rfl)
  | ifCond q f =>
    dsimp only [pm_stp, pm_act]
    split
    · cases q <;> (dsimp only; unfold pm_if; rw [pm_doi]; rfl)
    · split <;> first | rfl | (exfalso; rename_i hh; apply hh <;> rfl)
  | tableswitch d lo hi offs =>
    dsimp only [pm_stp, pm_act]
    split
    · exact pm_sa_eq C go _ _ _ _ _ _ _ _ _
    · split <;> first | rfl | (exfalso; rename_i hh; apply hh <;> rfl)
  | lookupswitch d ps =>
    dsimp only [pm_stp, pm_act]
    split
    · exact pm_sa_eq C go _ _ _ _ _ _ _ _ _
    · split <;> first | rfl | (exfalso; rename_i hh; apply hh <;> rfl)
  | invokevirtual i =>
    dsimp only [pm_stp, pm_act]
    split
    · exact pm_ca_eq C go _ _ _ _ _ _ _ _
    · split <;> first | rfl | (exfalso; rename_i hh; apply hh <;> rfl)
  | invokestatic i =>
    dsimp only [pm_stp, pm_act]
    split
    · rw [pm_dob, pm_dob, ← pm_ca_eq]
      congr 1
      · split
        · rw [pm_dob, pm_doi]; rfl
        · split <;> first | rfl | (exfalso; rename_i hh; apply hh <;> rfl)
      · congr 1
        split
        · rw [pm_dob, pm_doi]; rfl
        · split <;> first | rfl | (exfalso; rename_i hh; apply hh <;> rfl)
    · split <;> first | rfl | (exfalso; rename_i hh; apply hh <;> rfl)
  | ireturn =>
    dsimp only [pm_stp, pm_act]
    split
    · rename_i v q
      match q with
      | 0 => rfl
      | 1 => exact (pm_doi (v = 0 ∨ v = 1) (.inl (some (v, h))) (.inl none)).symm
      | 2 => exact (pm_doi (narrow .char (.int v) = .int v) (.inl (some (v, h))) (.inl none)).symm
      | n + 3 => exact (pm_doi (narrow .byte (.int v) = .int v) (.inl (some (v, h))) (.inl none)).symm
    · split <;> first | rfl | (exfalso; rename_i hh; apply hh <;> rfl)
  | _ =>
    first
    | rfl
    | (dsimp only [pm_stp, pm_act]; split <;> first | rfl | (split <;> first | rfl | (exfalso; rename_i hh; apply hh <;> rfl)) | (simp only [pm_dob, pm_doi]; rfl) | (simp_all [pm_do]; done))
theorem pm_ret_le {go go' : pm_Go} (hgo : ∀ pc ls st h q, go pc ls st h = some q → go' pc ls st h = some q) {rk nx : Nat} {ls rest : List Value} {r : Int32 × pm_Hp} {q : Int32 × pm_Hp} (hs : pm_ret rk nx ls rest go r = some q) : pm_ret rk nx ls rest go' r = some q := by
  match rk, hs with
  | 0, hs => exact hgo _ _ _ _ _ hs
  | 1, hs => exact hgo _ _ _ _ _ hs
  | n + 2, hs => exact hgo _ _ _ _ _ hs
theorem pm_do_le {C C' : pm_Cl} {go go' : pm_Go} (hC : ∀ mj as h q, C mj as h = some q → C' mj as h = some q) (hgo : ∀ pc ls st h q, go pc ls st h = some q → go' pc ls st h = some q) {ls : List Value} {h : pm_Hp} {a : pm_Ac} {q : Int32 × pm_Hp} (hs : pm_do C go ls h a = some q) : pm_do C' go' ls h a = some q := by
  match a, hs with
  | .inl o, hs => exact hs
  | .inr (.inl (pc, ls', st, h')), hs => exact hgo _ _ _ _ _ hs
  | .inr (.inr (mj, as, rk, nx, rest)), hs =>
    have hs : (C mj as h).bind (pm_ret rk nx ls rest go) = some q := hs
    show (C' mj as h).bind (pm_ret rk nx ls rest go') = some q
    cases e : C mj as h with
    | none => rw [e] at hs; cases hs
    | some r =>
      rw [e] at hs
      rw [hC _ _ _ _ e]
      exact pm_ret_le hgo hs
theorem pm_run_s (C : pm_Cl) (cd : Nat → Option pm_RI) (n pc : Nat) (ls st : List Value) (h : pm_Hp) : pm_run C cd (n + 1) pc ls st h = match cd pc with
    | none => none
    | some ri => pm_do C (pm_run C cd n) ls h (pm_act ri ls st h) := by
  show (match cd pc with
    | none => none
    | some ri => pm_stp C ri (pm_run C cd n) ls st h) = _
  cases cd pc with
  | none => rfl
  | some ri => exact pm_act_eq _ _ _ _ _ _
theorem pm_run_le {C C' : pm_Cl} (hC : ∀ mj as h q, C mj as h = some q → C' mj as h = some q) (cd : Nat → Option pm_RI) : ∀ (n pc : Nat) (ls st : List Value) (h : pm_Hp) (q : Int32 × pm_Hp), pm_run C cd n pc ls st h = some q → pm_run C' cd (n + 1) pc ls st h = some q := by
  intro n
  induction n with
  | zero => intro pc ls st h q hs; cases hs
  | succ n ih =>
    intro pc ls st h q hs
    rw [pm_run_s] at hs ⊢
    cases e : cd pc with
    | none => rw [e] at hs; cases hs
    | some ri =>
      rw [e] at hs
      exact pm_do_le hC ih hs
theorem pm_C_le : ∀ (d n mj : Nat) (as : List Value) (h : pm_Hp) (q : Int32 × pm_Hp), pm_C d n mj as h = some q → pm_C d (n + 1) mj as h = some q
  | 0, _, _, _, _, _, hs => by cases hs
  | d + 1, n, mj, as, h, q, hs => pm_run_le (pm_C_le d n) _ n _ _ _ _ _ hs
/-- the limit of answers that stay -/
noncomputable def pm_lim (f : Nat → pm_Rs) : pm_Rs := @dite _ (∃ n q, f n = some q) (Classical.propDecidable _) (fun e => f (Classical.choose e)) (fun _ => none)
theorem pm_mono_le {f : Nat → pm_Rs} (hf : ∀ n q, f n = some q → f (n + 1) = some q) {n k : Nat} {q : Int32 × pm_Hp} (h : f n = some q) (hk : n ≤ k) : f k = some q := by
  induction hk with
  | refl => exact h
  | step _ ih => exact hf _ _ ih
theorem pm_lim_iff {f : Nat → pm_Rs} (hf : ∀ n q, f n = some q → f (n + 1) = some q) (q : Int32 × pm_Hp) : pm_lim f = some q ↔ ∃ n, f n = some q := by
  unfold pm_lim
  constructor
  · intro h
    split at h
    · rename_i e
      exact ⟨_, h⟩
    · cases h
  · rintro ⟨n, hn⟩
    rw [dif_pos ⟨n, q, hn⟩]
    have e : ∃ n q, f n = some q := ⟨n, q, hn⟩
    obtain ⟨q', hq'⟩ := Classical.choose_spec e
    show f (Classical.choose e) = some q
    have h1 := pm_mono_le hf hq' (Nat.le_max_left (Classical.choose e) n)
    have h2 := pm_mono_le hf hn (Nat.le_max_right (Classical.choose e) n)
    rw [h1] at h2
    rw [hq', h2]
theorem pm_opt_ext {x y : pm_Rs} (h : ∀ q, x = some q ↔ y = some q) : x = y := by
  cases x with
  | none =>
    cases y with
    | none => rfl
    | some q => exact absurd ((h q).mpr rfl) (by intro g; cases g)
  | some q => exact ((h q).mp rfl).symm
/-- a method's answer, calls to a depth d -/
noncomputable def pm_ev (d mj : Nat) (as : List Value) (h : pm_Hp) : pm_Rs := pm_lim (fun n => pm_C d n mj as h)
/-- a run's answer, calls to a depth d -/
noncomputable def pm_rn (d : Nat) (cd : Nat → Option pm_RI) (pc : Nat) (ls st : List Value) (h : pm_Hp) : pm_Rs := pm_lim (fun n => pm_run (pm_C d n) cd n pc ls st h)
theorem pm_ev_iff {d mj : Nat} {as : List Value} {h : pm_Hp} {q : Int32 × pm_Hp} : pm_ev d mj as h = some q ↔ ∃ n, pm_C d n mj as h = some q := pm_lim_iff (fun n q => pm_C_le d n mj as h q) q
theorem pm_rn_le {d : Nat} {cd : Nat → Option pm_RI} {pc : Nat} {ls st : List Value} {h : pm_Hp} : ∀ n q, pm_run (pm_C d n) cd n pc ls st h = some q → pm_run (pm_C d (n + 1)) cd (n + 1) pc ls st h = some q := fun n q hs => pm_run_le (pm_C_le d n) cd n pc ls st h q hs
theorem pm_rn_iff {d : Nat} {cd : Nat → Option pm_RI} {pc : Nat} {ls st : List Value} {h : pm_Hp} {q : Int32 × pm_Hp} : pm_rn d cd pc ls st h = some q ↔ ∃ n, pm_run (pm_C d n) cd n pc ls st h = some q := pm_lim_iff pm_rn_le q
theorem pm_do_ex {d : Nat} {cd : Nat → Option pm_RI} {ls : List Value} {h : pm_Hp} {a : pm_Ac} {q : Int32 × pm_Hp} (hs : pm_do (pm_ev d) (pm_rn d cd) ls h a = some q) : ∃ n, pm_do (pm_C d n) (pm_run (pm_C d n) cd n) ls h a = some q := by
  match a, hs with
  | .inl o, hs => exact ⟨0, hs⟩
  | .inr (.inl (pc, ls', st, h')), hs => exact pm_rn_iff.mp hs
  | .inr (.inr (mj, as, rk, nx, rest)), hs =>
    have hs : (pm_ev d mj as h).bind (pm_ret rk nx ls rest (pm_rn d cd)) = some q := hs
    cases e : pm_ev d mj as h with
    | none => rw [e] at hs; cases hs
    | some r =>
      rw [e, Option.bind_some] at hs
      obtain ⟨n1, h1⟩ := pm_ev_iff.mp e
      have key : ∀ pc ls st h, pm_rn d cd pc ls st h = some q → ∃ n, pm_run (pm_C d n) cd n pc ls st h = some q := fun _ _ _ _ g => pm_rn_iff.mp g
      have h2 : ∃ n2, pm_ret rk nx ls rest (pm_run (pm_C d n2) cd n2) r = some q := by
        match rk, hs with
        | 0, hs => exact key _ _ _ _ hs
        | 1, hs => exact key _ _ _ _ hs
        | n + 2, hs => exact key _ _ _ _ hs
      obtain ⟨n2, h2⟩ := h2
      refine ⟨max n1 n2, ?_⟩
      show (pm_C d (max n1 n2) mj as h).bind _ = some q
      rw [pm_mono_le (fun n q => pm_C_le d n mj as h q) h1 (Nat.le_max_left n1 n2), Option.bind_some]
      exact pm_ret_le (fun pc ls st h q g => pm_mono_le (f := fun n => pm_run (pm_C d n) cd n pc ls st h) pm_rn_le g (Nat.le_max_right n1 n2)) h2
theorem pm_run_lift (d : Nat) (cd : Nat → Option pm_RI) (n pc : Nat) (ls st : List Value) (h : pm_Hp) (q : Int32 × pm_Hp) (g : pm_run (pm_C d (n + 1)) cd (n + 1) pc ls st h = some q) : pm_run (pm_C d (n + 1 + 1)) cd (n + 1) pc ls st h = some q := by
  have key : ∀ (k pc : Nat) (ls st : List Value) (h : pm_Hp) (q : Int32 × pm_Hp), pm_run (pm_C d (n + 1)) cd k pc ls st h = some q → pm_run (pm_C d (n + 1 + 1)) cd k pc ls st h = some q := by
    intro k
    induction k with
    | zero => intro pc ls st h q hs; cases hs
    | succ k ih =>
      intro pc ls st h q hs
      rw [pm_run_s] at hs ⊢
      cases e : cd pc with
      | none => rw [e] at hs; cases hs
      | some ri =>
        rw [e] at hs
        exact pm_do_le (fun mj as h q => pm_C_le d (n + 1) mj as h q) ih hs
  exact key _ _ _ _ _ _ g
theorem pm_rn_eq (d : Nat) (cd : Nat → Option pm_RI) (pc : Nat) (ls st : List Value) (h : pm_Hp) : pm_rn d cd pc ls st h = match cd pc with
    | none => none
    | some ri => pm_stp (pm_ev d) ri (pm_rn d cd) ls st h := by
  apply pm_opt_ext
  intro q
  rw [pm_rn_iff]
  cases e : cd pc with
  | none =>
    constructor
    · rintro ⟨n, hn⟩
      cases n with
      | zero => cases hn
      | succ n => rw [pm_run_s, e] at hn; cases hn
    · intro g; cases g
  | some ri =>
    show _ ↔ pm_stp (pm_ev d) ri (pm_rn d cd) ls st h = some q
    rw [pm_act_eq]
    constructor
    · rintro ⟨n, hn⟩
      cases n with
      | zero => cases hn
      | succ n =>
        rw [pm_run_s, e] at hn
        refine pm_do_le (fun mj as h q g => pm_ev_iff.mpr ⟨_, g⟩) (fun pc ls st h q g => pm_rn_iff.mpr ⟨n + 1, ?_⟩) hn
        exact pm_run_le (fun _ _ _ _ z => z) cd n pc ls st h q g
    · intro g
      obtain ⟨n, hn⟩ := pm_do_ex g
      refine ⟨n + 1, ?_⟩
      rw [pm_run_s, e]
      exact pm_do_le (fun mj as h q => pm_C_le d n mj as h q) (fun pc ls st h q g => by
        have := pm_run_le (fun mj as h q => pm_C_le d n mj as h q) cd n pc ls st h q g
        cases n with
        | zero => cases g
        | succ n => exact pm_run_lift d cd n pc ls st h q g) hn
theorem pm_ev_eq (d mj : Nat) (as : List Value) (h : pm_Hp) : pm_ev (d + 1) mj as h = pm_rn d (pm_m mj).2.2.2.2.1 0 (pm_pad (pm_m mj).2.2.1 as) [] h := rfl
/-- a run to the next stops -/
def pm_blk (C : pm_Cl) (cd : Nat → Option pm_RI) (go : pm_Go) (stop : Nat → Bool) : Nat → pm_Go
  | 0 => go
  | n + 1 => fun pc ls st h => match cd pc with
    | none => none
    | some ri => pm_stp C ri (fun pc ls st h => bif stop pc then go pc ls st h else pm_blk C cd go stop n pc ls st h) ls st h
theorem pm_rn_b (d : Nat) (cd : Nat → Option pm_RI) (stop : Nat → Bool) : ∀ (n pc : Nat) (ls st : List Value) (h : pm_Hp), pm_rn d cd pc ls st h = pm_blk (pm_ev d) cd (pm_rn d cd) stop n pc ls st h := by
  intro n
  induction n with
  | zero => intro pc ls st h; rfl
  | succ n ih =>
    intro pc ls st h
    rw [pm_rn_eq]
    unfold pm_blk
    have : (fun pc ls st h => bif stop pc then pm_rn d cd pc ls st h else pm_blk (pm_ev d) cd (pm_rn d cd) stop n pc ls st h) = pm_rn d cd := by
      funext pc ls st h
      rw [← ih]
      cases stop pc <;> rfl
    rw [this]
theorem pm_ev_b (d mj n : Nat) (stop : Nat → Bool) (as : List Value) (h : pm_Hp) : pm_ev (d + 1) mj as h = pm_blk (pm_ev d) (pm_m mj).2.2.2.2.1 (pm_rn d (pm_m mj).2.2.2.2.1) stop n 0 (pm_pad (pm_m mj).2.2.1 as) [] h := (pm_ev_eq d mj as h).trans (pm_rn_b d _ stop n _ _ _ h)
/-! the words of the trees -/
def pm_bd (x : pm_Rs) (f : Int32 → pm_Hp → pm_Rs) : pm_Rs := x.bind fun q => f q.1 q.2
theorem pm_bd_s {r : Int32} {h : pm_Hp} {f : Int32 → pm_Hp → pm_Rs} : pm_bd (some (r, h)) f = f r h := rfl
def pm_at (i : Int32) (n : Nat) (k : Nat → pm_Rs) : pm_Rs := if i < 0 ∨ n ≤ i.toNatClampNeg then none else k i.toNatClampNeg
def pm_shl (x y : Int32) : Int32 := x <<< (y &&& 31)
def pm_shr (x y : Int32) : Int32 := x >>> (y &&& 31)
def pm_ushr (x y : Int32) : Int32 := (x.toUInt32 >>> (y.toUInt32 &&& Int32.toUInt32 31)).toInt32
def pm_i2c (x : Int32) : Int32 := (x.toUInt32 % 65536).toInt32
def pm_bw (v : Int32) (k : pm_Rs) : pm_Rs := if v = 0 ∨ v = 1 then k else none
def pm_acp (h : pm_Hp) (k0 k1 : Nat) (sp dp n : Int32) (k : pm_Hp → pm_Rs) : pm_Rs := if (sp < 0 ∨ dp < 0 ∨ n < 0) ∨ ¬ sp.toNatClampNeg + n.toNatClampNeg ≤ (pm_ob k0).2.1 ∨ ¬ dp.toNatClampNeg + n.toNatClampNeg ≤ (pm_ob k1).2.1 then none else k (pm_cp h k0 k1 sp.toNatClampNeg dp.toNatClampNeg n.toNatClampNeg)
