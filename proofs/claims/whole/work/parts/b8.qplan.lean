theorem nn_ex {v : Int32} (hv : ¬ v < 0) : ∃ n, n < 2 ^ 31 ∧ v = nI n := by
  have l : 0 ≤ v.toInt := Int32.le_iff_toInt_le.mp (Int32.not_lt.mp hv)
  have u := Int32.toInt_lt v
  refine ⟨v.toInt.toNat, by omega, ?_⟩
  apply Int32.toInt_inj.mp
  rw [show nI v.toInt.toNat = Int32.ofNat v.toInt.toNat from rfl, Int32.toInt_ofNat_of_lt (by omega)]
  omega
section
variable {T R A n0 n1 q N M : Nat} {L0 L1 : Nat → Ln} {h : pm_Hp}
theorem q_plan {d : Nat} (hd : 25 ≤ d) (F : FS T R A n0 n1 q N M L0 L1 h) (C : PC T M n0 L0 n1 L1 h) (b34 : h 169 34 = -1) (b35 : h 169 35 = -1) (v : Int32) : MP T M n0 L0 n1 L1 d 150 267 [.int v] h := by
  obtain ⟨d, rfl, -⟩ := dpos hd
  have hA := F.2.1.1
  have hT := F.1.1.1
  have hM := F.2.2.2.2.1.2.1
  have hM5 : h 32 5 = nI M := F.2.2.2.2.1.2.2.2.2.1
  obtain ⟨y, a1, a2, a3, a4⟩ := c_ready (d := d) (by omega) F C
  have Fy := F.pf a2
  have y169 : y 169 = h 169 := a2 169 (by omega) (by omega) (by omega) (by omega)
  have yM : y 170 328 = nI M := Fy.2.2.2.2.1.2.2.2.2.2.1
  have yT : y 170 324 = nI T := Fy.1.1.2.2.1
  have y11 : y 1 11 = nI T := Fy.1.1.2.2.2.1
  obtain ⟨p1, p2, p3⟩ := a4
  have D : PD T M n0 L0 n1 L1 y := ⟨p1, p2, p3⟩
  have fin : ∀ (r : Int32) (z : pm_Hp), CPl y z → pm_ev (d + 1) 150 [.ref 0, .int v] h = some (r, z) → (∃ h2, pm_ev (d + 1) 267 [.ref 169, .int v] z = some (r, h2) ∧ (∀ a, a ≠ 169 → (a < 178 ∨ 182 < a) → h2 a = z a) ∧ ∀ j, j ≠ 32 → j ≠ 33 → h2 169 j = z 169 j) → MP T M n0 L0 n1 L1 (d + 1) 150 267 [.int v] h := fun r z Cz e1 ⟨h2, e2, m1, m2⟩ => ⟨r, z, h2, e1, e2, QP.mk a2 a3 D Cz m1 m2⟩
  by_cases g20 : ¬ v < nI 20 ∧ v ≤ nI 20 + nI M
  · obtain ⟨k, hk, rfl⟩ : ∃ k, (20 ≤ k ∧ k ≤ 20 + M) ∧ v = nI k := by
      have nn : ¬ v < 0 := fun z => g20.1 (Int32.lt_trans z (by decide))
      obtain ⟨k, k1, rfl⟩ := nn_ex nn
      have g2 := g20.2
      rw [nI_add] at g2
      have := (nI_leI (by omega) (by omega)).mp g2
      refine ⟨k, ⟨?_, this⟩, rfl⟩
      by_cases q : 20 ≤ k
      · exact q
      · exact absurd (nI_lt (by omega) (by omega)) g20.1
    obtain ⟨c1, c2⟩ := c_bound (d := d) (x := k - 20) (by omega) hT hM (fun i t => cow_le i t) p1 (by omega)
    have cl : ∀ r, pm_ev d 66 [.ref 150, .int (nI (k - 20))] y = some (r, y) → pm_ev (d + 1) 150 [.ref 0, .int (nI k)] h = some (r, y) := fun r e => by
      rw [e_X9_plan, a1, pm_bd_s, if_neg g20.1, hM5, if_pos g20.2, pk_sub (by omega), e, pm_bd_s]
    obtain ⟨z, z1, z2, z3⟩ := m_bounds (d := d) (by omega) Fy
    have zf : (∀ a, a ≠ 169 → (a < 178 ∨ 182 < a) → z a = y a) ∧ ∀ j, j ≠ 32 → j ≠ 33 → z 169 j = y 169 j := ⟨fun a _ x => z2 a (by simp; omega), fun j _ _ => by rw [z2 169 (by simp)]⟩
    have bB : bdr n0 L0 T M y (M - (k - 20)) ≤ 1000000000 := bdr_le _
    have ml : ∀ r, (if bdr n0 L0 T M y (M - (k - 20)) = 1000000000 then (-1 : Int32) else nI (bdr n0 L0 T M y (M - (k - 20)))) = r → pm_ev (d + 1) 267 [.ref 169, .int (nI k)] y = some (r, z) := fun r e => by
      rw [e_X10_plan, m_isIn (by omega), pm_bd_s, yM, b2_t g20, if_neg (by decide), z1, pm_bd_s, pk_sub (by omega), pm_at_c (by omega) (by omega), pm_at_c (by omega) (by omega), z3 (k - 20) (by omega), nI_ite (by omega) (by omega), ← e]
      by_cases q : bdr n0 L0 T M y (M - (k - 20)) = 1000000000
      · rw [if_pos q, if_pos q]
      · rw [if_neg q, if_neg q]
    have y35 : y 169 35 = -1 := by rw [y169]; exact b35
    by_cases all : ∀ j, k - 20 ≤ j → j < M → ∃ b, b < T ∧ cdw y j b
    · have e := bdr_sum (n0 := n0) (L0 := L0) (T := T) (M := M) (h := y) (M - (k - 20)) (by omega) hM (fun j x1 x2 => by
        obtain ⟨b, hb, cb⟩ := all j (by omega) x2
        exact ⟨b, hb, (nbn y35 j b (by omega)).mpr cb⟩)
      rw [show M - (M - (k - 20)) = k - 20 by omega] at e
      have es : sm (loF n0 L0 T y) (k - 20) (M - (k - 20)) = sm (fun j => mnf (cdw y j) (cow n0 L0 y j) MAXI T) (k - 20) (M - (k - 20)) := sm_cg _ _ (fun j x1 x2 => by
        obtain ⟨b, hb, cb⟩ := all j (by omega) (by omega)
        unfold loF
        rw [mnf_cg T (fun b hb => nbn y35 j b (by omega)) (fun _ _ _ => rfl)]
        exact mnf_BB (C := 1000000) (fun b => cow_le j b) (by decide) (by decide) T ⟨b, hb, cb⟩)
      have sl := sm_le (mm := loF n0 L0 T y) (B := 1000000) (M - (k - 20)) (k - 20) (fun j x1 x2 => by
        obtain ⟨b, hb, cb⟩ := all j (by omega) (by omega)
        exact mnf_ex (fun b => cow_le j b) T ⟨b, hb, (nbn y35 j b (by omega)).mpr cb⟩)
      have m6 : (M - (k - 20)) * 1000000 ≤ 6 * 1000000 := Nat.mul_le_mul_right _ (by omega)
      refine fin _ y CPl.rf (cl _ (c1 all)) ⟨z, ml _ ?_, zf⟩
      rw [e, if_neg (by omega), es]
    · have no : ∃ j, k - 20 ≤ j ∧ j < M ∧ ∀ b, b < T → ¬ cdw y j b := by
        by_cases q : ∃ j, k - 20 ≤ j ∧ j < M ∧ ∀ b, b < T → ¬ cdw y j b
        · exact q
        · refine absurd (fun j x1 x2 => ?_) all
          by_cases p : ∃ b, b < T ∧ cdw y j b
          · exact p
          · exact absurd ⟨j, x1, x2, fun b hb z => p ⟨b, hb, z⟩⟩ q
      refine fin _ y CPl.rf (cl _ (c2 no)) ⟨z, ml _ ?_, zf⟩
      obtain ⟨j, j1, j2, j3⟩ := no
      rw [if_pos (bdr_far (M - (k - 20)) j (by omega) (by omega) j2 (fun b hb cb => j3 b hb ((nbn y35 j b (by omega)).mp cb)))]
  · have cl : ∀ o, planX d (nI M) y v = o → pm_ev (d + 1) 150 [.ref 0, .int v] h = o := fun o e => by
      rw [planX_eq (by rw [hM5]; exact g20), a1, pm_bd_s, hM5]
      exact e
    have Fz : ∀ z, CPl y z → FS T R A n0 n1 q N M L0 L1 z := fun z Cz => Fy.pf (fun k _ _ _ w => Cz.1 k (by omega))
    have zw : ∀ z, CPl y z → z 170 = y 170 ∧ z 169 = h 169 := fun z Cz => ⟨Cz.1 170 (by omega), (Cz.1 169 (by omega)).trans y169⟩
    /- a question that the model knows -/
    have mdl : ∀ (z : pm_Hp) (r : Int32), CPl y z → ((¬ v < nI 10 ∧ v ≤ nI 9 + nI M) ∨ (¬ v < nI 30 ∧ v ≤ nI 29 + nI M) ∨ (¬ v < nI 40 ∧ v ≤ nI 39 + nI M) ∨ (¬ v < 0 ∧ v ≤ 1) ∨ (¬ v < nI 50 ∧ v ≤ nI 49 + nI T)) → ((PS T M n0 L0 n1 L1 y).1 = true → ∀ w, FS T R A n0 n1 q N M L0 L1 w → w 170 = y 170 → w 169 34 = -1 → w 169 35 = -1 → MSr M (PS T M n0 L0 n1 L1 y) w → ∃ w', pm_ev d 266 [.ref 169, .int v] w = some (r, w') ∧ (∀ a, a ≠ 169 → (a < 178 ∨ 182 < a) → w' a = w a) ∧ ∀ j, j ≠ 32 → j ≠ 33 → w' 169 j = w 169 j) → (¬ (PS T M n0 L0 n1 L1 y).1 = true → r = -1) → ∃ h2, pm_ev (d + 1) 267 [.ref 169, .int v] z = some (r, h2) ∧ (∀ a, a ≠ 169 → (a < 178 ∨ 182 < a) → h2 a = z a) ∧ ∀ j, j ≠ 32 → j ≠ 33 → h2 169 j = z 169 j := fun z r Cz ok yes no => by
      obtain ⟨z0, z9⟩ := zw z Cz
      obtain ⟨w, w1, w2, w3, w4⟩ := m_lay0 (d := d) (by omega) (Fz z Cz) (by rw [z9]; exact b35)
      rw [PS_eq z0] at w1 w4
      rw [mplan_go (by omega) (by rw [z0, yM]; exact g20) (by rw [z0, yM, yT]; exact ok), w1, pm_bd_s]
      by_cases s : (PS T M n0 L0 n1 L1 y).1 = true
      · rw [b2_t s, if_neg (by decide)]
        obtain ⟨w', x1, x2, x3⟩ := yes s w ((Fz z Cz).cm (fun k hk => w2 k (by omega) (by omega))) (by rw [w2 170 (by omega) (by omega)]; exact z0) (by rw [w3 34 (by omega) (by omega), z9]; exact b34) (by rw [w3 35 (by omega) (by omega), z9]; exact b35) w4
        rw [x1, pm_bd_s]
        exact ⟨w', rfl, fun a h1 h2 => (x2 a h1 h2).trans (w2 a h1 h2), fun j h1 h2 => (x3 j h1 h2).trans (w3 j h1 h2)⟩
      · rw [b2_f s, if_pos rfl, no s]
        exact ⟨w, rfl, w2, w3⟩
    have non : ∀ z, CPl y z → ¬ (¬ v < nI 10 ∧ v ≤ nI 9 + nI M) → ¬ (¬ v < nI 30 ∧ v ≤ nI 29 + nI M) → ¬ (¬ v < nI 40 ∧ v ≤ nI 39 + nI M) → ¬ (¬ v < 0 ∧ v ≤ 1) → ¬ (¬ v < nI 50 ∧ v ≤ nI 49 + nI T) → ∃ h2, pm_ev (d + 1) 267 [.ref 169, .int v] z = some (-1, h2) ∧ (∀ a, a ≠ 169 → (a < 178 ∨ 182 < a) → h2 a = z a) ∧ ∀ j, j ≠ 32 → j ≠ 33 → h2 169 j = z 169 j := fun z Cz q1 q2 q3 q4 q5 => by
      obtain ⟨z0, z9⟩ := zw z Cz
      exact ⟨z, mplan_no (by omega) (by rw [z0, yM]; exact g20) (by rw [z0, yM]; exact q1) (by rw [z0, yM]; exact q2) (by rw [z0, yM]; exact q3) q4 (by rw [z0, yT]; exact q5), fun _ _ _ => rfl, fun _ _ _ => rfl⟩
    by_cases s : (PS T M n0 L0 n1 L1 y).1 = true
    · obtain ⟨f1, f2, f3⟩ := PS_ok (n0 := n0) (L0 := L0) (n1 := n1) (L1 := L1) (h := y) hT hM s
      obtain ⟨p4, p5, p6⟩ := p3 s
      have fd : y 150 1 = 1 := by rw [p2, b2_t s]
      have cl2 : ∀ o, (if v < nI 50 then planY d (nI M) y v else if v < nI 50 + nI T then pm_bd (pm_ev d 67 [.ref 150, .int (v - nI 50)] y) fun r6 y6 => some (r6, y6) else planY d (nI M) y v) = o → pm_ev (d + 1) 150 [.ref 0, .int v] h = o := fun o e => by
        refine cl o ?_
        unfold planX
        rw [if_neg (by rw [fd]; decide), y11]
        exact e
      have p5' : ∀ k, k < M → y 151 k = nI ((PS T M n0 L0 n1 L1 y).2.2 k) ∧ (PS T M n0 L0 n1 L1 y).2.2 k < T ∧ cdw y k ((PS T M n0 L0 n1 L1 y).2.2 k) := fun k hk => ⟨p5 k hk, (f1 k hk).1, (f1 k hk).2.1⟩
      by_cases ng : v < 0
      · obtain ⟨⟨r1, x1⟩, r2, x2, x3, x4, x5⟩ := fl_neg (d := d) (h := y) (by omega) ng
        have n1_ : ¬ v = 1 := fun z => by rw [z] at ng; exact absurd ng (by decide)
        have n0_ : ¬ v = 0 := fun z => by rw [z] at ng; exact absurd ng (by decide)
        have big : ∀ k : Nat, k < 2 ^ 31 → v < nI k := fun k hk => Int32.lt_of_lt_of_le ng (Int32.not_lt.mp (nI_pos hk))
        refine fin (-1) y CPl.rf (cl2 _ ?_) (non y CPl.rf (fun z => z.1 (big 10 (by omega))) (fun z => z.1 (big 30 (by omega))) (fun z => z.1 (big 40 (by omega))) (fun z => z.1 ng) (fun z => z.1 (big 50 (by omega))))
        rw [if_pos (big 50 (by omega))]
        unfold planY
        rw [if_neg n0_, if_neg n1_, x1, pm_bd_s]
        by_cases c : r1 < nI M
        · rw [if_pos c, x2, pm_bd_s, if_neg x3]
          by_cases c2 : r2 = nI 2
          · rw [if_pos c2]
          · rw [if_neg c2, if_neg x4, if_neg x5]
        · rw [if_neg c]
      · obtain ⟨n, hn, rfl⟩ := nn_ex ng
        obtain ⟨fd_, fm⟩ := fl_pos (d := d) (n := n) (h := y) (by omega) hn
        have rng : ∀ a b : Nat, a < 1000 → b < 1000 → ((¬ nI n < nI a ∧ nI n ≤ nI b) ↔ (a ≤ n ∧ n ≤ b)) := fun a b ha hb => by
          rw [nI_leI hn (by omega)]
          refine ⟨fun z => ⟨?_, z.2⟩, fun z => ⟨nI_nlt z.1 hn, z.2⟩⟩
          by_cases q : a ≤ n
          · exact q
          · exact absurd (nI_lt (by omega) (by omega)) z.1
        have r01 : (¬ nI n < 0 ∧ nI n ≤ 1) ↔ (0 ≤ n ∧ n ≤ 1) := rng 0 1 (by omega) (by omega)
        have v0 : (nI n = 0) ↔ n = 0 := nI_eq (b := 0) hn (by omega)
        have v1 : (nI n = 1) ↔ n = 1 := nI_eq (b := 1) hn (by omega)
        have g20' : ¬ (20 ≤ n ∧ n ≤ 20 + M) := fun z => g20 (by rw [nI_add, rng 20 (20 + M) (by omega) (by omega)]; exact z)
        have o10 : (10 ≤ n ∧ n ≤ 9 + M) → ((¬ nI n < nI 10 ∧ nI n ≤ nI 9 + nI M) ∨ (¬ nI n < nI 30 ∧ nI n ≤ nI 29 + nI M) ∨ (¬ nI n < nI 40 ∧ nI n ≤ nI 39 + nI M) ∨ (¬ nI n < 0 ∧ nI n ≤ 1) ∨ (¬ nI n < nI 50 ∧ nI n ≤ nI 49 + nI T)) := fun z => Or.inl (by rw [nI_add]; exact (rng 10 (9 + M) (by omega) (by omega)).mpr z)
        have o30 : (30 ≤ n ∧ n ≤ 29 + M) → ((¬ nI n < nI 10 ∧ nI n ≤ nI 9 + nI M) ∨ (¬ nI n < nI 30 ∧ nI n ≤ nI 29 + nI M) ∨ (¬ nI n < nI 40 ∧ nI n ≤ nI 39 + nI M) ∨ (¬ nI n < 0 ∧ nI n ≤ 1) ∨ (¬ nI n < nI 50 ∧ nI n ≤ nI 49 + nI T)) := fun z => Or.inr (Or.inl (by rw [nI_add]; exact (rng 30 (29 + M) (by omega) (by omega)).mpr z))
        have o40 : (40 ≤ n ∧ n ≤ 39 + M) → ((¬ nI n < nI 10 ∧ nI n ≤ nI 9 + nI M) ∨ (¬ nI n < nI 30 ∧ nI n ≤ nI 29 + nI M) ∨ (¬ nI n < nI 40 ∧ nI n ≤ nI 39 + nI M) ∨ (¬ nI n < 0 ∧ nI n ≤ 1) ∨ (¬ nI n < nI 50 ∧ nI n ≤ nI 49 + nI T)) := fun z => Or.inr (Or.inr (Or.inl (by rw [nI_add]; exact (rng 40 (39 + M) (by omega) (by omega)).mpr z)))
        have o01 : n ≤ 1 → ((¬ nI n < nI 10 ∧ nI n ≤ nI 9 + nI M) ∨ (¬ nI n < nI 30 ∧ nI n ≤ nI 29 + nI M) ∨ (¬ nI n < nI 40 ∧ nI n ≤ nI 39 + nI M) ∨ (¬ nI n < 0 ∧ nI n ≤ 1) ∨ (¬ nI n < nI 50 ∧ nI n ≤ nI 49 + nI T)) := fun z => Or.inr (Or.inr (Or.inr (Or.inl (r01.mpr ⟨Nat.zero_le _, z⟩))))
        have o50 : (50 ≤ n ∧ n ≤ 49 + T) → ((¬ nI n < nI 10 ∧ nI n ≤ nI 9 + nI M) ∨ (¬ nI n < nI 30 ∧ nI n ≤ nI 29 + nI M) ∨ (¬ nI n < nI 40 ∧ nI n ≤ nI 39 + nI M) ∨ (¬ nI n < 0 ∧ nI n ≤ 1) ∨ (¬ nI n < nI 50 ∧ nI n ≤ nI 49 + nI T)) := fun z => Or.inr (Or.inr (Or.inr (Or.inr (by rw [nI_add]; exact (rng 50 (49 + T) (by omega) (by omega)).mpr z))))
        have sel : ∀ (o : pm_Rs), n < 50 → planY d (nI M) y (nI n) = o → pm_ev (d + 1) 150 [.ref 0, .int (nI n)] h = o := fun o hn5 e => by
          refine cl2 o ?_
          rw [if_pos (nI_lt hn5 (by omega))]
          exact e
        have ofp : ∀ {w : pm_Hp} {o : pm_Rs}, (if n / 10 = 0 then (if n = 0 then (some (w 169 32, w)) else (pm_bd (pm_ev (d - 1) 260 [.ref 169] w) fun r1 y1 => some (r1, y1))) else if n / 10 = 1 then (pm_at (nI n - (nI 10)) 8 fun j1 => some (w 181 j1, w)) else if n / 10 = 2 then (pm_bd (pm_ev (d - 1) 265 [.ref 169, .int (nI n - (nI 50))] w) fun r2 y2 => some (r2, y2)) else if n / 10 = 3 then (pm_bd (pm_ev (d - 1) 262 [.ref 169, .int (nI n - (nI 30))] w) fun r3 y3 => some (r3, y3)) else if n / 10 = 4 then (pm_bd (pm_ev (d - 1) 264 [.ref 169, .int (nI n - (nI 40))] w) fun r4 y4 => some (r4, y4)) else (pm_bd (pm_ev (d - 1) 265 [.ref 169, .int (nI n - (nI 50))] w) fun r5 y5 => some (r5, y5))) = o → pm_ev d 266 [.ref 169, .int (nI n)] w = o := fun {w o} e => by
          obtain ⟨d, rfl, -⟩ := dpos (show 23 + 1 ≤ d by omega)
          rw [Nat.add_sub_cancel] at e
          have hq : n / 10 < 2 ^ 31 := by omega
          rw [e_X10_ofPlan, pk_div hn (by omega) (by omega), show (0 : Int32) = nI 0 from rfl, show (1 : Int32) = nI 1 from rfl, nI_ite hq (by omega), nI_ite hn (by omega), nI_ite hq (by omega), nI_ite hq (by omega), nI_ite hq (by omega), nI_ite hq (by omega)]
          exact e
        by_cases k0 : n = 0
        · subst k0
          refine fin (nI (PS T M n0 L0 n1 L1 y).2.1) y CPl.rf (sel _ (by omega) ?_) (mdl y _ CPl.rf (o01 (by omega)) (fun _ w Fw w0 w34 w35 S => ⟨w, ofp ?_, fun _ _ _ => rfl, fun _ _ _ => rfl⟩) (fun z => absurd s z))
          · unfold planY
            rw [if_pos nI_0, p4]
          · rw [if_pos (by omega), if_pos rfl, (S.2 s).1]
        by_cases k1 : n = 1
        · subst k1
          refine fin (nI (chg y (y 151) M)) y CPl.rf (sel _ (by omega) ?_) (mdl y _ CPl.rf (o01 (by omega)) (fun _ w Fw w0 w34 w35 S => ⟨w, ofp ?_, fun _ _ _ => rfl, fun _ _ _ => rfl⟩) (fun z => absurd s z))
          · unfold planY
            rw [if_neg (by decide), if_pos (show nI 1 = 1 from rfl), p6]
          · rw [if_pos (by omega), if_neg (by omega), m_chg (by omega) Fw, pm_bd_s, chg_cg (h := y) (v := y 151) w0 (fun k hk => by rw [(S.2 s).2.2 k hk, p5 k hk])]
        have nY : planY d (nI M) y (nI n) = if n % 10 < M then (if n / 10 = 1 then (pm_at (nI (n % 10)) 6 fun j1 => some (y 151 j1, y)) else if n / 10 = 2 then (some ((-1), y)) else if n / 10 = 3 then (pm_bd (pm_ev d 68 [.ref 150, .int (nI (n % 10))] y) fun r4 y4 => some (r4, y4)) else if n / 10 = 4 then (pm_bd (pm_ev d 69 [.ref 150, .int (nI (n % 10))] y) fun r5 y5 => some (r5, y5)) else (some ((-1), y))) else (some ((-1), y)) := by
          have hq : n / 10 < 2 ^ 31 := by omega
          unfold planY
          rw [if_neg (fun z => k0 (v0.mp z)), if_neg (fun z => k1 (v1.mp z)), fm, pm_bd_s, fd_, pm_bd_s, ltn_ite (by omega) (by omega), show (1 : Int32) = nI 1 from rfl, nI_ite hq (by omega), nI_ite hq (by omega), nI_ite hq (by omega), nI_ite hq (by omega)]
        by_cases c10 : 10 ≤ n ∧ n ≤ 9 + M
        · refine fin (y 151 (n - 10)) y CPl.rf (sel _ (by omega) ?_) (mdl y _ CPl.rf (o10 c10) (fun _ w Fw w0 w34 w35 S => ⟨w, ofp ?_, fun _ _ _ => rfl, fun _ _ _ => rfl⟩) (fun z => absurd s z))
          · rw [nY, if_pos (by omega), if_pos (by omega), pm_at_c (by omega) (by omega), show n % 10 = n - 10 by omega]
          · rw [if_neg (by omega), if_pos (by omega), pk_sub (by omega), pm_at_c (by omega) (by omega), (S.2 s).2.2 _ (by omega), p5 _ (by omega)]
        by_cases c30 : 30 ≤ n ∧ n ≤ 29 + M
        · obtain ⟨r, x1, x2⟩ := c_inst (d := d) (i := n - 30) (f := (PS T M n0 L0 n1 L1 y).2.2) (by omega) hT hM p1 (by omega) p5'
          refine fin r y CPl.rf (sel _ (by omega) ?_) (mdl y _ CPl.rf (o30 c30) (fun _ w Fw w0 w34 w35 S => ?_) (fun z => absurd s z))
          · rw [nY, if_pos (by omega), if_neg (by omega), if_neg (by omega), if_pos (by omega), show n % 10 = n - 30 by omega, x1, pm_bd_s]
          · obtain ⟨r', w', z1, z2, z3⟩ := m_inst (d := d - 1) (i := n - 30) (f := (PS T M n0 L0 n1 L1 y).2.2) (by omega) Fw (by omega) (fun k hk => ⟨(S.2 s).2.2 k hk, (f1 k hk).1⟩)
            obtain ⟨-, -, q3⟩ := fun3 (n0 := n0) (n1 := n1) (L0 := L0) (L1 := L1) w0
            have er : r' = r := z3.un x2 (fun t ht => by
              unfold insP
              rw [q3, nbn w35 _ _ (by omega), cdw_eq w0])
            refine ⟨w', ofp ?_, fun a _ x => z2 a (by simp; omega), fun j _ _ => by rw [z2 169 (by simp)]⟩
            rw [if_neg (by omega), if_neg (by omega), if_neg (by omega), if_pos (by omega), pk_sub (by omega), z1, pm_bd_s, er]
        by_cases c40 : 40 ≤ n ∧ n ≤ 39 + M
        · have iM : n - 40 < M := by omega
          have e40 := p5' (n - 40) iM
          generalize hv : (PS T M n0 L0 n1 L1 y).2.2 (n - 40) = bv at e40
          have zz : ∀ k, k < M → (nI k = nI (n - 40) ↔ k = n - 40) := fun k hk => nI_eq (by omega) (by omega)
          obtain ⟨z, z1, z2, z3⟩ := c_other (d := d) (i := n - 40) (f := fun _ => bv) (ce := fun k b => cdw y k b ∧ ¬ (nI k = nI (n - 40) ∧ b = bv)) (by omega) hT hM (fun i t => cow_lh i t) p1 iM ⟨e40.1, e40.2.1⟩ (fun k b hk _ => by rw [zz k hk]) (fun _ _ z => z.1)
          have Cz : CPl y z := ⟨fun a ha => z2 a (by omega), z3⟩
          refine fin (if (exs T (fun k b => cdw y k b ∧ ¬ (nI k = nI (n - 40) ∧ b = bv)) (cow n0 L0 y) (gtw n1 L1 y) M 0 (fun _ => 0) 0 s00).1 = true then nI (exs T (fun k b => cdw y k b ∧ ¬ (nI k = nI (n - 40) ∧ b = bv)) (cow n0 L0 y) (gtw n1 L1 y) M 0 (fun _ => 0) 0 s00).2.1 else -1) z Cz (sel _ (by omega) ?_) (mdl z _ Cz (o40 c40) (fun _ w Fw w0 w34 w35 S => ?_) (fun z => absurd s z))
          · rw [nY, if_pos (by omega), if_neg (by omega), if_neg (by omega), if_neg (by omega), if_pos (by omega), show n % 10 = n - 40 by omega, z1, pm_bd_s]
          · obtain ⟨w', x1, x2, x3, x4, x5⟩ := m_else (d := d - 1) (i := n - 40) (v := nI bv) (by omega) Fw iM (by rw [(S.2 s).2.2 _ iM, hv])
            obtain ⟨-, q2, q3⟩ := fun3 (n0 := n0) (n1 := n1) (L0 := L0) (L1 := L1) w0
            have ban : ∀ k b, b < T → (cdm (pm_up (pm_up w 169 34 (nI (n - 40))) 169 35 (nI bv)) k b ↔ (cdw y k b ∧ ¬ (nI k = nI (n - 40) ∧ b = bv))) := fun k b hb => by
              unfold cdm
              rw [pm_up_j (by omega), pm_up_s, pm_up_s, cdw_eq (show (pm_up (pm_up w 169 34 (nI (n - 40))) 169 35 (nI bv)) 170 = y 170 by rw [pm_up_n (by omega), pm_up_n (by omega)]; exact w0), nI_eq (a := b) (by omega) (by omega)]
              exact ⟨fun z => ⟨z.2, z.1⟩, fun z => ⟨z.2, z.1⟩⟩
            rw [q2, q3, exs_cg (ce := fun k b => cdw y k b ∧ ¬ (nI k = nI (n - 40) ∧ b = bv)) ban] at x1
            refine ⟨w', ofp ?_, x2, fun j h1 h2 => ?_⟩
            · rw [if_neg (by omega), if_neg (by omega), if_neg (by omega), if_neg (by omega), if_pos (by omega), pk_sub (by omega), x1, pm_bd_s]
            · by_cases e4 : j = 34
              · rw [e4, x4, w34]
              · by_cases e5 : j = 35
                · rw [e5, x5, w35]
                · exact x3 j (by omega)
        by_cases c50 : 50 ≤ n ∧ n ≤ 49 + T
        · obtain ⟨r, x1, x2⟩ := c_uses (d := d) (by omega) hM p1 (nI (n - 50))
          refine fin r y CPl.rf (cl2 _ ?_) (mdl y _ CPl.rf (o50 c50) (fun _ w Fw w0 w34 w35 S => ?_) (fun z => absurd s z))
          · rw [if_neg (nI_nlt (by omega) (by omega)), nI_add, if_pos (nI_lt (by omega) (by omega)), pk_sub (by omega), x1, pm_bd_s]
          · obtain ⟨r', z1, z2⟩ := m_uses (d := d - 1) (by omega) Fw (nI (n - 50))
            have er : r' = r := z2.un x2 (fun k hk => by rw [(S.2 s).2.2 k hk, p5 k hk])
            refine ⟨w, ofp ?_, fun _ _ _ => rfl, fun _ _ _ => rfl⟩
            rw [if_neg (by omega), if_neg (by omega), if_neg (by omega), if_neg (by omega), if_neg (by omega), pk_sub (by omega), z1, pm_bd_s, er]
        · refine fin (-1) y CPl.rf (cl2 _ ?_) (non y CPl.rf (fun z => c10 ((rng 10 (9 + M) (by omega) (by omega)).mp (by rw [nI_add] at z; exact z))) (fun z => c30 ((rng 30 (29 + M) (by omega) (by omega)).mp (by rw [nI_add] at z; exact z))) (fun z => c40 ((rng 40 (39 + M) (by omega) (by omega)).mp (by rw [nI_add] at z; exact z))) (fun z => by have := r01.mp z; omega) (fun z => c50 ((rng 50 (49 + T) (by omega) (by omega)).mp (by rw [nI_add] at z; exact z))))
          have yv : planY d (nI M) y (nI n) = some (-1, y) := by
            rw [nY]
            by_cases m1 : n % 10 < M
            · rw [if_pos m1, if_neg (by omega)]
              by_cases m2 : n / 10 = 2
              · rw [if_pos m2]
              · rw [if_neg m2, if_neg (by omega), if_neg (by omega)]
            · rw [if_neg m1]
          by_cases m50 : n < 50
          · rw [if_pos (nI_lt m50 (by omega))]; exact yv
          · rw [if_neg (nI_nlt (by omega) (by omega)), nI_add, if_neg (nI_nlt (by omega) (by omega))]; exact yv
    · have fd : y 150 1 = 0 := by rw [p2, b2_f s]
      have e1 : pm_ev (d + 1) 150 [.ref 0, .int v] h = some (-1, y) := cl _ (by unfold planX; rw [if_pos fd])
      refine fin (-1) y CPl.rf e1 ?_
      by_cases q1 : ¬ v < nI 10 ∧ v ≤ nI 9 + nI M
      · exact mdl y _ CPl.rf (Or.inl q1) (fun z => absurd z s) (fun _ => rfl)
      by_cases q2 : ¬ v < nI 30 ∧ v ≤ nI 29 + nI M
      · exact mdl y _ CPl.rf (Or.inr (Or.inl q2)) (fun z => absurd z s) (fun _ => rfl)
      by_cases q3 : ¬ v < nI 40 ∧ v ≤ nI 39 + nI M
      · exact mdl y _ CPl.rf (Or.inr (Or.inr (Or.inl q3))) (fun z => absurd z s) (fun _ => rfl)
      by_cases q4 : ¬ v < 0 ∧ v ≤ 1
      · exact mdl y _ CPl.rf (Or.inr (Or.inr (Or.inr (Or.inl q4)))) (fun z => absurd z s) (fun _ => rfl)
      by_cases q5 : ¬ v < nI 50 ∧ v ≤ nI 49 + nI T
      · exact mdl y _ CPl.rf (Or.inr (Or.inr (Or.inr (Or.inr q5)))) (fun z => absurd z s) (fun _ => rfl)
      exact non y CPl.rf q1 q2 q3 q4 q5
end
