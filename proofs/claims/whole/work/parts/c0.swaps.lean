section
variable {T R A n0 n1 q N M : Nat} {L0 L1 : Nat → Ln} {h : pm_Hp}
theorem c_swC {d i j tot : Nat} {cd : Nat → Nat → Prop} {co : Nat → Nat → Nat} {gt : Nat → Nat → Nat → Nat → Prop} {f : Nat → Nat} (hd : 1 ≤ d) (hT : T ≤ 16) (hM : M ≤ 6) (R0 : PRw T M cd co gt h) (hf : ∀ k, k < M → h 151 k = nI (f k) ∧ f k < T ∧ cd k (f k)) (e2 : h 150 2 = nI tot) (et : tot = sm (fun k => co k (f k)) 0 M) (hij : i < j) (hj : j < M) (p : plnP cd gt (swf f i j) M) : pm_ev d 72 [.ref 150, .int (nI i), .int (nI j)] h = some (nI (sm (fun k => co k (swf f i j k)) 0 M), h) := by
  obtain ⟨d, rfl, -⟩ := dpos hd
  obtain ⟨i1, i2, i3⟩ := hf i (by omega)
  obtain ⟨j1, j2, j3⟩ := hf j hj
  have ci : cd i (f j) := by
    have := (p i (by omega)).1
    unfold swf at this
    rw [if_pos rfl] at this
    exact this
  have cj : cd j (f i) := by
    have := (p j hj).1
    unfold swf at this
    rw [if_neg (by omega), if_pos rfl] at this
    exact this
  have s1 := sm_sw (M := M) (co := co) (f := f) hij hj
  have s2 := sm_two (f := fun k => co k (f k)) hij hj
  have s2 : co i (f i) + co j (f j) ≤ sm (fun k => co k (f k)) 0 M := s2
  rw [e_X4_swapCost, pm_at_c (by omega) (by omega), i1, pk_mul, nI_add, pm_at_c (by omega) (by omega), pm_at_c (by omega) (by omega), j1, pk_mul, nI_add, pm_at_c (by omega) (by omega), pm_at_c (by omega) (by omega), j1, nI_add, pm_at_c (by omega) (by omega), pm_at_c (by omega) (by omega), i1, nI_add, pm_at_c (by omega) (by omega), e2, R0.2.2.2.1 i (f i) (by omega) i2 i3, R0.2.2.2.1 j (f j) hj j2 j3, R0.2.2.2.1 i (f j) (by omega) j2 ci, R0.2.2.2.1 j (f i) hj i2 cj, pk_sub (by omega), pk_sub (by omega), nI_add, nI_add]
  rw [show tot - co i (f i) - co j (f j) + co i (f j) + co j (f i) = sm (fun k => co k (swf f i j k)) 0 M by omega]
theorem q_swaps {d : Nat} (hd : 25 ≤ d) (F : FS T R A n0 n1 q N M L0 L1 h) (C : PC T M n0 L0 n1 L1 h) (b34 : h 169 34 = -1) (b35 : h 169 35 = -1) (v : Int32) : MP T M n0 L0 n1 L1 d 151 284 [.int v] h := by
  obtain ⟨d, rfl, -⟩ := dpos hd
  have hA := F.2.1.1
  have hT := F.1.1.1
  have hM := F.2.2.2.2.1.2.1
  obtain ⟨y, a1, a2, a3, a4⟩ := c_ready (d := d) (by omega) F C
  have Fy := F.pf a2
  have y169 : y 169 = h 169 := a2 169 (by omega) (by omega) (by omega) (by omega)
  have yM5 : y 32 5 = nI M := Fy.2.2.2.2.1.2.2.2.2.1
  obtain ⟨p1, p2, p3⟩ := a4
  have D : PD T M n0 L0 n1 L1 y := ⟨p1, p2, p3⟩
  have fin : ∀ (r : Int32) (z : pm_Hp), CPl y z → pm_ev (d + 1) 151 [.ref 0, .int v] h = some (r, z) → (∃ h2, pm_ev (d + 1) 284 [.ref 169, .int v] z = some (r, h2) ∧ (∀ a, a ≠ 169 → (a < 178 ∨ 182 < a) → h2 a = z a) ∧ ∀ j, j ≠ 32 → j ≠ 33 → h2 169 j = z 169 j) → MP T M n0 L0 n1 L1 (d + 1) 151 284 [.int v] h := fun r z Cz e1 ⟨h2, e2, m1, m2⟩ => ⟨r, z, h2, e1, e2, QP.mk a2 a3 D Cz m1 m2⟩
  by_cases g : ¬ v < 0 ∧ v ≤ nI 3
  · by_cases s : (PS T M n0 L0 n1 L1 y).1 = true
    · obtain ⟨f1, f2, f3⟩ := PS_ok (n0 := n0) (L0 := L0) (n1 := n1) (L1 := L1) (h := y) hT hM s
      obtain ⟨p4, p5, p6⟩ := p3 s
      generalize hf : (PS T M n0 L0 n1 L1 y).2.2 = f at f1 f2 p5
      have fd : y 150 1 = 1 := by rw [p2, b2_t s]
      have p5' : ∀ k, k < M → y 151 k = nI (f k) ∧ f k < T := fun k hk => ⟨p5 k hk, (f1 k hk).1⟩
      obtain ⟨z, z1, z2⟩ := c_swL (d := d) (f := f) (by omega) hT hM p1 p5' v
      have zo : ∀ a, a ≠ 163 → z a = y a := fun a x => z2 a (by simpa using x)
      have Cz : CPl y z := ⟨fun a ha => zo a (by omega), fun j _ => by rw [zo 150 (by omega)]⟩
      have Fz : FS T R A n0 n1 q N M L0 L1 z := Fy.pf (fun k _ _ _ w => Cz.1 k (by omega))
      have z170 : z 170 = y 170 := zo 170 (by omega)
      have z169 : z 169 = h 169 := (zo 169 (by omega)).trans y169
      obtain ⟨w, w1, w2, w3, w4⟩ := m_lay0 (d := d) (by omega) Fz (by rw [z169]; exact b35)
      rw [PS_eq z170] at w1 w4
      obtain ⟨x1, x2, x3⟩ := w4.2 s
      rw [hf] at x3
      have w170 : w 170 = y 170 := by rw [w2 170 (by omega) (by omega)]; exact z170
      have w35 : w 169 35 = -1 := by rw [w3 35 (by omega) (by omega), z169]; exact b35
      have Fw : FS T R A n0 n1 q N M L0 L1 w := Fz.cm (fun k hk => w2 k (by omega) (by omega))
      obtain ⟨-, q2, q3⟩ := fun3 (n0 := n0) (n1 := n1) (L0 := L0) (L1 := L1) w170
      have eqP : ∀ i j, i < j → j < M → ((f i ≠ f j ∧ plnP (cdw y) (gtw n1 L1 y) (swf f i j) M) ↔ (f i ≠ f j ∧ cdm w i (f j) ∧ cdm w j (f i) ∧ ∀ a b, a < b → b < M → gtw n1 L1 w a (swf f i j a) b (swf f i j b))) := fun i j hij hj => by
        rw [nbn w35 i (f j) (by have := (f1 j hj).1; omega), nbn w35 j (f i) (by have := (f1 i (by omega)).1; omega), cdw_eq w170, cdw_eq w170, q3]
        have si : swf f i j i = f j := by unfold swf; rw [if_pos rfl]
        have sj : swf f i j j = f i := by unfold swf; rw [if_neg (by omega), if_pos rfl]
        refine ⟨fun u => ⟨u.1, ?_, ?_, fun a b hab hb => (u.2 b hb).2 a hab⟩, fun u => ⟨u.1, fun x hx => ⟨?_, fun b hb => u.2.2.2 b x hb hx⟩⟩⟩
        · have := (u.2 i (by omega)).1; rw [si] at this; exact this
        · have := (u.2 j hj).1; rw [sj] at this; exact this
        · by_cases e1 : x = i
          · rw [e1, si]; exact u.2.1
          · by_cases e2 : x = j
            · rw [e2, sj]; exact u.2.2.1
            · have : swf f i j x = f x := by unfold swf; rw [if_neg e1, if_neg e2]
              rw [this]; exact (f1 x hx).2.1
      obtain ⟨gm, u1, u2⟩ := m_swL (d := d) (f := f) (P := fun i j => f i ≠ f j ∧ plnP (cdw y) (gtw n1 L1 y) (swf f i j) M) (by omega) Fw (fun k hk => ⟨x3 k hk, (f1 k hk).1⟩) eqP v
      have K := swO_K (P := fun i j => f i ≠ f j ∧ plnP (cdw y) (gtw n1 L1 y) (swf f i j) M) (M := M)
      generalize swO (fun i j => f i ≠ f j ∧ plnP (cdw y) (gtw n1 L1 y) (swf f i j) M) M = S at z1 u1 K
      have cl : ∀ r, FINc d v S z = some (r, z) → pm_ev (d + 1) 151 [.ref 0, .int v] h = some (r, z) := fun r e => by
        rw [e_X9_swaps, a1, pm_bd_s, if_neg (by rw [fd]; decide), if_neg g.1, if_pos g.2, yM5, z1, e]
      have ml : ∀ r h2, FINm d v S gm = some (r, h2) → eqi [178, 179] gm h2 → ∃ h2, pm_ev (d + 1) 284 [.ref 169, .int v] z = some (r, h2) ∧ (∀ a, a ≠ 169 → (a < 178 ∨ 182 < a) → h2 a = z a) ∧ ∀ j, j ≠ 32 → j ≠ 33 → h2 169 j = z 169 j := fun r h2 e E => by
        refine ⟨h2, ?_, fun a b1 b2_ => ?_, fun j b1 b2_ => ?_⟩
        · rw [e_X10_swaps, m_isIn (by omega), pm_bd_s, b2_t g, if_neg (by decide), w1, pm_bd_s, b2_t s, if_neg (by decide), u1, e]
        · rw [E a (by simp; omega), u2 a (by simp; omega), w2 a b1 b2_]
        · rw [E 169 (by simp), u2 169 (by simp), w3 j b1 b2_]
      obtain ⟨k, hk, rfl⟩ := kd_ex (by omega) g
      have v0 : (nI k = 0) ↔ k = 0 := nI_eq (b := 0) (by omega) (by omega)
      have v1 : (nI k = 1) ↔ k = 1 := nI_eq (b := 1) (by omega) (by omega)
      by_cases k0 : k = 0
      · refine fin (nI S.1) z Cz (cl _ ?_) (ml _ gm ?_ eqi.rf)
        · unfold FINc; rw [if_pos (v0.mpr k0)]
        · unfold FINm; rw [if_pos (v0.mpr k0)]
      by_cases s0 : S.1 = 0
      · refine fin (-1) z Cz (cl _ ?_) (ml _ gm ?_ eqi.rf)
        · unfold FINc fvS; rw [if_neg (fun e => k0 (v0.mp e)), if_pos s0, if_pos rfl]
        · unfold FINm; rw [if_neg (fun e => k0 (v0.mp e)), if_pos s0, if_pos rfl]
      obtain ⟨c1, c2, c3⟩ := K.resolve_left s0
      have fv : fvS S = nI (S.2.1 * 6 + S.2.2) := if_neg s0
      have dv : fvS S / nI 6 = nI S.2.1 := by rw [fv, pk_div (by omega) (by omega) (by omega), show (S.2.1 * 6 + S.2.2) / 6 = S.2.1 by omega]
      have rm : fvS S - fvS S / nI 6 * nI 6 = nI S.2.2 := by rw [fv, pk_rem (by omega) (by omega) (by omega), show (S.2.1 * 6 + S.2.2) % 6 = S.2.2 by omega]
      have nf : ¬ fvS S = -1 := by rw [fv, nI_m1 (by omega)]; exact id
      have nm_ : ¬ nI S.2.1 = -1 := by rw [nI_m1 (by omega)]; exact id
      by_cases k1 : k = 1
      · refine fin (nI S.2.1) z Cz (cl _ ?_) (ml _ gm ?_ eqi.rf)
        · unfold FINc; rw [if_neg (fun e => k0 (v0.mp e)), if_neg nf, if_pos (v1.mpr k1), dv]
        · unfold FINm; rw [if_neg (fun e => k0 (v0.mp e)), if_neg s0, if_neg nm_, if_pos (v1.mpr k1)]
      by_cases k2 : k = 2
      · refine fin (nI S.2.2) z Cz (cl _ ?_) (ml _ gm ?_ eqi.rf)
        · unfold FINc; rw [if_neg (fun e => k0 (v0.mp e)), if_neg nf, if_neg (fun e => k1 (v1.mp e)), if_pos (by rw [k2]), rm]
        · unfold FINm; rw [if_neg (fun e => k0 (v0.mp e)), if_neg s0, if_neg nm_, if_neg (fun e => k1 (v1.mp e)), if_pos (by rw [k2]), if_neg s0]
      have n2 : ¬ nI k = nI 2 := fun e => k2 ((nI_eq (by omega) (by omega)).mp e)
      have Rz : PRw T M (cdw y) (cow n0 L0 y) (gtw n1 L1 y) z := p1.to (by rw [zo 150 (by omega)]) (by rw [zo 150 (by omega)]) (zo 152 (by omega)) (zo 153 (by omega)) (zo 154 (by omega))
      have cc := c_swC (d := d) (h := z) (f := f) (by omega) hT hM Rz (fun k hk => by rw [zo 151 (by omega)]; exact ⟨p5 k hk, (f1 k hk).1, (f1 k hk).2.1⟩) (by rw [zo 150 (by omega)]; exact p4) f2 c1 c2 c3.2
      have gm170 : gm 170 = y 170 := by rw [u2 170 (by simp)]; exact w170
      obtain ⟨h2, m1, m2⟩ := m_swC (d := d) (h := gm) (i := S.2.1) (j := S.2.2) (f := f) (by omega) (Fw.e178 u2) (by omega) c2 (fun k hk => by rw [u2 181 (by simp)]; exact ⟨x3 k hk, (f1 k hk).1⟩)
      rw [show cow n0 L0 gm = cow n0 L0 y from funext fun i => funext fun t => cow_cg gm170 i t] at m1
      refine fin _ z Cz (cl (nI (sm (fun k => cow n0 L0 y k (swf f S.2.1 S.2.2 k)) 0 M)) ?_) (ml _ h2 ?_ m2)
      · unfold FINc; rw [if_neg (fun e => k0 (v0.mp e)), if_neg nf, if_neg (fun e => k1 (v1.mp e)), if_neg n2, rm, dv, cc, pm_bd_s]
      · unfold FINm; rw [if_neg (fun e => k0 (v0.mp e)), if_neg s0, if_neg nm_, if_neg (fun e => k1 (v1.mp e)), if_neg n2, if_neg s0, m1, pm_bd_s]
    · have fd : y 150 1 = 0 := by rw [p2, b2_f s]
      obtain ⟨w, w1, w2, w3, w4⟩ := m_lay0 (d := d) (by omega) Fy (by rw [y169]; exact b35)
      refine fin (-1) y CPl.rf (by rw [e_X9_swaps, a1, pm_bd_s, if_pos fd]) ⟨w, ?_, w2, w3⟩
      rw [e_X10_swaps, m_isIn (by omega), pm_bd_s, b2_t g, if_neg (by decide), w1, pm_bd_s, b2_f s, if_pos rfl]
  · refine fin (-1) y CPl.rf ?_ ⟨y, by rw [e_X10_swaps, m_isIn (by omega), pm_bd_s, b2_f g, if_pos rfl], fun _ _ _ => rfl, fun _ _ _ => rfl⟩
    rw [e_X9_swaps, a1, pm_bd_s]
    by_cases f0 : y 150 1 = 0
    · rw [if_pos f0]
    · rw [if_neg f0]
      by_cases a : v < 0
      · rw [if_pos a]
      · rw [if_neg a, if_neg (fun b => g ⟨a, b⟩)]
end
