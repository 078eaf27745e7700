section
variable {tp : Nat → Nat} {n : Nat}
def TCs (tp : Nat → Nat) (n A : Nat) (h h1 : pm_Hp) (r : Int32) (R : Rc) : Prop := match R with
  | .inl e => r = -1 ∧ h1 133 2 = nI e.1 ∧ h1 133 3 = nI (tl_ tp n e.2) ∧ ∀ a, (a < 133 ∨ 149 < a) → h1 a = h a
  | .inr q => r = nI q.1.1 ∧ h1 133 2 = 0 ∧ h1 133 3 = -1 ∧ q.1.1 ≤ 6 ∧ WI q.2 q.1.1 A ∧ (∀ a, (a < 32 ∨ (37 ≤ a ∧ a < 133) ∨ 150 < a) → h1 a = h a) ∧ h1 150 0 = 0 ∧ h1 32 4 = nI q.1.1 ∧ h1 32 5 = nI q.2.1 ∧ (∀ i, i < q.1.1 → h1 33 i = nI (q.1.2 i) ∧ q.1.2 i ≤ 99) ∧ ∀ i, i < q.2.1 → h1 34 i = nI (q.2.2 i).1 ∧ h1 35 i = nI (q.2.2 i).2.1 ∧ h1 36 i = nI (q.2.2 i).2.2
theorem c_textS {d A : Nat} {h : pm_Hp} (hd : 9 ≤ d) (hA : A ≤ 6) (eA : h 1 12 = nI A) (hb : ∀ i, tp i < 256) (hn : n ≤ 400) (e1 : h 133 1 = nI n) (et : ∀ i, i < n → h 134 i = nI (tp i)) : ∃ K r h1, KE tp n K ∧ pm_ev d 117 [.ref 0, .int (nI 2)] h = some (r, h1) ∧ h1 133 1 = 0 ∧ TCs tp n A h h1 r (scf (tc tp n) (tv tp n) A 7 m00 w00 0) := by
  obtain ⟨d, rfl, -⟩ := dpos hd
  obtain ⟨K, g, a1, a2, a3, a4, a5, a6, a7, a8⟩ := c_start (d := d) (k := 2) (by omega) (by omega) hb hn e1 et
  obtain ⟨r, y, b1, b2_, b3⟩ := c_scenes (d := d) (A := A) (h := g) (by omega) a1 hA ⟨a7, a8, a6, Nat.zero_le _⟩
  refine ⟨K, ?_⟩
  have gA : g 1 12 = nI A := by rw [a3 1 (by omega) (by omega)]; exact eA
  have key : ∃ r h1, pm_ev (d + 1) 117 [.ref 0, .int (nI 2)] h = some (r, h1) ∧ h1 133 1 = 0 ∧ TCs tp n A h h1 r (scf (tc tp n) (tv tp n) A 7 m00 w00 0) := by
    rw [e_X9_text, a2, pm_bd_s, if_neg (by decide), if_pos rfl, gA, b1, pm_bd_s]
    cases hR : scf (tc tp n) (tv tp n) A 7 m00 w00 0 with
    | inl e =>
      rw [hR] at b3
      rw [if_pos b3.1]
      exact ⟨-1, _, rfl, pm_up_s, rfl, by rw [pm_up_j (by omega)]; exact b3.2.1, by rw [pm_up_j (by omega)]; exact b3.2.2, fun a ha => by rw [pm_up_n (by omega), b2_.1 a (by omega), a3 a (by omega) (by omega)]⟩
    | inr q =>
      rw [hR] at b3
      obtain ⟨c1, c2, c3, c4, c5, c6, c7⟩ := b3
      obtain ⟨z, d1, d2, d3, d4⟩ := c_copyT_t (d := d) (by omega) (pm_up (pm_up y 133 1 0) 150 0 0)
      have w6 := c4.1
      rw [if_neg (by rw [c1]; decide), f_53 (by omega), pm_bd_s, if_pos rfl, d1, pm_bd_s]
      have qq : ∀ a, 135 ≤ a → a ≤ 149 → (pm_up (pm_up y 133 1 0) 150 0 0) a = y a := fun a x1 x2 => by rw [pm_up_n (by omega), pm_up_n (by omega)]
      refine ⟨_, z, rfl, by rw [d2 133 (by omega), pm_up_k (by omega), pm_up_s], ?_, ?_, ?_, c5, c4, fun a ha => ?_, ?_, ?_, ?_, fun i hi => ?_, fun i hi => ?_⟩
      · rw [d3.1, qq 142 (by omega) (by omega)]; exact c2.1
      · rw [d2 133 (by omega), pm_up_k (by omega), pm_up_j (by omega), c6]; exact a4
      · rw [d2 133 (by omega), pm_up_k (by omega), pm_up_j (by omega), c7]; exact a5
      · rw [d2 a (by omega), pm_up_n (by omega), pm_up_n (by omega), b2_.1 a (by omega), a3 a (by omega) (by omega)]
      · rw [d2 150 (by omega), pm_up_s]
      · rw [d3.1, qq 142 (by omega) (by omega)]; exact c2.1
      · rw [d3.2, qq 142 (by omega) (by omega)]; exact c3.1
      · have := d4 1 i (by omega) (by omega) (by omega)
        rw [this, qq 143 (by omega) (by omega)]; exact c2.2 i hi
      · have x1 := d4 2 i (by omega) (by omega) (by omega)
        have x2 := d4 3 i (by omega) (by omega) (by omega)
        have x3 := d4 4 i (by omega) (by omega) (by omega)
        rw [x1, x2, x3, qq 144 (by omega) (by omega), qq 145 (by omega) (by omega), qq 146 (by omega) (by omega)]; exact c3.2 i hi
  obtain ⟨r', h1, k1, k2, k3⟩ := key
  exact ⟨r', h1, a1, k1, k2, k3⟩
def TMs (tp : Nat → Nat) (n A : Nat) (h h1 : pm_Hp) (r : Int32) (R : Rc) : Prop := match R with
  | .inl e => r = -1 ∧ h1 169 25 = nI e.1 ∧ h1 169 27 = nI (tl_ tp n e.2) ∧ ∀ a, a ≠ 169 → a ≠ 175 → a ≠ 176 → h1 a = h a
  | .inr q => r = nI q.1.1 ∧ h1 169 25 = 0 ∧ h1 169 27 = -1 ∧ (∀ a, a ≠ 169 → a ≠ 170 → a ≠ 175 → a ≠ 176 → h1 a = h a) ∧ (∀ x, (x < 327 ∨ (328 < x ∧ x < 366) ∨ 396 ≤ x) → h1 170 x = h 170 x) ∧ h1 170 327 = nI q.1.1 ∧ h1 170 328 = nI q.2.1 ∧ (∀ i, i < q.1.1 → h1 170 (366 + i) = nI (q.1.2 i)) ∧ ∀ i, i < q.2.1 → ww (h1 170) i 0 = nI (q.2.2 i).1 ∧ ww (h1 170) i 1 = nI (q.2.2 i).2.1 ∧ ww (h1 170) i 2 = nI (q.2.2 i).2.2
theorem m_textS {d A K : Nat} {h : pm_Hp} (hd : 12 ≤ d) (hA : A ≤ 6) (eA : h 170 325 = nI A) (hb : ∀ i, tp i < 256) (hn : n ≤ 400) (hK : KE tp n K) (t : TM tp n h) : ∃ r h1, pm_ev d 206 [.ref 169, .int (nI 2)] h = some (r, h1) ∧ h1 169 18 = 0 ∧ (∀ j, (j < 5 ∨ 28 < j) → h1 169 j = h 169 j) ∧ TMs tp n A h h1 r (scf (tc tp n) (tv tp n) A 7 m00 w00 0) := by
  obtain ⟨d, rfl, -⟩ := dpos hd
  have B : HB2 tp n K := ⟨hb, hn, hK, fun j => (tks_bd hb j).2.2.2⟩
  obtain ⟨y, a1, a2, a3, a4, a5, a6, a7, a8⟩ := m_start (d := d) (k := 2) (by omega) (by omega) hb hn t
  obtain ⟨q, z, b1, b2_, b3⟩ := m_scenes (d := d) (A := A) (by omega) B hA ⟨a6, a7, a8⟩ (by rw [a2 170 (by omega)]; exact eA)
  rw [e_X10_text, m_isIn (by omega), pm_bd_s, b2_t ⟨nI_pos (by omega), nI_le (by omega) (by omega)⟩, if_neg (by decide), a1, pm_bd_s, if_pos rfl, b1, pm_bd_s]
  cases hR : scf (tc tp n) (tv tp n) A 7 m00 w00 0 with
  | inl e =>
    rw [hR] at b3
    rw [if_pos b3.1]
    refine ⟨-1, _, rfl, by rw [pm_up_j (by omega), pm_up_j (by omega), pm_up_s], fun j hj => ?_, rfl, ?_, ?_, fun a x1 x2 x3 => ?_⟩
    · rw [pm_up_j (by omega), pm_up_j (by omega), pm_up_j (by omega), b2_.2 j (by omega) (by omega) (by omega) (by omega), a3 j (by omega) (by omega) (by omega) (by omega)]
    · rw [pm_up_j (by omega), pm_up_s]; exact b3.2.1
    · rw [pm_up_s]; exact b3.2.2
    · rw [pm_up_n x1, pm_up_n x1, pm_up_n x1, b2_.1 a x1 x2 x3, a2 a x1]
  | inr p =>
    rw [hR] at b3
    obtain ⟨c1, c2, c3, c4, c5⟩ := b3
    have w6 := c4.1
    obtain ⟨x, d1, d2, d3, d4, d5, d6, d7⟩ := m_putsScenes (d := d) (N := p.1.1) (M := p.2.1) (h := pm_up z 169 18 0) (by omega) c5 w6 (by rw [pm_up_j (by omega)]; exact c2.1) (by rw [pm_up_j (by omega)]; exact c3.1)
    rw [if_neg (by rw [c1]; decide), if_pos rfl, d1, pm_bd_s]
    have xj : ∀ j, j ≠ 18 → x 169 j = z 169 j := fun j hj => by rw [d2 169 (by omega), pm_up_j hj]
    refine ⟨nI p.1.1, x, rfl, by rw [d2 169 (by omega), pm_up_s], fun j hj => ?_, rfl, ?_, ?_, fun a x1 x2 x3 x4 => ?_, fun i hi => ?_, d4, d5, fun i hi => ?_, fun i hi => ?_⟩
    · rw [xj j (by omega), b2_.2 j (by omega) (by omega) (by omega) (by omega), a3 j (by omega) (by omega) (by omega) (by omega)]
    · rw [xj 25 (by omega), b2_.2 25 (by omega) (by omega) (by omega) (by omega)]; exact a4
    · rw [xj 27 (by omega), b2_.2 27 (by omega) (by omega) (by omega) (by omega)]; exact a5
    · rw [d2 a x2, pm_up_n x1, b2_.1 a x1 x3 x4, a2 a x1]
    · rw [d3 i hi, pm_up_k (by omega), b2_.1 170 (by omega) (by omega) (by omega), a2 170 (by omega)]
    · rw [d6 i hi, pm_up_k (by omega)]; exact c2.2 i hi
    · obtain ⟨y1, y2, y3⟩ := c3.2 i hi
      have q0 := d7 (3 * i) (by omega)
      have q1 := d7 (3 * i + 1) (by omega)
      have q2 := d7 (3 * i + 2) (by omega)
      rw [pm_up_k (by omega)] at q0 q1 q2
      exact ⟨by show x 170 (372 + 3 * i + 0) = _; rw [Nat.add_zero, q0]; exact y1, by show x 170 (372 + 3 * i + 1) = _; rw [Nat.add_assoc, q1]; exact y2, by show x 170 (372 + 3 * i + 2) = _; rw [Nat.add_assoc, q2]; exact y3⟩
end
def MX (d c m : Nat) (a : List Value) (h : pm_Hp) : Prop := ∃ r h1 h2, pm_ev d c (.ref 0 :: a) h = some (r, h1) ∧ pm_ev d m (.ref 169 :: a) h1 = some (r, h2) ∧ TP h2 ∧ (∀ k, 185 ≤ k → h2 k = h k) ∧ (tfr h h2 ∨ (h2 150 0 = 0 ∧ IV0 h2))
theorem TP.nil {h : pm_Hp} (a : h 133 1 = 0) (b : h 169 18 = 0) (c : h 133 2 = h 169 25) (d : h 133 3 = h 169 27) (e : h 169 34 = -1) (f : h 169 35 = -1) : TP h := ⟨0, by omega, a, b, fun i hi => absurd hi (Nat.not_lt_zero i), c, d, e, f⟩
theorem mseg_in {h h' : pm_Hp} {k : Nat} (e : ∀ x, inLw k x → h' 170 x = h 170 x) : ∀ (l : List Op) (p : Nat), p + l.length ≤ 410 → mseg h k p l → mseg h' k p l
  | [], _, _, _ => trivial
  | o :: l, p, hp, q => by
    have hp : p + (l.length + 1) ≤ 410 := hp
    refine ⟨⟨?_, fun z => ?_⟩, mseg_in e l (p + 1) (by omega) q.2⟩
    · rw [e _ (by unfold inLw; omega)]; exact q.1.1
    · rw [e _ (by unfold inLw; omega)]; exact q.1.2 z
theorem LW.in_ {k n : Nat} {Ls : Nat → Ln} {h h' : pm_Hp} (e : ∀ x, inLw k x → h' 170 x = h 170 x) (e2 : h' (18 + 7 * k) 6 = h (18 + 7 * k) 6) (e3 : ∀ j, j < 5 → h' (19 + 7 * k + j) = h (19 + 7 * k + j)) (a : LW k n Ls h) : LW k n Ls h' := by
  obtain ⟨a1, a2, a3, a4⟩ := a
  refine ⟨by rw [e2]; exact a1, by rw [e _ (by unfold inLw; omega)]; exact a2, a3, fun j hj => ⟨clsL_eq e3 (a4 j hj).1, ?_, (a4 j hj).2.2⟩⟩
  obtain ⟨p0, p1, p2, b1, b2_, b3, b4, b5, b6, b7, b8, b9⟩ := (a4 j hj).2.1
  exact ⟨p0, p1, p2, by rw [e _ (by unfold inLw; omega)]; exact b1, by rw [e _ (by unfold inLw; omega)]; exact b2_, by rw [e _ (by unfold inLw; omega)]; exact b3, by rw [e _ (by unfold inLw; omega)]; exact b4, b5, b6, b7, mseg_in e _ _ (by omega) b8, mseg_in e _ _ (by omega) b9⟩
/-- all but laws and scenes -/
theorem FS.law {T R A n0 n1 q N M n0' n1' N' M' : Nat} {L0 L1 L0' L1' : Nat → Ln} {h h' : pm_Hp} (F : FS T R A n0 n1 q N M L0 L1 h) (w : ∀ x, (x < 327 ∨ (330 < x ∧ x < 366) ∨ (396 ≤ x ∧ x < 876) ∨ 2644 ≤ x) → h' 170 x = h 170 x) (c : ∀ a, a < 18 → h' a = h a) (l0 : LW 0 n0' L0' h') (l1 : LW 1 n1' L1' h') (s : SN A N' M' h') : FS T R A n0' n1' q N' M' L0' L1' h' := by
  obtain ⟨f1, f2, f3, f4, f5, f6, f7⟩ := F
  refine ⟨f1.ag ⟨fun j hj => w j (by omega), ⟨w _ (by omega), w _ (by omega)⟩, fun r hr => w _ (by omega), ⟨by rw [c 1 (by omega)], by rw [c 1 (by omega)]⟩, fun r hr => by rw [c 15 (by omega)], fun j _ _ => by rw [c 2 (by omega)], fun k j _ _ _ _ => by rw [c k (by omega)], fun j _ => ⟨by rw [c 10 (by omega)], by rw [c 13 (by omega)]⟩, fun j _ => by rw [c 14 (by omega)]⟩, f2.rg (fun j _ _ => w j (by omega)) (w _ (by omega)) (by rw [c 1 (by omega)]) (fun j _ => by rw [c 14 (by omega)]), l0, l1, s, f6.rg (fun j _ _ => w j (by omega)) (w _ (by omega)) (by rw [c 1 (by omega)]) (fun j _ => by rw [c 17 (by omega)]), fun i hi => ?_⟩
  rw [c 16 (by omega), w _ (by omega)]
  exact f7 i hi
theorem KR.txt {T R A c nx : Nat} {h h' : pm_Hp} (w : ∀ x, (x < 327 ∨ (330 < x ∧ x < 366) ∨ (396 ≤ x ∧ x < 876) ∨ 2644 ≤ x) → h' 170 x = h 170 x) (e : ∀ a, (a < 18 ∨ (37 ≤ a ∧ a < 133)) → h' a = h a) (e2 : h' 169 3 = h 169 3) (e3 : h' 172 = h 172) (Z : KR T R A c nx h) : KR T R A c nx h' := by
  obtain ⟨hc, hn, z1, z2, z3, z4⟩ := Z
  refine ⟨hc, hn, by rw [e 77 (by omega)]; exact z1, by rw [e 77 (by omega)]; exact z2, by rw [e2]; exact z3, fun x hx => ?_⟩
  have old := z4 x hx
  have lt : (nx + 5 - x) % 6 < 6 := Nat.mod_lt _ (by omega)
  generalize (nx + 5 - x) % 6 = i at lt old ⊢
  generalize c - 1 - x = j at old ⊢
  refine old.ag ⟨fun x hx => ?_, ⟨?_, ?_⟩, fun r hr => ?_, ⟨?_, ?_⟩, fun r hr => ?_, fun x h1 h2 => ?_, fun k x h1 h2 h3 h4 => ?_, fun x hx => ⟨?_, ?_⟩, fun x hx => ?_⟩
  · rw [kh_w hx, kh_w hx, e3]
  · rw [kh_o (by omega) (by omega), kh_o (by omega) (by omega)]; exact w _ (by omega)
  · rw [kh_o (by omega) (by omega), kh_o (by omega) (by omega)]; exact w _ (by omega)
  · rw [kh_o (by omega) (by omega), kh_o (by omega) (by omega)]; exact w _ (by omega)
  · rw [kh_o (by omega) (by omega), kh_o (by omega) (by omega), e 1 (by omega)]
  · rw [kh_o (by omega) (by omega), kh_o (by omega) (by omega), e 1 (by omega)]
  · rw [kh_o (by omega) (by omega), kh_o (by omega) (by omega), e 15 (by omega)]
  · rw [kh_st (by omega) (by omega), kh_st (by omega) (by omega), e _ (by omega)]
  · by_cases g : k ≤ 10
    · rw [kh_st (by omega) g, kh_st (by omega) g, e _ (by omega)]
    · rw [kh_o (by omega) (by omega), kh_o (by omega) (by omega), e k (by omega)]
  · rw [kh_st (by omega) (by omega), kh_st (by omega) (by omega), e _ (by omega)]
  · rw [kh_o (by omega) (by omega), kh_o (by omega) (by omega), e 13 (by omega)]
  · rw [kh_o (by omega) (by omega), kh_o (by omega) (by omega), e 14 (by omega)]
theorem q_text {T R A n0 n1 q N M c nx d : Nat} {L0 L1 : Nat → Ln} {h : pm_Hp} (hd : 40 ≤ d) (t : TP h) (F : FS T R A n0 n1 q N M L0 L1 h) (Z : KR T R A c nx h) (I : IM h) (v : Int32) : MX d 117 206 [.int v] h := by
  obtain ⟨n, t1, t2, t3, t4, t5, t6, t7, t8⟩ := t
  obtain ⟨tp, hb, et⟩ : ∃ tp : Nat → Nat, (∀ i, tp i < 256) ∧ ∀ i, i < n → h 134 i = nI (tp i) := by
    refine ⟨fun i => if hi : i < n then (t4 i hi).2.choose else 0, fun i => ?_, fun i hi => ?_⟩
    · by_cases hi : i < n
      · show (if hi : i < n then (t4 i hi).2.choose else 0) < 256
        rw [dif_pos hi]
        have := (t4 i hi).2.choose_spec.1
        omega
      · show (if hi : i < n then (t4 i hi).2.choose else 0) < 256
        rw [dif_neg hi]; omega
    · show h 134 i = nI (if hi : i < n then (t4 i hi).2.choose else 0)
      rw [dif_pos hi]
      exact (t4 i hi).2.choose_spec.2
  have tm : ∀ h1 : pm_Hp, h1 169 = h 169 → h1 177 = h 177 → TM tp n h1 := fun h1 x y => ⟨by rw [x]; exact t3, fun i hi => by rw [y, ← (t4 i hi).1]; exact et i hi⟩
  by_cases g : ¬ v < 0 ∧ v ≤ nI 2
  · obtain ⟨k, hk, rfl⟩ := kd_ex (by omega) g
    by_cases k2 : k = 2
    · subst k2
      have hA := F.2.1.1
      obtain ⟨K, r, h1, a1, a2, a3, a4⟩ := c_textS (d := d) (A := A) (by omega) hA F.2.1.2.2.1 hb t1 t2 et
      have o170 : h1 169 = h 169 ∧ h1 177 = h 177 ∧ h1 170 = h 170 := by
        cases hR : scf (tc tp n) (tv tp n) A 7 m00 w00 0 with
        | inl e => rw [hR] at a4; exact ⟨a4.2.2.2 169 (by omega), a4.2.2.2 177 (by omega), a4.2.2.2 170 (by omega)⟩
        | inr p => rw [hR] at a4; exact ⟨a4.2.2.2.2.2.1 169 (by omega), a4.2.2.2.2.2.1 177 (by omega), a4.2.2.2.2.2.1 170 (by omega)⟩
      obtain ⟨r2, h2, b1, b2_, b3', b5⟩ := m_textS (d := d) (A := A) (h := h1) (by omega) hA (by rw [o170.2.2]; exact F.2.1.2.1) hb t1 a1 (tm h1 o170.1 o170.2.1)
      rw [o170.1] at b3'
      have b3 := b3' 3 (by omega)
      have b4 := b3' 4 (by omega)
      have b34 : h2 169 34 = -1 := by rw [b3' 34 (by omega)]; exact t7
      have b35 : h2 169 35 = -1 := by rw [b3' 35 (by omega)]; exact t8
      cases hR : scf (tc tp n) (tv tp n) A 7 m00 w00 0 with
      | inl e =>
        rw [hR] at a4 b5
        obtain ⟨x1, x2, x3, x4⟩ := a4
        obtain ⟨y1, y2, y3, y4⟩ := b5
        have o : ∀ a, (a < 133 ∨ (149 < a ∧ a < 173) ∨ 177 < a) → a ≠ 169 → h2 a = h a := fun a z1 z2 => by rw [y4 a z2 (by omega) (by omega), x4 a (by omega)]
        have o133 : h2 133 = h1 133 := y4 133 (by omega) (by omega) (by omega)
        exact ⟨r, h1, h2, a2, by rw [b1, x1, y1], TP.nil (by rw [o133]; exact a3) b2_ (by rw [o133, x2, y2]) (by rw [o133, x3, y3]) b34 b35, fun k hk => o k (by omega) (by omega), Or.inl ⟨o, b3, b4⟩⟩
      | inr p =>
        rw [hR] at a4 b5
        obtain ⟨x1, x2, x3, x4, x5, x6, x7, x8, x9, x10, x11⟩ := a4
        obtain ⟨y1, y2, y3, y4, y5, y6, y7, y8, y9⟩ := b5
        have o133 : h2 133 = h1 133 := y4 133 (by omega) (by omega) (by omega) (by omega)
        have o : ∀ a, (a < 32 ∨ (37 ≤ a ∧ a < 133) ∨ (150 < a ∧ a ≠ 169 ∧ a ≠ 170 ∧ a ≠ 175 ∧ a ≠ 176)) → h2 a = h a := fun a z => by rw [y4 a (by omega) (by omega) (by omega) (by omega), x6 a (by omega)]
        have w : ∀ x, (x < 327 ∨ (328 < x ∧ x < 366) ∨ 396 ≤ x) → h2 170 x = h 170 x := fun x hx => by rw [y5 x hx, o170.2.2]
        have i32 : ∀ a, 32 ≤ a → a ≤ 36 → h2 a = h1 a := fun a z1 z2 => y4 a (by omega) (by omega) (by omega) (by omega)
        refine ⟨r, h1, h2, a2, by rw [b1, x1, y1], TP.nil (by rw [o133]; exact a3) b2_ (by rw [o133, x2, y2]) (by rw [o133, x3, y3]) b34 b35, fun k hk => o k (by omega), Or.inr ⟨by rw [y4 150 (by omega) (by omega) (by omega) (by omega)]; exact x7, ⟨T, R, A, n0, n1, q, p.1.1, p.2.1, L0, L1, F.law (fun x hx => w x (by omega)) (fun a ha => o a (by omega)) (F.2.2.1.in_ (fun x hx => w x (by unfold inLw at hx; omega)) (by rw [o 18 (by omega)]) (fun j hj => o _ (by omega))) (F.2.2.2.1.in_ (fun x hx => w x (by unfold inLw at hx; omega)) (by rw [o 25 (by omega)]) (fun j hj => o _ (by omega))) ⟨x4, x5.1, by rw [i32 32 (by omega) (by omega)]; exact x8, y6, by rw [i32 32 (by omega) (by omega)]; exact x9, y7, fun i hi => ?_, fun i hi => ?_⟩, c, nx, Z.txt (fun x hx => w x (by omega)) (fun a ha => o a (by omega)) b3 (o 172 (by omega))⟩, I.ag (fun k h1 h2 => o k (by omega)) (o 171 (by omega)) (by rw [o 0 (by omega)]) b4⟩⟩
        · obtain ⟨z1, z2⟩ := x10 i hi
          rw [i32 33 (by omega) (by omega), z1, y8 i hi]
          exact ⟨rfl, _, z2, rfl⟩
        · obtain ⟨z1, z2, z3⟩ := x11 i hi
          obtain ⟨u1, u2, u3⟩ := y9 i hi
          obtain ⟨v1, v2, v3⟩ := x5.2 i hi
          rw [i32 34 (by omega) (by omega), i32 35 (by omega) (by omega), i32 36 (by omega) (by omega), z1, z2, z3, u1, u2, u3]
          exact ⟨⟨rfl, rfl, rfl⟩, _, _, _, v1, v2, v3, rfl, rfl, rfl⟩
    · have hk2 : k < 2 := by omega
      obtain ⟨K, r, h1, a1, a2, a3, a4⟩ := c_textL (d := d) (by omega) hk2 hb t1 t2 et
      have o170 : h1 169 = h 169 ∧ h1 177 = h 177 ∧ h1 170 = h 170 := by
        cases hR : lsf (tc tp n) (tv tp n) k 17 0 0 with
        | inl e => rw [hR] at a4; exact ⟨a4.2.2.2 169 (by omega), a4.2.2.2 177 (by omega), a4.2.2.2 170 (by omega)⟩
        | inr p => rw [hR] at a4; exact ⟨a4.2.2.2.2.1 169 (by omega), a4.2.2.2.2.1 177 (by omega), a4.2.2.2.2.1 170 (by omega)⟩
      obtain ⟨r2, h2, b1, b2_, b3', b5⟩ := m_textL (d := d) (h := h1) (by omega) hk2 hb t1 a1 (tm h1 o170.1 o170.2.1)
      rw [o170.1] at b3'
      have b3 := b3' 3 (by omega)
      have b4 := b3' 4 (by omega)
      have b34 : h2 169 34 = -1 := by rw [b3' 34 (by omega)]; exact t7
      have b35 : h2 169 35 = -1 := by rw [b3' 35 (by omega)]; exact t8
      cases hR : lsf (tc tp n) (tv tp n) k 17 0 0 with
      | inl e =>
        rw [hR] at a4 b5
        obtain ⟨x1, x2, x3, x4⟩ := a4
        obtain ⟨y1, y2, y3, y4⟩ := b5
        have o : ∀ a, (a < 133 ∨ (149 < a ∧ a < 173) ∨ 177 < a) → a ≠ 169 → h2 a = h a := fun a z1 z2 => by rw [y4 a z2 (by omega) (by omega), x4 a (by omega)]
        have o133 : h2 133 = h1 133 := y4 133 (by omega) (by omega) (by omega)
        exact ⟨r, h1, h2, a2, by rw [b1, x1, y1], TP.nil (by rw [o133]; exact a3) b2_ (by rw [o133, x2, y2]) (by rw [o133, x3, y3]) b34 b35, fun k hk => o k (by omega) (by omega), Or.inl ⟨o, b3, b4⟩⟩
      | inr xs =>
        rw [hR] at a4 b5
        obtain ⟨x1, x2, x3, x4, x5, x6, x7, x8, x9⟩ := a4
        obtain ⟨y1, y2, y3, y4, y5, y6, y7⟩ := b5
        have o133 : h2 133 = h1 133 := y4 133 (by omega) (by omega) (by omega) (by omega)
        have o : ∀ a, (a < 18 + 7 * k ∨ (24 + 7 * k ≤ a ∧ a < 133) ∨ (150 < a ∧ a ≠ 169 ∧ a ≠ 170 ∧ a ≠ 173 ∧ a ≠ 174)) → h2 a = h a := fun a z => by rw [y4 a (by omega) (by omega) (by omega) (by omega), x5 a (by omega)]
        have w : ∀ x, ¬ inLw k x → h2 170 x = h 170 x := fun x hx => by rw [y5 x hx, o170.2.2]
        have wf : ∀ x, (x < 327 ∨ (330 < x ∧ x < 366) ∨ (396 ≤ x ∧ x < 876) ∨ 2644 ≤ x) → h2 170 x = h 170 x := fun x hx => w x (by unfold inLw; omega)
        have ln : LW k xs.length (lat xs) h2 := ⟨by rw [y4 (18 + 7 * k) (by omega) (by omega) (by omega) (by omega)]; exact x7, y6, x4, fun j hj => ⟨clsL_eq (fun i hi => y4 _ (by omega) (by omega) (by omega) (by omega)) (x8 j hj), y7 j hj, x9 _ (lat_mem xs j hj)⟩⟩
        have sn : SN A N M h2 := F.2.2.2.2.1.rg (fun j z1 z2 => w j (by unfold inLw; omega)) (w _ (by unfold inLw; omega)) (w _ (by unfold inLw; omega)) (fun a z1 z2 => o a (by omega))
        have kk : k = 0 ∨ k = 1 := by omega
        refine ⟨r, h1, h2, a2, by rw [b1, x1, y1], TP.nil (by rw [o133]; exact a3) b2_ (by rw [o133, x2, y2]) (by rw [o133, x3, y3]) b34 b35, fun k hk => o k (by omega), Or.inr ⟨by rw [y4 150 (by omega) (by omega) (by omega) (by omega)]; exact x6, ?_, I.ag (fun k h1 h2 => o k (by omega)) (o 171 (by omega)) (by rw [o 0 (by omega)]) b4⟩⟩
        have zz : KR T R A c nx h2 := Z.txt wf (fun a ha => o a (by omega)) b3 (o 172 (by omega))
        rcases kk with rfl | rfl
        · exact ⟨T, R, A, xs.length, n1, q, N, M, lat xs, L1, F.law wf (fun a ha => o a (by omega)) ln (F.2.2.2.1.in_ (fun x hx => w x (by unfold inLw at hx ⊢; omega)) (by rw [o 25 (by omega)]) (fun j hj => o _ (by omega))) sn, c, nx, zz⟩
        · exact ⟨T, R, A, n0, xs.length, q, N, M, L0, lat xs, F.law wf (fun a ha => o a (by omega)) (F.2.2.1.in_ (fun x hx => w x (by unfold inLw at hx ⊢; omega)) (by rw [o 18 (by omega)]) (fun j hj => o _ (by omega))) ln sn, c, nx, zz⟩
  · obtain ⟨d, rfl, -⟩ := dpos (show 39 + 1 ≤ d by omega)
    have e76 : pm_ev d 76 [.ref 133, .int v] h = some (0, pm_up (pm_up h 133 2 0) 133 3 (-1)) := by
      obtain ⟨d, rfl, -⟩ := dpos (show 38 + 1 ≤ d by omega)
      rw [e_X5_start]
      by_cases a : v < 0
      · rw [if_pos a]
      · rw [if_neg a, if_neg (fun b => g ⟨a, b⟩)]
    refine ⟨-1, _, _, by rw [e_X9_text, e76, pm_bd_s, if_pos rfl], by rw [e_X10_text, m_isIn (by omega), pm_bd_s, b2_f g, if_pos rfl], ?_, fun k hk => ?_, Or.inl ⟨fun a z1 z2 => ?_, ?_, ?_⟩⟩
    · refine TP.nil ?_ pm_up_s ?_ ?_ (by rw [pm_up_j (by omega), pm_up_j (by omega), pm_up_j (by omega), pm_up_k (by omega), pm_up_k (by omega), pm_up_k (by omega)]; exact t7) (by rw [pm_up_j (by omega), pm_up_j (by omega), pm_up_j (by omega), pm_up_k (by omega), pm_up_k (by omega), pm_up_k (by omega)]; exact t8)
      · rw [pm_up_k (by omega), pm_up_k (by omega), pm_up_k (by omega), pm_up_s]
      · rw [pm_up_k (by omega), pm_up_k (by omega), pm_up_k (by omega), pm_up_j (by omega), pm_up_j (by omega), pm_up_s, pm_up_j (by omega), pm_up_j (by omega), pm_up_s]
      · rw [pm_up_k (by omega), pm_up_k (by omega), pm_up_k (by omega), pm_up_j (by omega), pm_up_s, pm_up_j (by omega), pm_up_s]
    · rw [pm_up_n (by omega), pm_up_n (by omega), pm_up_n (by omega), pm_up_n (by omega), pm_up_n (by omega), pm_up_n (by omega)]
    · rw [pm_up_n (by omega), pm_up_n (by omega), pm_up_n (by omega), pm_up_n (by omega), pm_up_n (by omega), pm_up_n (by omega)]
    · rw [pm_up_j (by omega), pm_up_j (by omega), pm_up_j (by omega), pm_up_k (by omega), pm_up_k (by omega), pm_up_k (by omega)]
    · rw [pm_up_j (by omega), pm_up_j (by omega), pm_up_j (by omega), pm_up_k (by omega), pm_up_k (by omega), pm_up_k (by omega)]
