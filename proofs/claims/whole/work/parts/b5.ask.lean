/-! WHAT IS ASKED of the class's plan -/
section
variable {T W : Nat} {cd ce : Nat → Nat → Prop} {co : Nat → Nat → Nat} {gt : Nat → Nat → Nat → Nat → Prop} {h : pm_Hp}
theorem c_bound {d x : Nat} (hd : 3 ≤ d) (hT : T ≤ 16) (hW : W ≤ 6) (hc : ∀ i t, co i t ≤ 1000000) (R : PRw T W cd co gt h) (hx : x ≤ W) : ((∀ j, x ≤ j → j < W → ∃ b, b < T ∧ cd j b) → pm_ev d 66 [.ref 150, .int (nI x)] h = some (nI (sm (fun j => mnf (cd j) (co j) MAXI T) x (W - x)), h)) ∧ ((∃ j, x ≤ j ∧ j < W ∧ ∀ b, b < T → ¬ cd j b) → pm_ev d 66 [.ref 150, .int (nI x)] h = some (-1, h)) := by
  obtain ⟨d, rfl, -⟩ := dpos hd
  rw [e_X4_bound]
  have key : ∀ (m j : Nat) (u : Value), j + m = W → x ≤ j → ((∀ y, j ≤ y → y < W → ∃ b, b < T ∧ cd y b) → pm_rn d kX4_bound 4 [.ref 150, u, .int (nI (sm (fun j => mnf (cd j) (co j) MAXI T) x (j - x))), .int (nI j)] [] h = some (nI (sm (fun j => mnf (cd j) (co j) MAXI T) x (W - x)), h)) ∧ ((∃ y, j ≤ y ∧ y < W ∧ ∀ b, b < T → ¬ cd y b) → pm_rn d kX4_bound 4 [.ref 150, u, .int (nI (sm (fun j => mnf (cd j) (co j) MAXI T) x (j - x))), .int (nI j)] [] h = some (-1, h)) := by
    intro m
    induction m with
    | zero =>
      intro j u hj hxj
      have : j = W := by omega
      subst this
      refine ⟨fun _ => ?_, fun z => ?_⟩
      · rw [b_X4_bound_4, R.1, if_neg (nI_nlt (by omega) (by omega))]
      · obtain ⟨y, y1, y2, -⟩ := z; omega
    | succ m ih =>
      intro j u hj hxj
      have B := R.2.2.1 j (by omega)
      have z0 := B.eq0 hT
      obtain ⟨i1, i2⟩ := ih (j + 1) u (by omega) (by omega)
      rw [show j + 1 - x = (j - x) + 1 by omega, sm_end, show x + (j - x) = j by omega] at i1 i2
      have st : ∀ o, (∃ b, b < T ∧ cd j b) → pm_rn d kX4_bound 4 [.ref 150, u, .int (nI (sm (fun j => mnf (cd j) (co j) MAXI T) x (j - x) + mnf (cd j) (co j) MAXI T)), .int (nI (j + 1))] [] h = o → pm_rn d kX4_bound 4 [.ref 150, u, .int (nI (sm (fun j => mnf (cd j) (co j) MAXI T) x (j - x))), .int (nI j)] [] h = o := fun o ex e => by
        rw [b_X4_bound_4, R.1, if_pos (nI_lt (by omega) (by omega)), pm_at_c (by omega) (by omega), if_neg (fun z => by
          obtain ⟨b, hb, cb⟩ := ex
          exact z0.mp z b hb cb), pm_at_c (by omega) (by omega), c_cheap (by omega) hT hW hc R (by omega) B (fun _ _ z => z), pm_bd_s, nI_add, nI_1]
        exact e
      refine ⟨fun all => ?_, fun z => ?_⟩
      · exact st _ (all j (Nat.le_refl _) (by omega)) (i1 (fun y h1 h2 => all y (by omega) h2))
      · by_cases ex : ∃ b, b < T ∧ cd j b
        · refine st _ ex (i2 ?_)
          obtain ⟨y, y1, y2, y3⟩ := z
          by_cases e : y = j
          · obtain ⟨b, hb, cb⟩ := ex
            exact absurd cb (by rw [← e]; exact y3 b hb)
          · exact ⟨y, by omega, y2, y3⟩
        · rw [b_X4_bound_4, R.1, if_pos (nI_lt (by omega) (by omega)), pm_at_c (by omega) (by omega), if_pos (z0.mpr (fun b hb cb => ex ⟨b, hb, cb⟩))]
  obtain ⟨k1, k2⟩ := key (W - x) x (.int (nI x)) (by omega) (Nat.le_refl _)
  rw [Nat.sub_self] at k1 k2
  exact ⟨k1, k2⟩
theorem c_uses {d : Nat} (hd : 1 ≤ d) (hW : W ≤ 6) (R : PRw T W cd co gt h) (v : Int32) : ∃ r, pm_ev d 67 [.ref 150, .int v] h = some (r, h) ∧ bs W r (fun k => h 151 k = v) := by
  obtain ⟨d, rfl, -⟩ := dpos hd
  rw [e_X4_uses]
  have key : ∀ (m k : Nat) (r : Int32), k + m = W → bs W r (fun x => h 151 x = v ∧ x < k) → ∃ r', pm_rn d kX4_uses 4 [.ref 150, .int v, .int r, .int (nI k)] [] h = some (r', h) ∧ bs W r' (fun k => h 151 k = v) := by
    intro m
    induction m with
    | zero =>
      intro k r hk B
      rw [b_X4_uses_4, R.1, if_neg (nI_nlt (by omega) (by omega))]
      exact ⟨r, rfl, B.cg (fun b hb => ⟨fun z => z.1, fun z => ⟨z, by omega⟩⟩)⟩
    | succ m ih =>
      intro k r hk B
      rw [b_X4_uses_4, R.1, if_pos (nI_lt (by omega) (by omega)), pm_at_c (by omega) (by omega), nI_1]
      by_cases g : h 151 k = v
      · rw [if_pos g]
        refine ih (k + 1) _ (by omega) ((B.add (by omega) (by omega)).cg (fun b hb => ⟨fun z => ?_, fun z => ?_⟩))
        · rcases z with z | z
          · exact ⟨z.1, by omega⟩
          · rw [z]; exact ⟨g, by omega⟩
        · by_cases e : b = k
          · exact Or.inr e
          · exact Or.inl ⟨z.1, by omega⟩
      · rw [if_neg g]
        refine ih (k + 1) _ (by omega) (B.cg (fun b hb => ⟨fun z => ⟨z.1, by omega⟩, fun z => ⟨z.1, ?_⟩⟩))
        by_cases e : b = k
        · have := z.1; rw [e] at this; exact absurd this g
        · omega
  exact key W 0 0 (by omega) (bs.zero.cg (fun b hb => ⟨fun z => absurd z id, fun z => absurd z.2 (Nat.not_lt_zero b)⟩))
theorem b56 {d i t j : Nat} (hd : 1 ≤ d) (y : pm_Hp) : pm_ev d 56 [.int (nI i), .int (nI t), .int (nI j)] y = some (nI ((i * 16 + t) * 6 + j), y) := by
  obtain ⟨d, rfl, -⟩ := dpos hd
  rw [e_X4_besideAt, pk_mul, nI_add, pk_mul, nI_add]
/-- what could be there instead -/
def insP (cd : Nat → Nat → Prop) (gt : Nat → Nat → Nat → Nat → Prop) (W : Nat) (f : Nat → Nat) (i t : Nat) : Prop := cd i t ∧ t ≠ f i ∧ (∀ j, j < i → gt j (f j) i t) ∧ ∀ j, i < j → j < W → gt i t j (f j)
theorem c_inst {d i : Nat} {f : Nat → Nat} (hd : 3 ≤ d) (hT : T ≤ 16) (hW : W ≤ 6) (R : PRw T W cd co gt h) (hi : i < W) (hf : ∀ k, k < W → h 151 k = nI (f k) ∧ f k < T ∧ cd k (f k)) : ∃ r, pm_ev d 68 [.ref 150, .int (nI i)] h = some (r, h) ∧ bs T r (insP cd gt W f i) := by
  obtain ⟨d, rfl, -⟩ := dpos hd
  rw [e_X4_instead, pm_at_c (by omega) (by omega), pm_at_c (by omega) (by omega), (hf i hi).1]
  /- behind the wear -/
  have aft : ∀ (m t : Nat) (r : Int32) (u : Value), t + m = T → bs T r (fun b => (cd i b ∧ b ≠ f i ∧ ∀ j, j < i → gt j (f j) i b) ∧ (b < t → ∀ j, i < j → j < W → gt i b j (f j))) → ∃ r', pm_rn d kX4_instead 52 [.ref 150, .int (nI i), .int r, .int (nI t), u] [] h = some (r', h) ∧ bs T r' (insP cd gt W f i) := by
    intro m
    induction m with
    | zero =>
      intro t r u ht B
      rw [b_X4_instead_52, R.2.1, if_neg (nI_nlt (by omega) (by omega))]
      exact ⟨r, rfl, B.cg (fun b hb => ⟨fun z => ⟨z.1.1, z.1.2.1, z.1.2.2, z.2 (by omega)⟩, fun z => ⟨⟨z.1, z.2.1, z.2.2.1⟩, fun _ => z.2.2.2⟩⟩)⟩
    | succ m ih =>
      intro t r u ht B
      have tT : t < T := by omega
      have inn : ∀ (mm j : Nat) (r : Int32), j + mm = W → i < j → bs T r (fun b => (cd i b ∧ b ≠ f i ∧ ∀ j, j < i → gt j (f j) i b) ∧ (b < t → ∀ j, i < j → j < W → gt i b j (f j)) ∧ (b = t → ∀ k, i < k → k < j → gt i b k (f k))) → ∃ r', pm_rn d kX4_instead 65 [.ref 150, .int (nI i), .int r, .int (nI t), .int (nI j)] [] h = some (r', h) ∧ bs T r' (insP cd gt W f i) := by
        intro mm
        induction mm with
        | zero =>
          intro j r hj hij B
          rw [b_X4_instead_65, R.1, if_neg (nI_nlt (by omega) (by omega)), nI_1]
          refine ih (t + 1) r _ (by omega) (B.cg (fun b hb => ⟨fun z => ⟨z.1, fun q => ?_⟩, fun z => ⟨z.1, fun q => z.2 (by omega), fun q k h1 h2 => z.2 (by omega) k h1 (by omega)⟩⟩))
          by_cases e : b = t
          · exact fun k h1 h2 => z.2.2 e k h1 (by omega)
          · exact z.2.1 (by omega)
        | succ mm ih2 =>
          intro j r hj hij B
          rw [b_X4_instead_65, R.1, if_pos (nI_lt (by omega) (by omega)), B.has (by omega) hT tT, pm_bd_s]
          by_cases g : (cd i t ∧ t ≠ f i ∧ ∀ j, j < i → gt j (f j) i t) ∧ (t < t → ∀ j, i < j → j < W → gt i t j (f j)) ∧ (t = t → ∀ k, i < k → k < j → gt i t k (f k))
          · rw [ck_t g, if_neg (by decide), b56 (by omega), pm_bd_s, pm_at_c (by omega) (by omega), pm_at_c (by omega) (by omega), (hf j (by omega)).1, (R.2.2.2.2 i t j hij (by omega) tT g.1.1).has (by omega) hT (hf j (by omega)).2.1, pm_bd_s, nI_1]
            by_cases g2 : gt i t j (f j)
            · rw [ck_t ⟨(hf j (by omega)).2.2, g2⟩, if_neg (by decide)]
              refine ih2 (j + 1) r (by omega) (by omega) (B.cg (fun b hb => ⟨fun z => ⟨z.1, z.2.1, fun q k h1 h2 => ?_⟩, fun z => ⟨z.1, z.2.1, fun q k h1 h2 => z.2.2 q k h1 (by omega)⟩⟩))
              by_cases e : k = j
              · rw [e, q]; exact g2
              · exact z.2.2 q k h1 (by omega)
            · rw [ck_f (fun z => g2 z.2), if_pos rfl]
              refine ih2 (j + 1) _ (by omega) (by omega) ((B.del hT tT).cg (fun b hb => ⟨fun z => ⟨z.1.1, z.1.2.1, fun q => absurd q z.2⟩, fun z => ⟨⟨z.1, z.2.1, fun q k h1 h2 => z.2.2 q k h1 (by omega)⟩, fun q => ?_⟩⟩))
              have := z.2.2 q j hij (by omega)
              rw [q] at this
              exact g2 this
          · rw [ck_f g, if_pos rfl, nI_1]
            refine ih (t + 1) r _ (by omega) (B.cg (fun b hb => ⟨fun z => ⟨z.1, fun q => ?_⟩, fun z => ⟨z.1, fun q => z.2 (by omega), fun q k h1 h2 => z.2 (by omega) k h1 (by omega)⟩⟩))
            by_cases e : b = t
            · rw [e] at z; exact absurd z g
            · exact z.2.1 (by omega)
      rw [b_X4_instead_52, R.2.1, if_pos (nI_lt (by omega) (by omega)), nI_1]
      exact inn (W - (i + 1)) (i + 1) r (by omega) (by omega) (B.cg (fun b hb => ⟨fun z => ⟨z.1, z.2, fun q k h1 h2 => by omega⟩, fun z => ⟨z.1, z.2.1⟩⟩))
  have bef : ∀ (m j : Nat) (r : Int32) (u : Value), j + m = i → bs T r (fun b => cd i b ∧ b ≠ f i ∧ ∀ k, k < j → gt k (f k) i b) → ∃ r', pm_rn d kX4_instead 20 [.ref 150, .int (nI i), .int r, .int (nI j), u] [] h = some (r', h) ∧ bs T r' (insP cd gt W f i) := by
    intro m
    induction m with
    | zero =>
      intro j r u hj B
      rw [b_X4_instead_20, if_neg (nI_nlt (by omega) (by omega))]
      refine aft T 0 r u (by omega) (B.cg (fun b hb => ⟨fun z => ⟨⟨z.1, z.2.1, fun k hk => z.2.2 k (by omega)⟩, fun q => absurd q (Nat.not_lt_zero b)⟩, fun z => ⟨z.1.1, z.1.2.1, fun k hk => z.1.2.2 k (by omega)⟩⟩))
    | succ m ih =>
      intro j r u hj B
      obtain ⟨f1, f2, f3⟩ := hf j (by omega)
      rw [b_X4_instead_20, if_pos (nI_lt (by omega) (by omega)), pm_at_c (by omega) (by omega), f1, b56 (by omega), pm_bd_s, pm_at_c (by omega) (by omega), nI_1]
      refine ih (j + 1) _ u (by omega) ((B.and_ (R.2.2.2.2 j (f j) i (by omega) hi f2 f3)).cg (fun b hb => ⟨fun z => ⟨z.1.1, z.1.2.1, fun k hk => ?_⟩, fun z => ⟨⟨z.1, z.2.1, fun k hk => z.2.2 k (by omega)⟩, z.1, z.2.2 j (by omega)⟩⟩))
      by_cases e : k = j
      · rw [e]; exact z.2.2
      · exact z.1.2.2 k (by omega)
  exact bef i 0 _ .null (by omega) (((R.2.2.1 i hi).del hT (hf i hi).2.1).cg (fun b hb => ⟨fun z => ⟨z.1, z.2, fun k hk => absurd hk (Nat.not_lt_zero k)⟩, fun z => ⟨z.1, z.2.1⟩⟩))
theorem c_other {d i : Nat} {f : Nat → Nat} (hd : 16 ≤ d) (hT : T ≤ 16) (hW : W ≤ 6) (hc : ∀ i t, co i t ≤ 100000) (R : PRw T W cd co gt h) (hi : i < W) (hf : h 151 i = nI (f i) ∧ f i < T) (hce : ∀ k b, k < W → b < T → (ce k b ↔ (cd k b ∧ ¬ (k = i ∧ b = f i)))) (he : ∀ k b, ce k b → cd k b) : ∃ h', pm_ev d 69 [.ref 150, .int (nI i)] h = some (if (exs T ce co gt W 0 (fun _ => 0) 0 s00).1 = true then nI (exs T ce co gt W 0 (fun _ => 0) 0 s00).2.1 else -1, h') ∧ (∀ a, (a < 150 ∨ (150 < a ∧ a < 156) ∨ (164 < a ∧ a ≠ 185)) → h' a = h a) ∧ ∀ j, j ≠ 13 → h' 150 j = h 150 j := by
  obtain ⟨d, rfl, -⟩ := dpos hd
  obtain ⟨y, a1, a2, a3⟩ := c_startS (d := d) (by omega) hW R
  rw [e_X4_otherwise, a1, pm_bd_s]
  /- the search over what is left -/
  have fin : ∀ g : pm_Hp, (∀ a, (a < 156 ∨ 161 < a) → g a = h a) → (∀ p j, p ≤ j → j < W → bs T (g (156 + p) j) (ce j)) → ∃ h', (pm_bd (pm_ev d 62 [.ref 150] g) fun r1 y1 => if r1 = 0 then (some ((-1), y1)) else (some (y1 150 13, y1))) = some (if (exs T ce co gt W 0 (fun _ => 0) 0 s00).1 = true then nI (exs T ce co gt W 0 (fun _ => 0) 0 s00).2.1 else -1, h') ∧ (∀ a, (a < 150 ∨ (150 < a ∧ a < 156) ∨ (164 < a ∧ a ≠ 185)) → h' a = h a) ∧ ∀ j, j ≠ 13 → h' 150 j = h 150 j := fun g go Lg => by
    have Rg : PRw T W cd co gt g := R.to (by rw [go 150 (by omega)]) (by rw [go 150 (by omega)]) (go 152 (by omega)) (go 153 (by omega)) (go 154 (by omega))
    obtain ⟨z, b1, b2_, b3⟩ := c_searchAll (d := d) (by omega) hT hW hc he Rg Lg
    rw [b1, pm_bd_s]
    have zo : ∀ a, (a < 150 ∨ (150 < a ∧ a < 156) ∨ (164 < a ∧ a ≠ 185)) → z a = h a := fun a x => by rw [b2_.1 a (by omega)]; exact go a (by omega)
    have zj : ∀ j, j ≠ 13 → z 150 j = h 150 j := fun j x => by rw [b2_.2.1 j x, go 150 (by omega)]
    by_cases s : (exs T ce co gt W 0 (fun _ => 0) 0 s00).1 = true
    · rw [b2_t s, if_neg (by decide), if_pos s]
      refine ⟨z, ?_, zo, zj⟩
      rw [b3.1, if_pos s]
    · rw [b2_f s, if_pos rfl, if_neg s]
      exact ⟨z, rfl, zo, zj⟩
  have key : ∀ (m k : Nat) (g : pm_Hp), k + m = i + 1 → (∀ a, (a < 156 ∨ 161 < a) → g a = h a) → (∀ p j, p ≤ j → j < W → bs T (g (156 + p) j) (fun b => cd j b ∧ (p < k → ¬ (j = i ∧ b = f i)))) → ∃ h', pm_rn d kX4_otherwise 6 [.ref 150, .int (nI i), .int (nI k)] [] g = some (if (exs T ce co gt W 0 (fun _ => 0) 0 s00).1 = true then nI (exs T ce co gt W 0 (fun _ => 0) 0 s00).2.1 else -1, h') ∧ (∀ a, (a < 150 ∨ (150 < a ∧ a < 156) ∨ (164 < a ∧ a ≠ 185)) → h' a = h a) ∧ ∀ j, j ≠ 13 → h' 150 j = h 150 j := by
    intro m
    induction m with
    | zero =>
      intro k g hk go Lg
      rw [b_X4_otherwise_6, if_neg (fun z => by have := (nI_leI (by omega) (by omega)).mp z; omega)]
      refine fin g go (fun p j h1 h2 => (Lg p j h1 h2).cg (fun b hb => ?_))
      rw [hce j b h2 hb]
      refine ⟨fun z => ⟨z.1, fun w => ?_⟩, fun z => ⟨z.1, fun _ => z.2⟩⟩
      exact z.2 (by have := w.1; omega) w
    | succ m ih =>
      intro k g hk go Lg
      rw [b_X4_otherwise_6, if_pos ((nI_leI (by omega) (by omega)).mpr (by omega)), pm_at_c (by omega) (by omega), ob155 k (by omega), b_oth (by omega), pm_at_c (by omega) (by omega), pm_at_c (by omega) (by omega), pm_at_c (by omega) (by omega), nI_1, go 151 (by omega), hf.1]
      refine ih (k + 1) _ (by omega) (fun a ha => by rw [pm_up_n (by omega)]; exact go a ha) (fun p j h1 h2 => ?_)
      by_cases e : p = k
      · rw [e]
        rw [e] at h1
        by_cases e2 : j = i
        · rw [e2, pm_up_s]
          refine ((Lg k i (by omega) hi).del hT hf.2).cg (fun b hb => ⟨fun z => ⟨z.1.1, fun _ w => z.2 w.2⟩, fun z => ⟨⟨z.1, fun w => absurd w (by omega)⟩, fun w => z.2 (by omega) ⟨rfl, w⟩⟩⟩)
        · rw [pm_up_j e2]
          exact (Lg k j h1 h2).cg (fun b hb => ⟨fun z => ⟨z.1, fun _ w => e2 w.1⟩, fun z => ⟨z.1, fun w => absurd w (by omega)⟩⟩)
      · rw [pm_up_k (by omega)]
        exact (Lg p j h1 h2).cg (fun b hb => ⟨fun z => ⟨z.1, fun w => z.2 (by omega)⟩, fun z => ⟨z.1, fun w => z.2 (by omega)⟩⟩)
  exact key (i + 1) 0 y (by omega) a2 (fun p j h1 h2 => by
    rw [a3 p j (by omega) h2]
    exact (R.2.2.1 j h2).cg (fun b hb => ⟨fun z => ⟨z, fun w => absurd w (Nat.not_lt_zero p)⟩, fun z => z.1⟩))
/-- whether what is tried is a plan -/
def plnP (cd : Nat → Nat → Prop) (gt : Nat → Nat → Nat → Nat → Prop) (f : Nat → Nat) (i : Nat) : Prop := ∀ x, x < i → cd x (f x) ∧ ∀ y, y < x → gt y (f y) x (f x)
theorem c_isPlan {d : Nat} {f : Nat → Nat} (hd : 3 ≤ d) (hT : T ≤ 16) (hW : W ≤ 6) (R : PRw T W cd co gt h) (hf : ∀ k, k < W → h 163 k = nI (f k) ∧ f k < T) : pm_ev d 71 [.ref 150] h = some (ck (plnP cd gt f W) 1 0, h) := by
  obtain ⟨d, rfl, -⟩ := dpos hd
  rw [e_X4_isPlan]
  have out : ∀ (m i : Nat) (u : Value), i + m = W → plnP cd gt f i → pm_rn d kX4_isPlan 2 [.ref 150, .int (nI i), u] [] h = some (ck (plnP cd gt f W) 1 0, h) := by
    intro m
    induction m with
    | zero =>
      intro i u hi P
      have : i = W := by omega
      subst this
      rw [b_X4_isPlan_2, R.1, if_neg (nI_nlt (by omega) (by omega)), ck_t P]
    | succ m ih =>
      intro i u hi P
      have iW : i < W := by omega
      rw [b_X4_isPlan_2, R.1, if_pos (nI_lt (by omega) (by omega)), pm_at_c (by omega) (by omega), pm_at_c (by omega) (by omega), (hf i iW).1, (R.2.2.1 i iW).has (by omega) hT (hf i iW).2, pm_bd_s]
      by_cases g : cd i (f i)
      · rw [ck_t g, if_neg (by decide)]
        have inn : ∀ (mm j : Nat), j + mm = i → (∀ y, y < j → gt y (f y) i (f i)) → pm_rn d kX4_isPlan 32 [.ref 150, .int (nI i), .int (nI j)] [] h = some (ck (plnP cd gt f W) 1 0, h) := by
          intro mm
          induction mm with
          | zero =>
            intro j hj G
            rw [b_X4_isPlan_32, if_neg (nI_nlt (by omega) (by omega)), nI_1]
            refine ih (i + 1) _ (by omega) (fun x hx => ?_)
            by_cases e : x = i
            · rw [e]; exact ⟨g, fun y hy => G y (by omega)⟩
            · exact P x (by omega)
          | succ mm ih2 =>
            intro j hj G
            have cj := (P j (by omega)).1
            rw [b_X4_isPlan_32, if_pos (nI_lt (by omega) (by omega)), pm_at_c (by omega) (by omega), (hf j (by omega)).1, b56 (by omega), pm_bd_s, pm_at_c (by have := (hf j (by omega)).2; omega) (by omega), pm_at_c (by omega) (by omega), (hf i iW).1, (R.2.2.2.2 j (f j) i (by omega) iW (hf j (by omega)).2 cj).has (by omega) hT (hf i iW).2, pm_bd_s, nI_1]
            by_cases g2 : gt j (f j) i (f i)
            · rw [ck_t ⟨g, g2⟩, if_neg (by decide)]
              refine ih2 (j + 1) (by omega) (fun y hy => ?_)
              by_cases e : y = j
              · rw [e]; exact g2
              · exact G y (by omega)
            · rw [ck_f (fun z => g2 z.2), if_pos rfl, ck_f (fun z => g2 ((z i iW).2 j (by omega)))]
        exact inn i 0 (by omega) (fun y hy => absurd hy (Nat.not_lt_zero y))
      · rw [ck_f g, if_pos rfl, ck_f (fun z => g (z i iW).1)]
  exact out W 0 .null (by omega) (fun x hx => absurd hx (Nat.not_lt_zero x))
/-- with two exchanged -/
def swf (f : Nat → Nat) (i j k : Nat) : Nat := if k = i then f j else if k = j then f i else f k
theorem c_canSwap {d i j : Nat} {f : Nat → Nat} (hd : 4 ≤ d) (hT : T ≤ 16) (hW : W ≤ 6) (R : PRw T W cd co gt h) (hij : i < j) (hj : j < W) (hf : ∀ k, k < W → h 151 k = nI (f k) ∧ f k < T) : ∃ h', pm_ev d 70 [.ref 150, .int (nI i), .int (nI j)] h = some (ck (f i ≠ f j ∧ plnP cd gt (swf f i j) W) 1 0, h') ∧ eqi [163] h h' := by
  obtain ⟨d, rfl, -⟩ := dpos hd
  obtain ⟨i1, i2⟩ := hf i (by omega)
  obtain ⟨j1, j2⟩ := hf j hj
  rw [e_X4_canSwap, pm_at_c (by omega) (by omega), pm_at_c (by omega) (by omega), i1, j1, nI_ite (by omega) (by omega)]
  by_cases g : f i = f j
  · rw [if_pos g, ck_f (fun z => z.1 g)]
    exact ⟨h, rfl, eqi.rf⟩
  · rw [if_neg g, r_151_163 (by omega), pm_bd_s, pm_at_c (by omega) (by omega), pm_at_c (by omega) (by omega), pm_at_c (by omega) (by omega), pm_at_c (by omega) (by omega), cp_a (by omega), i1, j1]
    generalize hg : pm_up (pm_up (pm_cp h 151 163 0 0 6) 163 i (nI (f j))) 163 j (nI (f i)) = y
    have yo : ∀ a, a ≠ 163 → y a = h a := fun a x => by rw [← hg, pm_up_n x, pm_up_n x, cp_a x]
    have Ry : PRw T W cd co gt y := R.to (by rw [yo 150 (by omega)]) (by rw [yo 150 (by omega)]) (yo 152 (by omega)) (yo 153 (by omega)) (yo 154 (by omega))
    have fy : ∀ k, k < W → y 163 k = nI (swf f i j k) ∧ swf f i j k < T := fun k hk => by
      unfold swf
      by_cases e1 : k = i
      · rw [if_pos e1, e1, ← hg, pm_up_j (by omega), pm_up_s]; exact ⟨rfl, j2⟩
      · rw [if_neg e1]
        by_cases e2 : k = j
        · rw [if_pos e2, e2, ← hg, pm_up_s]; exact ⟨rfl, i2⟩
        · rw [if_neg e2, ← hg, pm_up_j e2, pm_up_j e1, cp_b (by omega)]
          exact hf k hk
    rw [c_isPlan (by omega) hT hW Ry fy, pm_bd_s]
    refine ⟨y, ?_, fun a ha => yo a (by simpa using ha)⟩
    by_cases p : plnP cd gt (swf f i j) W
    · rw [ck_t p, pm_bw_1, ck_t ⟨g, p⟩]
    · rw [ck_f p, pm_bw_0, ck_f (fun z => p z.2)]
end
