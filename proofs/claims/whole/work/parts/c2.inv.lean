/-! THE PLAN STANDS ON THE CELLS BEFORE THE WISHES -/
def c44 (h h' : pm_Hp) : Prop := ∀ x, x < 2644 → x ≠ 331 → h' 170 x = h 170 x
theorem wq44 {h h' : pm_Hp} (e : c44 h h') {t f : Nat} (ht : t < 16) (hf : f < 20) : wq h' t f = wq h t f := e _ (by omega) (by omega)
theorem pa44 {h h' : pm_Hp} (e : c44 h h') {t : Nat} (ht : t < 16) : pa h' t = pa h t := by
  unfold pa
  rw [wq44 e ht (by omega)]
theorem ou44 {T R : Nat} {h h' : pm_Hp} (e : c44 h h') (P : Pl T R h) : ∀ (n t : Nat), t < T → ou h' n t = ou h n t ∧ ou h n t < T := by
  have hT := P.1
  intro n
  induction n with
  | zero => intro t ht; exact ⟨rfl, ht⟩
  | succ n ih =>
    intro t ht
    unfold ou
    rw [pa44 e (by omega)]
    rcases pa_cases P ht with ⟨x, -⟩ | ⟨p, hp, x, -⟩
    · rw [x]; exact ⟨rfl, ht⟩
    · rw [x]; exact ih p hp
theorem aw44 {T R : Nat} {h h' : pm_Hp} (e : c44 h h') (P : Pl T R h) {t : Nat} (ht : t < T) : aw h' t = aw h t := by
  have hT := P.1
  obtain ⟨a, b⟩ := ou44 e P 4 t ht
  show (wq h' (ou h' 4 t) 5 = nI 100) = (wq h (ou h 4 t) 5 = nI 100)
  rw [a, wq44 e (by omega) (by omega)]
theorem ww44 {h h' : pm_Hp} (e : c44 h h') {i f : Nat} (hi : i < 6) (hf : f < 3) : ww (h' 170) i f = ww (h 170) i f := e _ (by omega) (by omega)
theorem wsc44 {h h' : pm_Hp} (e : c44 h h') {i : Nat} (hi : i < 6) : wsc h' i = wsc h i := by unfold wsc; rw [ww44 e hi (by omega)]
theorem wac44 {h h' : pm_Hp} (e : c44 h h') {i : Nat} (hi : i < 6) : wac h' i = wac h i := by unfold wac; rw [ww44 e hi (by omega)]
theorem wkd44 {h h' : pm_Hp} (e : c44 h h') {i : Nat} (hi : i < 6) : wkd h' i = wkd h i := by unfold wkd; rw [ww44 e hi (by omega)]
theorem fi44 {h h' : pm_Hp} (e : c44 h h') {t a : Nat} (ht : t < 16) (ha : a < 6) : ∀ (n i : Nat) (o : Bool), i + n = 5 → fi (h' 170) t a i n o = fi (h 170) t a i n o := by
  intro n
  induction n with
  | zero => intro i o _; rfl
  | succ n ih =>
    intro i o hi
    unfold fi
    rw [ih (i + 1) _ (by omega), e (4 + 20 * t + (10 + i)) (by omega) (by omega), e (332 + 5 * a + i) (by omega) (by omega), e (4 + 20 * t + 1) (by omega) (by omega)]
theorem fct44 {h h' : pm_Hp} (e : c44 h h') {t : Nat} (ht : t < 16) (a b c d f : Int32) : fct (h' 170) t a b c d f = fct (h 170) t a b c d f := by
  unfold fct
  rw [e (4 + 20 * t + 0) (by omega) (by omega), e (4 + 20 * t + 1) (by omega) (by omega), e (4 + 20 * t + 4) (by omega) (by omega), e (4 + 20 * t + 2) (by omega) (by omega)]
theorem prc44 {h h' : pm_Hp} (e : c44 h h') {t n : Nat} {Ls : Nat → Ln} (ht : t < 16) {to to' : Nat → Int32} (f : ∀ m, m < 5 → to' m = to m) : prc (h' 170) n Ls t to' = prc (h 170) n Ls t to := by
  unfold prc
  refine itr_cq 5 0 0 (fun m s _ hm => ?_)
  unfold prg pr1
  rw [fct44 e ht, f m (by omega), e (4 + 20 * t + (15 + m)) (by omega) (by omega), e (4 + 20 * t + 3) (by omega) (by omega)]
theorem cow44 {h h' : pm_Hp} (e : c44 h h') {n i t : Nat} {Ls : Nat → Ln} (hi : i < 6) (ha : wac h i < 6) (ht : t < 16) : cow n Ls h' i t = cow n Ls h i t := by
  unfold cow
  rw [wac44 e hi, prc44 e ht (to := too (h 170) t (some (wac h i))) (to' := too (h' 170) t (some (wac h i))) (fun m hm => e _ (by omega) (by omega))]
theorem chv44 {h h' : pm_Hp} (e : c44 h h') {n t k : Nat} {Ls : Nat → Ln} (ht : t < 16) : chv n Ls h' t k = chv n Ls h t k := by
  unfold chv
  rw [fct44 e ht, wq44 e ht (by omega)]
theorem cdw44 {T R i t : Nat} {h h' : pm_Hp} (e : c44 h h') (P : Pl T R h) (hi : i < 6) (ha : wac h i < 6) (ht : t < T) : cdw h' i t = cdw h i t := by
  have hT := P.1
  unfold cdw
  rw [wq44 e (by omega) (by omega), wq44 e (by omega) (by omega), wkd44 e hi, wac44 e hi, aw44 e P ht, show fit (h' 170) t (wac h i) = fit (h 170) t (wac h i) from fi44 e (by omega) ha 5 0 false rfl]
theorem gtw44 {h h' : pm_Hp} (e : c44 h h') {n i a j b : Nat} {Ls : Nat → Ln} (hi : i < 6) (hj : j < 6) (hs : wsc h i < 6) (ha : a < 16) (hb : b < 16) : gtw n Ls h' i a j b = gtw n Ls h i a j b := by
  have m1 : mnu h' (wsc h i) = mnu h (wsc h i) := by unfold mnu; rw [e _ (by omega) (by omega)]
  unfold gtw
  rw [wsc44 e hi, wsc44 e hj, wac44 e hi, wac44 e hj, chv44 e ha, chv44 e ha, wq44 e ha (by omega), wq44 e hb (by omega), m1]
theorem exs44 {T M : Nat} {cd cd' : Nat → Nat → Prop} {co co' : Nat → Nat → Nat} {gt gt' : Nat → Nat → Nat → Nat → Prop} (h1 : ∀ i t, i < M → t < T → (cd' i t ↔ cd i t)) (h2 : ∀ i t, i < M → t < T → co' i t = co i t) (h3 : ∀ i a j b, i < j → j < M → a < T → b < T → (gt' i a j b ↔ gt i a j b)) : ∀ (r i : Nat) (f : Nat → Nat) (c : Nat) (s : Sr), i + r = M → (∀ j, j < i → f j < T) → exs T cd' co' gt' r i f c s = exs T cd co gt r i f c s := by
  intro r
  induction r with
  | zero => intro i f c s _ _; rfl
  | succ r ih =>
    intro i f c s hi hf
    refine itr_cq T 0 s (fun t s _ ht => ?_)
    have ht : t < T := by omega
    have q : vd cd' gt' i f t ↔ vd cd gt i f t := ⟨fun z => ⟨(h1 i t (by omega) ht).mp z.1, fun j hj => (h3 j (f j) i t hj (by omega) (hf j hj) ht).mp (z.2 j hj)⟩, fun z => ⟨(h1 i t (by omega) ht).mpr z.1, fun j hj => (h3 j (f j) i t hj (by omega) (hf j hj) ht).mpr (z.2 j hj)⟩⟩
    by_cases g : vd cd gt i f t
    · rw [ck_t g, ck_t (q.mpr g), h2 i t (by omega) ht]
      refine ih (i + 1) _ _ s (by omega) (fun j hj => ?_)
      by_cases x : j = i
      · subst x; rw [sup_s]; exact ht
      · rw [sup_o x]; exact hf j (by omega)
    · rw [ck_f g, ck_f (fun z => g (q.mp z))]
theorem chg44 {h h' : pm_Hp} (e : c44 h h') {v : Nat → Int32} {M : Nat} (hM : M ≤ 6) : chg h' v M = chg h v M := by
  unfold chg
  refine itr_cq M 0 0 (fun i n h1 h2 => itr_cq _ _ _ (fun j n h3 h4 => ?_))
  unfold chI chP
  rw [wsc44 e (by omega), wsc44 e (by omega), wac44 e (by omega), wac44 e (by omega)]
theorem SN.sa {A N M i : Nat} {h : pm_Hp} (S : SN A N M h) (hA : A ≤ 6) (hi : i < M) : wsc h i < N ∧ wac h i < A := by
  have hN := S.1
  obtain ⟨-, s, a, k, hs, ha, hk, e1, e2, e3⟩ := S.2.2.2.2.2.2.2 i hi
  unfold wsc wac
  rw [e1, e2, nv_n (by omega), nv_n (by omega)]
  exact ⟨hs, ha⟩
theorem PD.c44 {T R A n0 n1 q N M : Nat} {L0 L1 : Nat → Ln} {h h' : pm_Hp} (F : FS T R A n0 n1 q N M L0 L1 h) (e : c44 h h') (er : ∀ a, 150 ≤ a → a ≤ 154 → h' a = h a) (P : PD T M n0 L0 n1 L1 h) : PD T M n0 L0 n1 L1 h' := by
  have hT := F.1.1.1
  have hA := F.2.1.1
  have S := F.2.2.2.2.1
  have hN := S.1
  have hM := S.2.1
  have c1 : ∀ i t, i < M → t < T → (cdw h' i t ↔ cdw h i t) := fun i t hi ht => by
    have := (S.sa hA hi).2
    rw [cdw44 e F.1.1 (by omega) (by omega) ht]
  have c2 : ∀ i t, i < M → t < T → cow n0 L0 h' i t = cow n0 L0 h i t := fun i t hi ht => by
    have := (S.sa hA hi).2
    exact cow44 e (by omega) (by omega) (by omega)
  have c3 : ∀ i a j b, i < j → j < M → a < T → b < T → (gtw n1 L1 h' i a j b ↔ gtw n1 L1 h i a j b) := fun i a j b hi hj ha hb => by
    have := (S.sa hA (show i < M by omega)).1
    rw [gtw44 e (by omega) (by omega) (by omega) (by omega) (by omega)]
  have eS : PS T M n0 L0 n1 L1 h' = PS T M n0 L0 n1 L1 h := exs44 c1 c2 c3 M 0 _ 0 _ (by omega) (fun j hj => absurd hj (Nat.not_lt_zero j))
  obtain ⟨⟨p1, p2, p3, p4, p5⟩, p6, p7⟩ := P
  unfold PD
  rw [eS, er 150 (by omega) (by omega), er 151 (by omega) (by omega), chg44 e hM]
  refine ⟨⟨by rw [er 150 (by omega) (by omega)]; exact p1, by rw [er 150 (by omega) (by omega)]; exact p2, fun i hi => ?_, fun i t hi ht z => ?_, fun i t j hi hj ht z => ?_⟩, p6, p7⟩
  · rw [er 152 (by omega) (by omega)]
    exact (p3 i hi).cg (fun b hb => (c1 i b hi hb).symm)
  · rw [er 153 (by omega) (by omega), c2 i t hi ht]
    exact p4 i t hi ht ((c1 i t hi ht).mp z)
  · rw [er 154 (by omega) (by omega)]
    exact (p5 i t j hi hj ht ((c1 i t (by omega) ht).mp z)).cg (fun b hb => ⟨fun w => ⟨(c1 j b hj hb).mpr w.1, (c3 i t j b hi hj ht hb).mpr w.2⟩, fun w => ⟨(c1 j b hj hb).mp w.1, (c3 i t j b hi hj ht hb).mp w.2⟩⟩)
/-! ONE INVARIANT OVER ALL CALLS -/
def IV (h : pm_Hp) : Prop := (∃ T R A n0 n1 q N M L0 L1, FS T R A n0 n1 q N M L0 L1 h ∧ (∃ c nx, KR T R A c nx h) ∧ PC T M n0 L0 n1 L1 h) ∧ IM h ∧ TP h
def AL (d c m : Nat) (a : List Value) (h : pm_Hp) : Prop := ∃ r h1 h2, pm_ev d c (.ref 0 :: a) h = some (r, h1) ∧ pm_ev d m (.ref 169 :: a) h1 = some (r, h2) ∧ k185 h h1 ∧ k185 h1 h2 ∧ IV h2
theorem PC.eq {T M n0 n1 : Nat} {L0 L1 : Nat → Ln} {h h' : pm_Hp} (e : h' 170 = h 170) (er : ∀ a, 150 ≤ a → a ≤ 154 → h' a = h a) (P : PC T M n0 L0 n1 L1 h) : PC T M n0 L0 n1 L1 h' := by
  rcases P with z | ⟨z, w⟩
  · exact Or.inl (by rw [er 150 (by omega) (by omega)]; exact z)
  · exact Or.inr ⟨by rw [er 150 (by omega) (by omega)]; exact z, w.eq e (fun j _ => by rw [er 150 (by omega) (by omega)]) (fun a h1 h2 => er a (by omega) h2)⟩
theorem IV.scr {h h' : pm_Hp} (V : IV h) (e : eqi SCR h h') : IV h' := by
  obtain ⟨⟨T, R, A, n0, n1, q, N, M, L0, L1, F, ⟨c, nx, Z⟩, C⟩, I, t⟩ := V
  exact ⟨⟨T, R, A, n0, n1, q, N, M, L0, L1, F.scr e, ⟨c, nx, Z.scr e⟩, C.eq (scr_k e (by omega)) (fun a h1 h2 => scr_k e (by omega))⟩, I.scr e, t.rest (rest.scr e)⟩
theorem IV.new {h : pm_Hp} (e : h 150 0 = 0) (V : IV0 h) (t : TP h) : IV h := by
  obtain ⟨⟨T, R, A, n0, n1, q, N, M, L0, L1, F, c, nx, Z⟩, I⟩ := V
  exact ⟨⟨T, R, A, n0, n1, q, N, M, L0, L1, F, ⟨c, nx, Z⟩, Or.inl e⟩, I, t⟩
theorem IV.kq {h h' : pm_Hp} (V : IV h) (r : rest h h') (K : KQ h h') : IV h' := by
  obtain ⟨⟨T, R, A, n0, n1, q, N, M, L0, L1, F, ⟨c, nx, Z⟩, C⟩, I, t⟩ := V
  obtain ⟨k1, k2, k3, k4, k5⟩ := K
  obtain ⟨q', F'⟩ := k1 _ _ _ _ _ _ _ _ _ _ F
  refine ⟨⟨T, R, A, n0, n1, q', N, M, L0, L1, F', ⟨c, nx, k2 _ _ _ _ _ Z⟩, ?_⟩, k3, t.rest r⟩
  rcases C with z | ⟨z, w⟩
  · exact Or.inl (by rw [k4 150 (by omega) (by omega)]; exact z)
  · exact Or.inr ⟨by rw [k4 150 (by omega) (by omega)]; exact z, w.c44 F k5 (fun a h1 h2 => k4 a h1 (by omega))⟩
theorem IV.tfr {h h' : pm_Hp} (V : IV h) (f : tfr h h') (t' : TP h') : IV h' := by
  obtain ⟨⟨T, R, A, n0, n1, q, N, M, L0, L1, F, ⟨c, nx, Z⟩, C⟩, I, t⟩ := V
  obtain ⟨f1, f2, f3⟩ := f
  have g : ∀ k, (k < 133 ∨ (149 < k ∧ k < 169) ∨ (169 < k ∧ k < 173)) → h' k = h k := fun k hk => f1 k (by omega) (by omega)
  refine ⟨⟨T, R, A, n0, n1, q, N, M, L0, L1, F.cm (fun k hk => g k (by omega)), ⟨c, nx, Z.fr (fun k _ _ => g k (by omega)) f2 (g 172 (by omega)) (by rw [g 1 (by omega)]; exact ⟨rfl, rfl⟩) (fun k _ _ => g k (by omega)) (fun x _ _ _ => by rw [g 170 (by omega)])⟩, C.eq (g 170 (by omega)) (fun a h1 h2 => g a (by omega))⟩, I.ag (fun k _ _ => g k (by omega)) (g 171 (by omega)) (by rw [g 0 (by omega)]) f3, t'⟩
theorem IV.qp {T R A n0 n1 q N M c nx : Nat} {L0 L1 : Nat → Ln} {h h' : pm_Hp} (F : FS T R A n0 n1 q N M L0 L1 h) (Z : KR T R A c nx h) (I : IM h) (t : TP h) (Q : QP T M n0 L0 n1 L1 h h') : IV h' := by
  obtain ⟨q1, q2, q3, q4⟩ := Q
  have g : ∀ k, k ≠ 24 → k ≠ 31 → k ≠ 37 → (k < 150 ∨ (164 < k ∧ k < 169) ∨ (169 < k ∧ k < 178) ∨ (182 < k ∧ k ≠ 185)) → h' k = h k := fun k a b c hk => q1 k a b c (by omega) (by omega) (by omega)
  refine ⟨⟨T, R, A, n0, n1, q, N, M, L0, L1, F.ag (fun k j hc => ?_), ⟨c, nx, Z.fr (fun k _ _ => g k (by omega) (by omega) (by omega) (by omega)) (q2 3 (by omega) (by omega)) (g 172 (by omega) (by omega) (by omega) (by omega)) (by rw [g 1 (by omega) (by omega) (by omega) (by omega)]; exact ⟨rfl, rfl⟩) (fun k _ _ => g k (by omega) (by omega) (by omega) (by omega)) (fun x _ _ _ => by rw [g 170 (by omega) (by omega) (by omega) (by omega)])⟩, Or.inr ⟨q3, q4⟩⟩, I.ag (fun k _ _ => g k (by omega) (by omega) (by omega) (by omega)) (g 171 (by omega) (by omega) (by omega) (by omega)) (by rw [g 0 (by omega) (by omega) (by omega) (by omega)]) (q2 4 (by omega) (by omega)), ?_⟩
  · have hk := cel_k hc
    have n1 : k ≠ 24 := fun z => by subst z; exact absurd hc (by simp [cel])
    have n2 : k ≠ 31 := fun z => by subst z; exact absurd hc (by simp [cel])
    rw [g k n1 n2 (by omega) (by omega)]
  · obtain ⟨n, t1, t2, t3, t4, t5, t6, t7, t8⟩ := t
    have e1 := g 133 (by omega) (by omega) (by omega) (by omega)
    have e2 := g 134 (by omega) (by omega) (by omega) (by omega)
    have e3 := g 177 (by omega) (by omega) (by omega) (by omega)
    refine ⟨n, t1, by rw [e1]; exact t2, by rw [q2 18 (by omega) (by omega)]; exact t3, fun i hi => by rw [e2, e3]; exact t4 i hi, by rw [e1, q2 25 (by omega) (by omega)]; exact t5, by rw [e1, q2 27 (by omega) (by omega)]; exact t6, by rw [q2 34 (by omega) (by omega)]; exact t7, by rw [q2 35 (by omega) (by omega)]; exact t8⟩
theorem QE.al {d c m : Nat} {a : List Value} {h : pm_Hp} (gc : cGd c) (gm : cGd m) (V : IV h) (Q : QE d c m a h) : AL d c m a h := by
  obtain ⟨r, h1, h2, a1, a2, a3⟩ := Q
  exact ⟨r, h1, h2, a1, a2, ev_K gc a1, ev_K gm a2, V.scr a3⟩
theorem MU.al {d c m : Nat} {a : List Value} {h : pm_Hp} (gc : cGd c) (gm : cGd m) (V : IV h) (Q : MU d c m a h) : AL d c m a h := by
  obtain ⟨r, h1, h2, a1, a2, a3, a4⟩ := Q
  refine ⟨r, h1, h2, a1, a2, ev_K gc a1, ev_K gm a2, ?_⟩
  rcases a4 with a4 | ⟨a4, a5⟩
  · exact V.scr a4
  · exact IV.new a4 a5 (V.2.2.rest a3)
theorem MK.al {d c m : Nat} {a : List Value} {h : pm_Hp} (gc : cGd c) (gm : cGd m) (V : IV h) (Q : MK d c m a h) : AL d c m a h := by
  obtain ⟨r, h1, h2, a1, a2, a3, a4⟩ := Q
  refine ⟨r, h1, h2, a1, a2, ev_K gc a1, ev_K gm a2, ?_⟩
  rcases a4 with a4 | ⟨a4, a5⟩ | a4
  · exact V.scr a4
  · exact IV.new a4 a5 (V.2.2.rest a3)
  · exact V.kq a3 a4
theorem MT.al {d c m : Nat} {a : List Value} {h : pm_Hp} (gc : cGd c) (gm : cGd m) (V : IV h) (Q : MT d c m a h) : AL d c m a h := by
  obtain ⟨r, h1, h2, a1, a2, a3, a4⟩ := Q
  exact ⟨r, h1, h2, a1, a2, ev_K gc a1, ev_K gm a2, V.tfr a3 a4⟩
theorem MX.al {d c m : Nat} {a : List Value} {h : pm_Hp} (gc : cGd c) (gm : cGd m) (V : IV h) (Q : MX d c m a h) : AL d c m a h := by
  obtain ⟨r, h1, h2, a1, a2, a3, a4, a5⟩ := Q
  refine ⟨r, h1, h2, a1, a2, ev_K gc a1, ev_K gm a2, ?_⟩
  rcases a5 with a5 | ⟨a5, a6⟩
  · exact V.tfr a5 a3
  · exact IV.new a5 a6 a3
theorem MP.al {T R A n0 n1 q N M c' nx d c m : Nat} {L0 L1 : Nat → Ln} {a : List Value} {h : pm_Hp} (gc : cGd c) (gm : cGd m) (F : FS T R A n0 n1 q N M L0 L1 h) (Z : KR T R A c' nx h) (I : IM h) (t : TP h) (Q : MP T M n0 L0 n1 L1 d c m a h) : AL d c m a h := by
  obtain ⟨r, h1, h2, a1, a2, a3⟩ := Q
  exact ⟨r, h1, h2, a1, a2, ev_K gc a1, ev_K gm a2, IV.qp F Z I t a3⟩
