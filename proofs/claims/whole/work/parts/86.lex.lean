/-! TOKENS: what stands on a tape, as numbers -/
abbrev isL (b : Nat) : Prop := (97 ≤ b ∧ b ≤ 122) ∨ (65 ≤ b ∧ b ≤ 90)
abbrev isD (b : Nat) : Prop := 48 ≤ b ∧ b ≤ 57
abbrev isSp (b : Nat) : Prop := b = 32 ∨ b = 10
abbrev isSg (b : Nat) : Prop := b = 59 ∨ b = 43 ∨ b = 45 ∨ b = 42 ∨ b = 47 ∨ b = 40 ∨ b = 41 ∨ b = 60 ∨ b = 61 ∨ b = 62
def rne (q : Nat → Prop) [DecidablePred q] (tp : Nat → Nat) (n : Nat) : Nat → Nat → Nat
  | 0, p => p
  | f + 1, p => if p < n ∧ q (tp p) then rne q tp n f (p + 1) else p
theorem rne_ge {q : Nat → Prop} [DecidablePred q] {tp : Nat → Nat} {n : Nat} : ∀ (f p : Nat), p ≤ rne q tp n f p := by
  intro f
  induction f with
  | zero => intro p; exact Nat.le_refl _
  | succ f ih =>
    intro p
    unfold rne
    by_cases g : p < n ∧ q (tp p)
    · rw [if_pos g]; have := ih (p + 1); omega
    · rw [if_neg g]; omega
theorem rne_le {q : Nat → Prop} [DecidablePred q] {tp : Nat → Nat} {n : Nat} : ∀ (f p : Nat), p ≤ n → rne q tp n f p ≤ n := by
  intro f
  induction f with
  | zero => intro p h; exact h
  | succ f ih =>
    intro p h
    unfold rne
    by_cases g : p < n ∧ q (tp p)
    · rw [if_pos g]; exact ih (p + 1) (by omega)
    · rw [if_neg g]; exact h
/-- one step, with fuel enough -/
theorem rne_s {q : Nat → Prop} [DecidablePred q] {tp : Nat → Nat} {n p : Nat} (hp : p < n) (hq : q (tp p)) : rne q tp n (n - p) p = rne q tp n (n - (p + 1)) (p + 1) := by
  rw [show n - p = (n - (p + 1)) + 1 by omega, rne, if_pos ⟨hp, hq⟩]
theorem rne_e {q : Nat → Prop} [DecidablePred q] {tp : Nat → Nat} {n p : Nat} (hq : ¬ (p < n ∧ q (tp p))) : rne q tp n (n - p) p = p := by
  cases h : n - p with
  | zero => rfl
  | succ f => rw [rne, if_neg hq]
abbrev rnE (q : Nat → Prop) [DecidablePred q] (tp : Nat → Nat) (n p : Nat) : Nat := rne q tp n (n - p) p
/-- a number's value: k digits from p on -/
def nm (tp : Nat → Nat) (p : Nat) : Nat → Nat
  | 0 => 0
  | k + 1 => nm tp p k * 10 + (tp (p + k) - 48)
def wbs (tp : Nat → Nat) (p k : Nat) : List Nat := (List.range k).map (fun i => tp (p + i))
def kwi (w : List Nat) : List (List Nat) → Nat → Nat
  | [], _ => 1
  | x :: l, j => if w = x then j else kwi w l (j + 1)
def kwl : List (List Nat) := [[99, 111, 115, 116], [109, 101, 110, 100], [116, 101, 97, 114], [100, 105, 114, 116], [99, 104, 97, 110, 103, 101], [119, 104, 101, 110], [111, 114], [97, 110, 100], [110, 111, 116], [98, 121], [111, 117, 116], [109, 101, 97, 115, 117, 114, 101], [107, 105, 110, 100], [108, 101, 116, 115], [116, 111, 114, 110], [119, 111, 114, 110], [110, 101, 120, 116], [115, 99, 101, 110, 101], [119, 101, 97, 114], [100, 114, 101, 115, 115], [99, 111, 97, 116], [117, 110, 105, 102, 111, 114, 109], [109, 97, 115, 107], [115, 101, 116]]
abbrev Tok : Type := Nat × Nat × Nat × Nat
def tkA (tp : Nat → Nat) (n p : Nat) : Tok := if isL (tp p) then (kwi (wbs tp p (rnE isL tp n p - p)) kwl 200, p, 0, rnE isL tp n p) else if isD (tp p) then (if rnE isD tp n p - p ≤ 4 then 2 else 1, p, nm tp p (min (rnE isD tp n p - p) 4), rnE isD tp n p) else (if isSg (tp p) then tp p else 1, p, 0, p + 1)
def tkF (tp : Nat → Nat) (n p : Nat) : Tok := if rnE isSp tp n p < n then tkA tp n (rnE isSp tp n p) else (0, n, 0, n)
def tks (tp : Nat → Nat) (n : Nat) : Nat → Tok
  | 0 => tkF tp n 0
  | i + 1 => tkF tp n (tks tp n i).2.2.2
theorem tkF_sp {tp : Nat → Nat} {n p : Nat} (hp : p < n) (hq : isSp (tp p)) : tkF tp n p = tkF tp n (p + 1) := by
  unfold tkF
  rw [show rnE isSp tp n p = rnE isSp tp n (p + 1) from rne_s hp hq]
theorem tkF_tk {tp : Nat → Nat} {n p : Nat} (hp : p < n) (hq : ¬ isSp (tp p)) : tkF tp n p = tkA tp n p := by
  unfold tkF
  rw [show rnE isSp tp n p = p from rne_e (fun z => hq z.2), if_pos hp]
theorem tkF_end {tp : Nat → Nat} {n p : Nat} (hp : n ≤ p) : tkF tp n p = (0, n, 0, n) := by
  unfold tkF
  rw [show rnE isSp tp n p = p from rne_e (fun z => by omega), if_neg (by omega)]
theorem kwi_pos (w : List Nat) : ∀ (l : List (List Nat)) (j : Nat), 0 < j → 0 < kwi w l j := by
  intro l
  induction l with
  | nil => intro j _; exact Nat.one_pos
  | cons x l ih =>
    intro j hj
    unfold kwi
    by_cases e : w = x
    · rw [if_pos e]; exact hj
    · rw [if_neg e]; exact ih (j + 1) (by omega)
theorem tkA_pos {tp : Nat → Nat} {n p : Nat} : 0 < (tkA tp n p).1 := by
  unfold tkA
  by_cases a : isL (tp p)
  · rw [if_pos a]; exact kwi_pos _ _ _ (by omega)
  · rw [if_neg a]
    by_cases b : isD (tp p)
    · rw [if_pos b]
      show 0 < (if rnE isD tp n p - p ≤ 4 then 2 else 1)
      by_cases c : rnE isD tp n p - p ≤ 4
      · rw [if_pos c]; omega
      · rw [if_neg c]; omega
    · rw [if_neg b]
      show 0 < (if isSg (tp p) then tp p else 1)
      by_cases c : isSg (tp p)
      · rw [if_pos c]; omega
      · rw [if_neg c]; omega
theorem tkA_nx {tp : Nat → Nat} {n p : Nat} (hp : p < n) : p < (tkA tp n p).2.2.2 ∧ (tkA tp n p).2.2.2 ≤ n ∧ (tkA tp n p).2.1 = p := by
  unfold tkA
  by_cases a : isL (tp p)
  · rw [if_pos a]
    refine ⟨?_, rne_le _ _ (by omega), rfl⟩
    show p < rnE isL tp n p
    rw [show rnE isL tp n p = rnE isL tp n (p + 1) from rne_s hp a]
    exact rne_ge _ _
  · rw [if_neg a]
    by_cases b : isD (tp p)
    · rw [if_pos b]
      refine ⟨?_, rne_le _ _ (by omega), rfl⟩
      show p < rnE isD tp n p
      rw [show rnE isD tp n p = rnE isD tp n (p + 1) from rne_s hp b]
      exact rne_ge _ _
    · rw [if_neg b]
      exact ⟨by show p < p + 1; omega, by show p + 1 ≤ n; omega, rfl⟩
/-! letters, digits, signs -/
theorem c_isLetter {d b : Nat} {h : pm_Hp} (hd : 1 ≤ d) (hb : b < 256) : pm_ev d 80 [.int (nI b)] h = some (b2 (isL b), h) := by
  obtain ⟨d, rfl, -⟩ := dpos hd
  rw [e_X5_isLetter, ltn_ite (by omega) (by omega), ltn_ite (by omega) (by omega), len_ite (by omega) (by omega), len_ite (by omega) (by omega)]
  unfold b2
  by_cases c1 : b < 97
  · rw [if_pos c1]
    by_cases c2 : b < 65
    · rw [if_pos c2, if_neg (by unfold isL; omega)]
    · rw [if_neg c2]
      by_cases c3 : b ≤ 90
      · rw [if_pos c3, if_pos (by unfold isL; omega)]
      · rw [if_neg c3, if_neg (by unfold isL; omega)]
  · rw [if_neg c1]
    by_cases c2 : b ≤ 122
    · rw [if_pos c2, if_pos (by unfold isL; omega)]
    · rw [if_neg c2, if_neg (show ¬ b < 65 by omega), if_neg (show ¬ b ≤ 90 by omega), if_neg (by unfold isL; omega)]
theorem c_isDigit {d b : Nat} {h : pm_Hp} (hd : 1 ≤ d) (hb : b < 256) : pm_ev d 81 [.int (nI b)] h = some (b2 (isD b), h) := by
  obtain ⟨d, rfl, -⟩ := dpos hd
  rw [e_X5_isDigit, ltn_ite (by omega) (by omega), len_ite (by omega) (by omega)]
  unfold b2
  by_cases c1 : b < 48
  · rw [if_pos c1, if_neg (by unfold isD; omega)]
  · rw [if_neg c1]
    by_cases c2 : b ≤ 57
    · rw [if_pos c2, if_pos (by unfold isD; omega)]
    · rw [if_neg c2, if_neg (by unfold isD; omega)]
theorem m_isLetter {d b : Nat} {h : pm_Hp} (hd : 2 ≤ d) (hb : b < 256) : pm_ev d 179 [.int (nI b)] h = some (b2 (isL b), h) := by
  obtain ⟨d, rfl, -⟩ := dpos hd
  rw [e_X10_isLetter, m_isIn (by omega), pm_bd_s]
  by_cases c1 : 97 ≤ b ∧ b ≤ 122
  · rw [b2_t ⟨nI_nlt c1.1 (by omega), nI_le c1.2 (by omega)⟩, if_neg (by decide), b2_t (Or.inl c1)]
  · rw [b2_f (fun z => c1 ⟨by have := z.1; rw [nI_ltI (by omega) (by omega)] at this; omega, (nI_leI (by omega) (by omega)).mp z.2⟩), if_pos rfl, m_isIn (by omega), pm_bd_s]
    by_cases c2 : 65 ≤ b ∧ b ≤ 90
    · rw [b2_t ⟨nI_nlt c2.1 (by omega), nI_le c2.2 (by omega)⟩, if_neg (by decide), b2_t (Or.inr c2)]
    · rw [b2_f (fun z => c2 ⟨by have := z.1; rw [nI_ltI (by omega) (by omega)] at this; omega, (nI_leI (by omega) (by omega)).mp z.2⟩), if_pos rfl, b2_f (fun z => z.elim c1 c2)]
theorem m_isDigit {d b : Nat} {h : pm_Hp} (hd : 2 ≤ d) (hb : b < 256) : pm_ev d 180 [.int (nI b)] h = some (b2 (isD b), h) := by
  obtain ⟨d, rfl, -⟩ := dpos hd
  rw [e_X10_isDigit, m_isIn (by omega), pm_bd_s, pm_bw_b2]
  congr 2
  refine b2_cg ⟨fun z => ⟨by have := z.1; rw [nI_ltI (by omega) (by omega)] at this; omega, (nI_leI (by omega) (by omega)).mp z.2⟩, fun z => ⟨nI_nlt z.1 (by omega), nI_le z.2 (by omega)⟩⟩
theorem m_isLetter_e {d : Nat} {h : pm_Hp} (hd : 2 ≤ d) : pm_ev d 179 [.int (-1)] h = some (0, h) := by
  obtain ⟨d, rfl, -⟩ := dpos hd
  rw [e_X10_isLetter, m_isIn (by omega), pm_bd_s, b2_f (by decide), if_pos rfl, m_isIn (by omega), pm_bd_s, b2_f (by decide), if_pos rfl]
theorem m_isDigit_e {d : Nat} {h : pm_Hp} (hd : 2 ≤ d) : pm_ev d 180 [.int (-1)] h = some (0, h) := by
  obtain ⟨d, rfl, -⟩ := dpos hd
  rw [e_X10_isDigit, m_isIn (by omega), pm_bd_s, b2_f (by decide), pm_bw_0]
theorem shr0 {k : Nat} (hk : k < 2 ^ 31) : pm_shr (nI k) 0 = nI k := by
  have := shr_n (s := k) (t := 0) hk (by omega)
  rw [Nat.pow_zero, Nat.div_one] at this
  exact this
theorem bytE : ∀ q, q < 26 → ∀ k, k < lenJS.getD q 0 → pm_i2c (((bytJS.getD q []).getD k 0) &&& (nI 255)) = (bytJS.getD q []).getD k 0 ∧ narrow .char (.int ((bytJS.getD q []).getD k 0)) = .int ((bytJS.getD q []).getD k 0) := by decide +kernel
theorem len_400 {d : Nat} {h : pm_Hp} (hd : 2 ≤ d) : pm_ev d 299 [.ref 400] h = some (nI 122, h) := by
  obtain ⟨d, rfl, -⟩ := dpos hd
  obtain ⟨d, rfl, -⟩ := dpos (show 0 + 1 ≤ d by omega)
  rw [e_J0_length_8abf5_400, e_J0_coder_7d493_400, pm_bd_s, shr0 (by omega)]
theorem chr_400 {d k : Nat} {h : pm_Hp} (hd : 2 ≤ d) (hk : k < 122) : pm_ev d 300 [.ref 400, .int (nI k)] h = some ((bytJS.getD 0 []).getD k 0, h) := by
  obtain ⟨d, rfl, -⟩ := dpos hd
  obtain ⟨d, rfl, -⟩ := dpos (show 0 + 1 ≤ d by omega)
  obtain ⟨b1, b2⟩ := bytE 0 (by omega) k hk
  rw [e_J0_charAt_5068e_400, e_J0_isLatin1_aae02_400, pm_bd_s, if_neg (by decide), e_J1_charAt_3b067_400, if_neg (fun z => z.elim (nI_pos (by omega)) (fun z => nI_ge hk (by omega) z)), pm_at_c hk (by omega), b1, if_pos b2, pm_bd_s, if_pos b2]
theorem len_401 {d : Nat} {h : pm_Hp} (hd : 2 ≤ d) : pm_ev d 299 [.ref 401] h = some (nI 10, h) := by
  obtain ⟨d, rfl, -⟩ := dpos hd
  obtain ⟨d, rfl, -⟩ := dpos (show 0 + 1 ≤ d by omega)
  rw [e_J0_length_8abf5_401, e_J0_coder_7d493_401, pm_bd_s, shr0 (by omega)]
theorem chr_401 {d k : Nat} {h : pm_Hp} (hd : 2 ≤ d) (hk : k < 10) : pm_ev d 300 [.ref 401, .int (nI k)] h = some ((bytJS.getD 1 []).getD k 0, h) := by
  obtain ⟨d, rfl, -⟩ := dpos hd
  obtain ⟨d, rfl, -⟩ := dpos (show 0 + 1 ≤ d by omega)
  obtain ⟨b1, b2⟩ := bytE 1 (by omega) k hk
  rw [e_J0_charAt_5068e_401, e_J0_isLatin1_aae02_401, pm_bd_s, if_neg (by decide), e_J1_charAt_3b067_401, if_neg (fun z => z.elim (nI_pos (by omega)) (fun z => nI_ge hk (by omega) z)), pm_at_c hk (by omega), b1, if_pos b2, pm_bd_s, if_pos b2]
theorem len_402 {d : Nat} {h : pm_Hp} (hd : 2 ≤ d) : pm_ev d 299 [.ref 402] h = some (nI 5, h) := by
  obtain ⟨d, rfl, -⟩ := dpos hd
  obtain ⟨d, rfl, -⟩ := dpos (show 0 + 1 ≤ d by omega)
  rw [e_J0_length_8abf5_402, e_J0_coder_7d493_402, pm_bd_s, shr0 (by omega)]
theorem chr_402 {d k : Nat} {h : pm_Hp} (hd : 2 ≤ d) (hk : k < 5) : pm_ev d 300 [.ref 402, .int (nI k)] h = some ((bytJS.getD 2 []).getD k 0, h) := by
  obtain ⟨d, rfl, -⟩ := dpos hd
  obtain ⟨d, rfl, -⟩ := dpos (show 0 + 1 ≤ d by omega)
  obtain ⟨b1, b2⟩ := bytE 2 (by omega) k hk
  rw [e_J0_charAt_5068e_402, e_J0_isLatin1_aae02_402, pm_bd_s, if_neg (by decide), e_J1_charAt_3b067_402, if_neg (fun z => z.elim (nI_pos (by omega)) (fun z => nI_ge hk (by omega) z)), pm_at_c hk (by omega), b1, if_pos b2, pm_bd_s, if_pos b2]
theorem len_403 {d : Nat} {h : pm_Hp} (hd : 2 ≤ d) : pm_ev d 299 [.ref 403] h = some (nI 4, h) := by
  obtain ⟨d, rfl, -⟩ := dpos hd
  obtain ⟨d, rfl, -⟩ := dpos (show 0 + 1 ≤ d by omega)
  rw [e_J0_length_8abf5_403, e_J0_coder_7d493_403, pm_bd_s, shr0 (by omega)]
theorem chr_403 {d k : Nat} {h : pm_Hp} (hd : 2 ≤ d) (hk : k < 4) : pm_ev d 300 [.ref 403, .int (nI k)] h = some ((bytJS.getD 3 []).getD k 0, h) := by
  obtain ⟨d, rfl, -⟩ := dpos hd
  obtain ⟨d, rfl, -⟩ := dpos (show 0 + 1 ≤ d by omega)
  obtain ⟨b1, b2⟩ := bytE 3 (by omega) k hk
  rw [e_J0_charAt_5068e_403, e_J0_isLatin1_aae02_403, pm_bd_s, if_neg (by decide), e_J1_charAt_3b067_403, if_neg (fun z => z.elim (nI_pos (by omega)) (fun z => nI_ge hk (by omega) z)), pm_at_c hk (by omega), b1, if_pos b2, pm_bd_s, if_pos b2]
theorem len_404 {d : Nat} {h : pm_Hp} (hd : 2 ≤ d) : pm_ev d 299 [.ref 404] h = some (nI 5, h) := by
  obtain ⟨d, rfl, -⟩ := dpos hd
  obtain ⟨d, rfl, -⟩ := dpos (show 0 + 1 ≤ d by omega)
  rw [e_J0_length_8abf5_404, e_J0_coder_7d493_404, pm_bd_s, shr0 (by omega)]
theorem chr_404 {d k : Nat} {h : pm_Hp} (hd : 2 ≤ d) (hk : k < 5) : pm_ev d 300 [.ref 404, .int (nI k)] h = some ((bytJS.getD 4 []).getD k 0, h) := by
  obtain ⟨d, rfl, -⟩ := dpos hd
  obtain ⟨d, rfl, -⟩ := dpos (show 0 + 1 ≤ d by omega)
  obtain ⟨b1, b2⟩ := bytE 4 (by omega) k hk
  rw [e_J0_charAt_5068e_404, e_J0_isLatin1_aae02_404, pm_bd_s, if_neg (by decide), e_J1_charAt_3b067_404, if_neg (fun z => z.elim (nI_pos (by omega)) (fun z => nI_ge hk (by omega) z)), pm_at_c hk (by omega), b1, if_pos b2, pm_bd_s, if_pos b2]
theorem len_405 {d : Nat} {h : pm_Hp} (hd : 2 ≤ d) : pm_ev d 299 [.ref 405] h = some (nI 4, h) := by
  obtain ⟨d, rfl, -⟩ := dpos hd
  obtain ⟨d, rfl, -⟩ := dpos (show 0 + 1 ≤ d by omega)
  rw [e_J0_length_8abf5_405, e_J0_coder_7d493_405, pm_bd_s, shr0 (by omega)]
theorem chr_405 {d k : Nat} {h : pm_Hp} (hd : 2 ≤ d) (hk : k < 4) : pm_ev d 300 [.ref 405, .int (nI k)] h = some ((bytJS.getD 5 []).getD k 0, h) := by
  obtain ⟨d, rfl, -⟩ := dpos hd
  obtain ⟨d, rfl, -⟩ := dpos (show 0 + 1 ≤ d by omega)
  obtain ⟨b1, b2⟩ := bytE 5 (by omega) k hk
  rw [e_J0_charAt_5068e_405, e_J0_isLatin1_aae02_405, pm_bd_s, if_neg (by decide), e_J1_charAt_3b067_405, if_neg (fun z => z.elim (nI_pos (by omega)) (fun z => nI_ge hk (by omega) z)), pm_at_c hk (by omega), b1, if_pos b2, pm_bd_s, if_pos b2]
theorem len_406 {d : Nat} {h : pm_Hp} (hd : 2 ≤ d) : pm_ev d 299 [.ref 406] h = some (nI 7, h) := by
  obtain ⟨d, rfl, -⟩ := dpos hd
  obtain ⟨d, rfl, -⟩ := dpos (show 0 + 1 ≤ d by omega)
  rw [e_J0_length_8abf5_406, e_J0_coder_7d493_406, pm_bd_s, shr0 (by omega)]
theorem chr_406 {d k : Nat} {h : pm_Hp} (hd : 2 ≤ d) (hk : k < 7) : pm_ev d 300 [.ref 406, .int (nI k)] h = some ((bytJS.getD 6 []).getD k 0, h) := by
  obtain ⟨d, rfl, -⟩ := dpos hd
  obtain ⟨d, rfl, -⟩ := dpos (show 0 + 1 ≤ d by omega)
  obtain ⟨b1, b2⟩ := bytE 6 (by omega) k hk
  rw [e_J0_charAt_5068e_406, e_J0_isLatin1_aae02_406, pm_bd_s, if_neg (by decide), e_J1_charAt_3b067_406, if_neg (fun z => z.elim (nI_pos (by omega)) (fun z => nI_ge hk (by omega) z)), pm_at_c hk (by omega), b1, if_pos b2, pm_bd_s, if_pos b2]
theorem len_407 {d : Nat} {h : pm_Hp} (hd : 2 ≤ d) : pm_ev d 299 [.ref 407] h = some (nI 4, h) := by
  obtain ⟨d, rfl, -⟩ := dpos hd
  obtain ⟨d, rfl, -⟩ := dpos (show 0 + 1 ≤ d by omega)
  rw [e_J0_length_8abf5_407, e_J0_coder_7d493_407, pm_bd_s, shr0 (by omega)]
theorem chr_407 {d k : Nat} {h : pm_Hp} (hd : 2 ≤ d) (hk : k < 4) : pm_ev d 300 [.ref 407, .int (nI k)] h = some ((bytJS.getD 7 []).getD k 0, h) := by
  obtain ⟨d, rfl, -⟩ := dpos hd
  obtain ⟨d, rfl, -⟩ := dpos (show 0 + 1 ≤ d by omega)
  obtain ⟨b1, b2⟩ := bytE 7 (by omega) k hk
  rw [e_J0_charAt_5068e_407, e_J0_isLatin1_aae02_407, pm_bd_s, if_neg (by decide), e_J1_charAt_3b067_407, if_neg (fun z => z.elim (nI_pos (by omega)) (fun z => nI_ge hk (by omega) z)), pm_at_c hk (by omega), b1, if_pos b2, pm_bd_s, if_pos b2]
theorem len_408 {d : Nat} {h : pm_Hp} (hd : 2 ≤ d) : pm_ev d 299 [.ref 408] h = some (nI 3, h) := by
  obtain ⟨d, rfl, -⟩ := dpos hd
  obtain ⟨d, rfl, -⟩ := dpos (show 0 + 1 ≤ d by omega)
  rw [e_J0_length_8abf5_408, e_J0_coder_7d493_408, pm_bd_s, shr0 (by omega)]
theorem chr_408 {d k : Nat} {h : pm_Hp} (hd : 2 ≤ d) (hk : k < 3) : pm_ev d 300 [.ref 408, .int (nI k)] h = some ((bytJS.getD 8 []).getD k 0, h) := by
  obtain ⟨d, rfl, -⟩ := dpos hd
  obtain ⟨d, rfl, -⟩ := dpos (show 0 + 1 ≤ d by omega)
  obtain ⟨b1, b2⟩ := bytE 8 (by omega) k hk
  rw [e_J0_charAt_5068e_408, e_J0_isLatin1_aae02_408, pm_bd_s, if_neg (by decide), e_J1_charAt_3b067_408, if_neg (fun z => z.elim (nI_pos (by omega)) (fun z => nI_ge hk (by omega) z)), pm_at_c hk (by omega), b1, if_pos b2, pm_bd_s, if_pos b2]
theorem len_409 {d : Nat} {h : pm_Hp} (hd : 2 ≤ d) : pm_ev d 299 [.ref 409] h = some (nI 4, h) := by
  obtain ⟨d, rfl, -⟩ := dpos hd
  obtain ⟨d, rfl, -⟩ := dpos (show 0 + 1 ≤ d by omega)
  rw [e_J0_length_8abf5_409, e_J0_coder_7d493_409, pm_bd_s, shr0 (by omega)]
theorem chr_409 {d k : Nat} {h : pm_Hp} (hd : 2 ≤ d) (hk : k < 4) : pm_ev d 300 [.ref 409, .int (nI k)] h = some ((bytJS.getD 9 []).getD k 0, h) := by
  obtain ⟨d, rfl, -⟩ := dpos hd
  obtain ⟨d, rfl, -⟩ := dpos (show 0 + 1 ≤ d by omega)
  obtain ⟨b1, b2⟩ := bytE 9 (by omega) k hk
  rw [e_J0_charAt_5068e_409, e_J0_isLatin1_aae02_409, pm_bd_s, if_neg (by decide), e_J1_charAt_3b067_409, if_neg (fun z => z.elim (nI_pos (by omega)) (fun z => nI_ge hk (by omega) z)), pm_at_c hk (by omega), b1, if_pos b2, pm_bd_s, if_pos b2]
theorem len_410 {d : Nat} {h : pm_Hp} (hd : 2 ≤ d) : pm_ev d 299 [.ref 410] h = some (nI 2, h) := by
  obtain ⟨d, rfl, -⟩ := dpos hd
  obtain ⟨d, rfl, -⟩ := dpos (show 0 + 1 ≤ d by omega)
  rw [e_J0_length_8abf5_410, e_J0_coder_7d493_410, pm_bd_s, shr0 (by omega)]
theorem chr_410 {d k : Nat} {h : pm_Hp} (hd : 2 ≤ d) (hk : k < 2) : pm_ev d 300 [.ref 410, .int (nI k)] h = some ((bytJS.getD 10 []).getD k 0, h) := by
  obtain ⟨d, rfl, -⟩ := dpos hd
  obtain ⟨d, rfl, -⟩ := dpos (show 0 + 1 ≤ d by omega)
  obtain ⟨b1, b2⟩ := bytE 10 (by omega) k hk
  rw [e_J0_charAt_5068e_410, e_J0_isLatin1_aae02_410, pm_bd_s, if_neg (by decide), e_J1_charAt_3b067_410, if_neg (fun z => z.elim (nI_pos (by omega)) (fun z => nI_ge hk (by omega) z)), pm_at_c hk (by omega), b1, if_pos b2, pm_bd_s, if_pos b2]
theorem len_411 {d : Nat} {h : pm_Hp} (hd : 2 ≤ d) : pm_ev d 299 [.ref 411] h = some (nI 3, h) := by
  obtain ⟨d, rfl, -⟩ := dpos hd
  obtain ⟨d, rfl, -⟩ := dpos (show 0 + 1 ≤ d by omega)
  rw [e_J0_length_8abf5_411, e_J0_coder_7d493_411, pm_bd_s, shr0 (by omega)]
theorem chr_411 {d k : Nat} {h : pm_Hp} (hd : 2 ≤ d) (hk : k < 3) : pm_ev d 300 [.ref 411, .int (nI k)] h = some ((bytJS.getD 11 []).getD k 0, h) := by
  obtain ⟨d, rfl, -⟩ := dpos hd
  obtain ⟨d, rfl, -⟩ := dpos (show 0 + 1 ≤ d by omega)
  obtain ⟨b1, b2⟩ := bytE 11 (by omega) k hk
  rw [e_J0_charAt_5068e_411, e_J0_isLatin1_aae02_411, pm_bd_s, if_neg (by decide), e_J1_charAt_3b067_411, if_neg (fun z => z.elim (nI_pos (by omega)) (fun z => nI_ge hk (by omega) z)), pm_at_c hk (by omega), b1, if_pos b2, pm_bd_s, if_pos b2]
theorem len_412 {d : Nat} {h : pm_Hp} (hd : 2 ≤ d) : pm_ev d 299 [.ref 412] h = some (nI 3, h) := by
  obtain ⟨d, rfl, -⟩ := dpos hd
  obtain ⟨d, rfl, -⟩ := dpos (show 0 + 1 ≤ d by omega)
  rw [e_J0_length_8abf5_412, e_J0_coder_7d493_412, pm_bd_s, shr0 (by omega)]
theorem chr_412 {d k : Nat} {h : pm_Hp} (hd : 2 ≤ d) (hk : k < 3) : pm_ev d 300 [.ref 412, .int (nI k)] h = some ((bytJS.getD 12 []).getD k 0, h) := by
  obtain ⟨d, rfl, -⟩ := dpos hd
  obtain ⟨d, rfl, -⟩ := dpos (show 0 + 1 ≤ d by omega)
  obtain ⟨b1, b2⟩ := bytE 12 (by omega) k hk
  rw [e_J0_charAt_5068e_412, e_J0_isLatin1_aae02_412, pm_bd_s, if_neg (by decide), e_J1_charAt_3b067_412, if_neg (fun z => z.elim (nI_pos (by omega)) (fun z => nI_ge hk (by omega) z)), pm_at_c hk (by omega), b1, if_pos b2, pm_bd_s, if_pos b2]
theorem len_413 {d : Nat} {h : pm_Hp} (hd : 2 ≤ d) : pm_ev d 299 [.ref 413] h = some (nI 4, h) := by
  obtain ⟨d, rfl, -⟩ := dpos hd
  obtain ⟨d, rfl, -⟩ := dpos (show 0 + 1 ≤ d by omega)
  rw [e_J0_length_8abf5_413, e_J0_coder_7d493_413, pm_bd_s, shr0 (by omega)]
theorem chr_413 {d k : Nat} {h : pm_Hp} (hd : 2 ≤ d) (hk : k < 4) : pm_ev d 300 [.ref 413, .int (nI k)] h = some ((bytJS.getD 13 []).getD k 0, h) := by
  obtain ⟨d, rfl, -⟩ := dpos hd
  obtain ⟨d, rfl, -⟩ := dpos (show 0 + 1 ≤ d by omega)
  obtain ⟨b1, b2⟩ := bytE 13 (by omega) k hk
  rw [e_J0_charAt_5068e_413, e_J0_isLatin1_aae02_413, pm_bd_s, if_neg (by decide), e_J1_charAt_3b067_413, if_neg (fun z => z.elim (nI_pos (by omega)) (fun z => nI_ge hk (by omega) z)), pm_at_c hk (by omega), b1, if_pos b2, pm_bd_s, if_pos b2]
theorem len_414 {d : Nat} {h : pm_Hp} (hd : 2 ≤ d) : pm_ev d 299 [.ref 414] h = some (nI 4, h) := by
  obtain ⟨d, rfl, -⟩ := dpos hd
  obtain ⟨d, rfl, -⟩ := dpos (show 0 + 1 ≤ d by omega)
  rw [e_J0_length_8abf5_414, e_J0_coder_7d493_414, pm_bd_s, shr0 (by omega)]
theorem chr_414 {d k : Nat} {h : pm_Hp} (hd : 2 ≤ d) (hk : k < 4) : pm_ev d 300 [.ref 414, .int (nI k)] h = some ((bytJS.getD 14 []).getD k 0, h) := by
  obtain ⟨d, rfl, -⟩ := dpos hd
  obtain ⟨d, rfl, -⟩ := dpos (show 0 + 1 ≤ d by omega)
  obtain ⟨b1, b2⟩ := bytE 14 (by omega) k hk
  rw [e_J0_charAt_5068e_414, e_J0_isLatin1_aae02_414, pm_bd_s, if_neg (by decide), e_J1_charAt_3b067_414, if_neg (fun z => z.elim (nI_pos (by omega)) (fun z => nI_ge hk (by omega) z)), pm_at_c hk (by omega), b1, if_pos b2, pm_bd_s, if_pos b2]
theorem len_415 {d : Nat} {h : pm_Hp} (hd : 2 ≤ d) : pm_ev d 299 [.ref 415] h = some (nI 4, h) := by
  obtain ⟨d, rfl, -⟩ := dpos hd
  obtain ⟨d, rfl, -⟩ := dpos (show 0 + 1 ≤ d by omega)
  rw [e_J0_length_8abf5_415, e_J0_coder_7d493_415, pm_bd_s, shr0 (by omega)]
theorem chr_415 {d k : Nat} {h : pm_Hp} (hd : 2 ≤ d) (hk : k < 4) : pm_ev d 300 [.ref 415, .int (nI k)] h = some ((bytJS.getD 15 []).getD k 0, h) := by
  obtain ⟨d, rfl, -⟩ := dpos hd
  obtain ⟨d, rfl, -⟩ := dpos (show 0 + 1 ≤ d by omega)
  obtain ⟨b1, b2⟩ := bytE 15 (by omega) k hk
  rw [e_J0_charAt_5068e_415, e_J0_isLatin1_aae02_415, pm_bd_s, if_neg (by decide), e_J1_charAt_3b067_415, if_neg (fun z => z.elim (nI_pos (by omega)) (fun z => nI_ge hk (by omega) z)), pm_at_c hk (by omega), b1, if_pos b2, pm_bd_s, if_pos b2]
theorem len_416 {d : Nat} {h : pm_Hp} (hd : 2 ≤ d) : pm_ev d 299 [.ref 416] h = some (nI 6, h) := by
  obtain ⟨d, rfl, -⟩ := dpos hd
  obtain ⟨d, rfl, -⟩ := dpos (show 0 + 1 ≤ d by omega)
  rw [e_J0_length_8abf5_416, e_J0_coder_7d493_416, pm_bd_s, shr0 (by omega)]
theorem chr_416 {d k : Nat} {h : pm_Hp} (hd : 2 ≤ d) (hk : k < 6) : pm_ev d 300 [.ref 416, .int (nI k)] h = some ((bytJS.getD 16 []).getD k 0, h) := by
  obtain ⟨d, rfl, -⟩ := dpos hd
  obtain ⟨d, rfl, -⟩ := dpos (show 0 + 1 ≤ d by omega)
  obtain ⟨b1, b2⟩ := bytE 16 (by omega) k hk
  rw [e_J0_charAt_5068e_416, e_J0_isLatin1_aae02_416, pm_bd_s, if_neg (by decide), e_J1_charAt_3b067_416, if_neg (fun z => z.elim (nI_pos (by omega)) (fun z => nI_ge hk (by omega) z)), pm_at_c hk (by omega), b1, if_pos b2, pm_bd_s, if_pos b2]
theorem len_417 {d : Nat} {h : pm_Hp} (hd : 2 ≤ d) : pm_ev d 299 [.ref 417] h = some (nI 2, h) := by
  obtain ⟨d, rfl, -⟩ := dpos hd
  obtain ⟨d, rfl, -⟩ := dpos (show 0 + 1 ≤ d by omega)
  rw [e_J0_length_8abf5_417, e_J0_coder_7d493_417, pm_bd_s, shr0 (by omega)]
theorem chr_417 {d k : Nat} {h : pm_Hp} (hd : 2 ≤ d) (hk : k < 2) : pm_ev d 300 [.ref 417, .int (nI k)] h = some ((bytJS.getD 17 []).getD k 0, h) := by
  obtain ⟨d, rfl, -⟩ := dpos hd
  obtain ⟨d, rfl, -⟩ := dpos (show 0 + 1 ≤ d by omega)
  obtain ⟨b1, b2⟩ := bytE 17 (by omega) k hk
  rw [e_J0_charAt_5068e_417, e_J0_isLatin1_aae02_417, pm_bd_s, if_neg (by decide), e_J1_charAt_3b067_417, if_neg (fun z => z.elim (nI_pos (by omega)) (fun z => nI_ge hk (by omega) z)), pm_at_c hk (by omega), b1, if_pos b2, pm_bd_s, if_pos b2]
theorem len_418 {d : Nat} {h : pm_Hp} (hd : 2 ≤ d) : pm_ev d 299 [.ref 418] h = some (nI 3, h) := by
  obtain ⟨d, rfl, -⟩ := dpos hd
  obtain ⟨d, rfl, -⟩ := dpos (show 0 + 1 ≤ d by omega)
  rw [e_J0_length_8abf5_418, e_J0_coder_7d493_418, pm_bd_s, shr0 (by omega)]
theorem chr_418 {d k : Nat} {h : pm_Hp} (hd : 2 ≤ d) (hk : k < 3) : pm_ev d 300 [.ref 418, .int (nI k)] h = some ((bytJS.getD 18 []).getD k 0, h) := by
  obtain ⟨d, rfl, -⟩ := dpos hd
  obtain ⟨d, rfl, -⟩ := dpos (show 0 + 1 ≤ d by omega)
  obtain ⟨b1, b2⟩ := bytE 18 (by omega) k hk
  rw [e_J0_charAt_5068e_418, e_J0_isLatin1_aae02_418, pm_bd_s, if_neg (by decide), e_J1_charAt_3b067_418, if_neg (fun z => z.elim (nI_pos (by omega)) (fun z => nI_ge hk (by omega) z)), pm_at_c hk (by omega), b1, if_pos b2, pm_bd_s, if_pos b2]
theorem len_419 {d : Nat} {h : pm_Hp} (hd : 2 ≤ d) : pm_ev d 299 [.ref 419] h = some (nI 7, h) := by
  obtain ⟨d, rfl, -⟩ := dpos hd
  obtain ⟨d, rfl, -⟩ := dpos (show 0 + 1 ≤ d by omega)
  rw [e_J0_length_8abf5_419, e_J0_coder_7d493_419, pm_bd_s, shr0 (by omega)]
theorem chr_419 {d k : Nat} {h : pm_Hp} (hd : 2 ≤ d) (hk : k < 7) : pm_ev d 300 [.ref 419, .int (nI k)] h = some ((bytJS.getD 19 []).getD k 0, h) := by
  obtain ⟨d, rfl, -⟩ := dpos hd
  obtain ⟨d, rfl, -⟩ := dpos (show 0 + 1 ≤ d by omega)
  obtain ⟨b1, b2⟩ := bytE 19 (by omega) k hk
  rw [e_J0_charAt_5068e_419, e_J0_isLatin1_aae02_419, pm_bd_s, if_neg (by decide), e_J1_charAt_3b067_419, if_neg (fun z => z.elim (nI_pos (by omega)) (fun z => nI_ge hk (by omega) z)), pm_at_c hk (by omega), b1, if_pos b2, pm_bd_s, if_pos b2]
theorem len_420 {d : Nat} {h : pm_Hp} (hd : 2 ≤ d) : pm_ev d 299 [.ref 420] h = some (nI 4, h) := by
  obtain ⟨d, rfl, -⟩ := dpos hd
  obtain ⟨d, rfl, -⟩ := dpos (show 0 + 1 ≤ d by omega)
  rw [e_J0_length_8abf5_420, e_J0_coder_7d493_420, pm_bd_s, shr0 (by omega)]
theorem chr_420 {d k : Nat} {h : pm_Hp} (hd : 2 ≤ d) (hk : k < 4) : pm_ev d 300 [.ref 420, .int (nI k)] h = some ((bytJS.getD 20 []).getD k 0, h) := by
  obtain ⟨d, rfl, -⟩ := dpos hd
  obtain ⟨d, rfl, -⟩ := dpos (show 0 + 1 ≤ d by omega)
  obtain ⟨b1, b2⟩ := bytE 20 (by omega) k hk
  rw [e_J0_charAt_5068e_420, e_J0_isLatin1_aae02_420, pm_bd_s, if_neg (by decide), e_J1_charAt_3b067_420, if_neg (fun z => z.elim (nI_pos (by omega)) (fun z => nI_ge hk (by omega) z)), pm_at_c hk (by omega), b1, if_pos b2, pm_bd_s, if_pos b2]
theorem len_421 {d : Nat} {h : pm_Hp} (hd : 2 ≤ d) : pm_ev d 299 [.ref 421] h = some (nI 4, h) := by
  obtain ⟨d, rfl, -⟩ := dpos hd
  obtain ⟨d, rfl, -⟩ := dpos (show 0 + 1 ≤ d by omega)
  rw [e_J0_length_8abf5_421, e_J0_coder_7d493_421, pm_bd_s, shr0 (by omega)]
theorem chr_421 {d k : Nat} {h : pm_Hp} (hd : 2 ≤ d) (hk : k < 4) : pm_ev d 300 [.ref 421, .int (nI k)] h = some ((bytJS.getD 21 []).getD k 0, h) := by
  obtain ⟨d, rfl, -⟩ := dpos hd
  obtain ⟨d, rfl, -⟩ := dpos (show 0 + 1 ≤ d by omega)
  obtain ⟨b1, b2⟩ := bytE 21 (by omega) k hk
  rw [e_J0_charAt_5068e_421, e_J0_isLatin1_aae02_421, pm_bd_s, if_neg (by decide), e_J1_charAt_3b067_421, if_neg (fun z => z.elim (nI_pos (by omega)) (fun z => nI_ge hk (by omega) z)), pm_at_c hk (by omega), b1, if_pos b2, pm_bd_s, if_pos b2]
theorem len_422 {d : Nat} {h : pm_Hp} (hd : 2 ≤ d) : pm_ev d 299 [.ref 422] h = some (nI 4, h) := by
  obtain ⟨d, rfl, -⟩ := dpos hd
  obtain ⟨d, rfl, -⟩ := dpos (show 0 + 1 ≤ d by omega)
  rw [e_J0_length_8abf5_422, e_J0_coder_7d493_422, pm_bd_s, shr0 (by omega)]
theorem chr_422 {d k : Nat} {h : pm_Hp} (hd : 2 ≤ d) (hk : k < 4) : pm_ev d 300 [.ref 422, .int (nI k)] h = some ((bytJS.getD 22 []).getD k 0, h) := by
  obtain ⟨d, rfl, -⟩ := dpos hd
  obtain ⟨d, rfl, -⟩ := dpos (show 0 + 1 ≤ d by omega)
  obtain ⟨b1, b2⟩ := bytE 22 (by omega) k hk
  rw [e_J0_charAt_5068e_422, e_J0_isLatin1_aae02_422, pm_bd_s, if_neg (by decide), e_J1_charAt_3b067_422, if_neg (fun z => z.elim (nI_pos (by omega)) (fun z => nI_ge hk (by omega) z)), pm_at_c hk (by omega), b1, if_pos b2, pm_bd_s, if_pos b2]
theorem len_423 {d : Nat} {h : pm_Hp} (hd : 2 ≤ d) : pm_ev d 299 [.ref 423] h = some (nI 4, h) := by
  obtain ⟨d, rfl, -⟩ := dpos hd
  obtain ⟨d, rfl, -⟩ := dpos (show 0 + 1 ≤ d by omega)
  rw [e_J0_length_8abf5_423, e_J0_coder_7d493_423, pm_bd_s, shr0 (by omega)]
theorem chr_423 {d k : Nat} {h : pm_Hp} (hd : 2 ≤ d) (hk : k < 4) : pm_ev d 300 [.ref 423, .int (nI k)] h = some ((bytJS.getD 23 []).getD k 0, h) := by
  obtain ⟨d, rfl, -⟩ := dpos hd
  obtain ⟨d, rfl, -⟩ := dpos (show 0 + 1 ≤ d by omega)
  obtain ⟨b1, b2⟩ := bytE 23 (by omega) k hk
  rw [e_J0_charAt_5068e_423, e_J0_isLatin1_aae02_423, pm_bd_s, if_neg (by decide), e_J1_charAt_3b067_423, if_neg (fun z => z.elim (nI_pos (by omega)) (fun z => nI_ge hk (by omega) z)), pm_at_c hk (by omega), b1, if_pos b2, pm_bd_s, if_pos b2]
theorem len_424 {d : Nat} {h : pm_Hp} (hd : 2 ≤ d) : pm_ev d 299 [.ref 424] h = some (nI 4, h) := by
  obtain ⟨d, rfl, -⟩ := dpos hd
  obtain ⟨d, rfl, -⟩ := dpos (show 0 + 1 ≤ d by omega)
  rw [e_J0_length_8abf5_424, e_J0_coder_7d493_424, pm_bd_s, shr0 (by omega)]
theorem chr_424 {d k : Nat} {h : pm_Hp} (hd : 2 ≤ d) (hk : k < 4) : pm_ev d 300 [.ref 424, .int (nI k)] h = some ((bytJS.getD 24 []).getD k 0, h) := by
  obtain ⟨d, rfl, -⟩ := dpos hd
  obtain ⟨d, rfl, -⟩ := dpos (show 0 + 1 ≤ d by omega)
  obtain ⟨b1, b2⟩ := bytE 24 (by omega) k hk
  rw [e_J0_charAt_5068e_424, e_J0_isLatin1_aae02_424, pm_bd_s, if_neg (by decide), e_J1_charAt_3b067_424, if_neg (fun z => z.elim (nI_pos (by omega)) (fun z => nI_ge hk (by omega) z)), pm_at_c hk (by omega), b1, if_pos b2, pm_bd_s, if_pos b2]
theorem len_425 {d : Nat} {h : pm_Hp} (hd : 2 ≤ d) : pm_ev d 299 [.ref 425] h = some (nI 4, h) := by
  obtain ⟨d, rfl, -⟩ := dpos hd
  obtain ⟨d, rfl, -⟩ := dpos (show 0 + 1 ≤ d by omega)
  rw [e_J0_length_8abf5_425, e_J0_coder_7d493_425, pm_bd_s, shr0 (by omega)]
theorem chr_425 {d k : Nat} {h : pm_Hp} (hd : 2 ≤ d) (hk : k < 4) : pm_ev d 300 [.ref 425, .int (nI k)] h = some ((bytJS.getD 25 []).getD k 0, h) := by
  obtain ⟨d, rfl, -⟩ := dpos hd
  obtain ⟨d, rfl, -⟩ := dpos (show 0 + 1 ≤ d by omega)
  obtain ⟨b1, b2⟩ := bytE 25 (by omega) k hk
  rw [e_J0_charAt_5068e_425, e_J0_isLatin1_aae02_425, pm_bd_s, if_neg (by decide), e_J1_charAt_3b067_425, if_neg (fun z => z.elim (nI_pos (by omega)) (fun z => nI_ge hk (by omega) z)), pm_at_c hk (by omega), b1, if_pos b2, pm_bd_s, if_pos b2]
theorem sgn_of : ∀ b, b < 256 → ((fst1 (fun j => (bytJS.getD 1 []).getD j 0 = (nI b).toInt8.toInt32) 0 10).isSome = true ↔ isSg b) ∧ pm_i2c (nI b) = nI b := by decide +kernel
theorem e_index {d b : Nat} {h : pm_Hp} (hd : 5 ≤ d) (hb : b < 256) : pm_ev d 301 [.ref 401, .int (nI b)] h = some (o2 (fst1 (fun j => (bytJS.getD 1 []).getD j 0 = (nI b).toInt8.toInt32) 0 10), h) := by
  obtain ⟨d, rfl, -⟩ := dpos hd
  obtain ⟨d, rfl, -⟩ := dpos (show 3 + 1 ≤ d by omega)
  obtain ⟨d, rfl, -⟩ := dpos (show 2 + 1 ≤ d by omega)
  obtain ⟨d, rfl, -⟩ := dpos (show 1 + 1 ≤ d by omega)
  have lp : pm_rn d kJ1_indexOfChar_4cfef 7 [.ref 501, .int (nI b), .int 0, .int (nI 10), .int (nI b).toInt8.toInt32, .int 0] [] h = some (o2 (fst1 (fun j => (bytJS.getD 1 []).getD j 0 = (nI b).toInt8.toInt32) 0 10), h) := by
    refine fst1_lp (fun i => pm_rn d kJ1_indexOfChar_4cfef 7 [.ref 501, .int (nI b), .int 0, .int (nI 10), .int (nI b).toInt8.toInt32, .int (nI i)] [] h) _ 10 h (fun i hi => ?_) ?_ 10 0 (by omega)
    · show pm_rn d kJ1_indexOfChar_4cfef 7 [.ref 501, .int (nI b), .int 0, .int (nI 10), .int (nI b).toInt8.toInt32, .int (nI i)] [] h = _
      rw [b_J1_indexOfChar_4cfef_7, if_pos (nI_lt hi (by omega)), pm_at_c (by omega) (by omega), nI_1]
    · show pm_rn d kJ1_indexOfChar_4cfef 7 [.ref 501, .int (nI b), .int 0, .int (nI 10), .int (nI b).toInt8.toInt32, .int (nI 10)] [] h = _
      rw [b_J1_indexOfChar_4cfef_7, if_neg (nI_nlt (by omega) (by omega))]
  have en : pm_ev (d + 1) 306 [.int (nI b)] h = some (1, h) := by
    rw [e_J1_canEncode_9a6ad, if_neg (nI_pos (by omega)), if_pos (nI_le (by omega) (by omega))]
  have mx : pm_ev (d + 1) 297 [.int 0, .int 0] h = some (0, h) := by rw [e_max (by omega), if_neg (by decide)]
  have mnn : pm_ev (d + 1) 298 [.int (nI 10), .int (nI 10)] h = some (nI 10, h) := by rw [e_min (by omega), if_neg (by decide)]
  rw [e_J0_indexOf_0f7a4, e_J0_indexOf_7cf53, e_J0_isLatin1_aae02_401, pm_bd_s, if_neg (by decide), len_401 (by omega), pm_bd_s, e_J1_indexOf_4cfef, en, pm_bd_s, if_neg (by decide), mx, pm_bd_s, mnn, pm_bd_s, if_pos (by decide), e_J1_indexOfChar_4cfef, lp, pm_bd_s, pm_bd_s, pm_bd_s]
theorem e_sign {d b : Nat} {h : pm_Hp} (hd : 5 ≤ d) (hb : b < 256) : ∃ r, pm_ev d 301 [.ref 401, .int (pm_i2c (nI b))] h = some (r, h) ∧ (r < 0 ↔ ¬ isSg b) := by
  obtain ⟨s1, s2⟩ := sgn_of b hb
  rw [s2]
  refine ⟨_, e_index hd hb, ?_⟩
  cases e : fst1 (fun j => (bytJS.getD 1 []).getD j 0 = (nI b).toInt8.toInt32) 0 10 with
  | none =>
    rw [e] at s1
    exact ⟨fun _ z => absurd (s1.mpr z) (by decide), fun _ => by show (-1 : Int32) < 0; decide⟩
  | some k =>
    rw [e] at s1
    have hk := (fst1_some e).2.2
    exact ⟨fun z => absurd z (nI_pos (by omega)), fun z => absurd (s1.mp rfl) z⟩
