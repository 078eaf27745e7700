def KR (T R A c nx : Nat) (h : pm_Hp) : Prop := c ≤ 6 ∧ nx < 6 ∧ h 77 1 = nI nx ∧ h 77 2 = nI c ∧ h 169 3 = nI c ∧ ∀ x, x < c → FK T R A (kh ((nx + 5 - x) % 6) (c - 1 - x) h)
/-- an act, as the ring sees it: h before, h1 when the class has kept, h2 when the model is to keep, h3 when it has, h4 after -/
theorem KR.act {T R A c nx : Nat} {h h1 h2 h3 h4 : pm_Hp} (K : FK T R A h) (Z : KR T R A c nx h) (C : kpC c nx h h1) (f1 : ∀ k, 77 ≤ k → k ≤ 132 → h4 k = h1 k) (w1 : ∀ x, x < 324 → h2 170 x = h 170 x) (w2 : h2 172 = h 172) (M : kpM c h2 h3) (f2 : h4 172 = h3 172) (f3 : h4 169 3 = h3 169 3) (o1 : h4 1 = h 1) (o2 : ∀ k, 11 ≤ k → k ≤ 15 → h4 k = h k) (o3 : ∀ x, 324 ≤ x → x < 396 → h4 170 x = h 170 x) : KR T R A (if c = 6 then 6 else c + 1) ((nx + 1) % 6) h4 := by
  obtain ⟨hc, hn, z1, z2, z3, z4⟩ := Z
  obtain ⟨c1, c2, c3, c4, c5, c6, c7, c8, c9⟩ := C
  obtain ⟨m1, m2, m3⟩ := M
  have b0 : ∀ x, x < 324 → h4 172 (324 * ((if c = 6 then 6 else c + 1) - 1) + x) = h 170 x := fun x hx => by
    rw [f2]
    by_cases e : c = 6
    · rw [if_pos e] at m3 ⊢
      rw [show 324 * (6 - 1) + x = 1620 + x by omega, m3.2.1 x hx]; exact w1 x hx
    · rw [if_neg e] at m3 ⊢
      rw [show c + 1 - 1 = c by omega, m3.2.1 x hx]; exact w1 x hx
  have b1 : ∀ y, y + 1 < (if c = 6 then 6 else c + 1) → ∀ x, x < 324 → h4 172 (324 * ((if c = 6 then 6 else c + 1) - 1 - (y + 1)) + x) = h 172 (324 * (c - 1 - y) + x) := fun y hy x hx => by
    rw [f2]
    by_cases e : c = 6
    · rw [if_pos e] at m3 hy ⊢
      rw [m3.2.2 _ (by omega), w2]
      congr 1
      omega
    · rw [if_neg e] at m3 hy ⊢
      rw [show c + 1 - 1 - (y + 1) = c - 1 - y by omega, m3.2.2 _ (by
        have : 324 * (c - 1 - y) + 324 ≤ 324 * c := by omega
        omega), w2]
  refine ⟨?_, Nat.mod_lt _ (by omega), ?_, ?_, ?_, fun x hx => ?_⟩
  · by_cases e : c = 6
    · rw [if_pos e]; omega
    · rw [if_neg e]; omega
  · rw [f1 77 (by omega) (by omega)]; exact c3
  · rw [f1 77 (by omega) (by omega)]; exact c4
  · rw [f3]
    by_cases e : c = 6
    · rw [if_pos e] at m3 ⊢; exact m3.1
    · rw [if_neg e] at m3 ⊢; exact m3.1
  · cases x with
    | zero =>
      rw [ring_nw hn, Nat.sub_zero]
      exact K.ag (kh_nw (fun x h1 h2 => by rw [f1 _ (by omega) (by omega)]; exact c7 x h1 h2) (fun r x h1 h2 h3 => by rw [f1 _ (by omega) (by omega)]; exact c8 r x h1 h2 h3) (fun x hx => by rw [f1 _ (by omega) (by omega)]; exact c9 x hx) b0 o1 o2 o3)
    | succ y =>
      have y5 : y < 5 := by
        by_cases e : c = 6
        · rw [if_pos e] at hx; omega
        · rw [if_neg e] at hx; omega
      have yc : y < c := by
        by_cases e : c = 6
        · rw [if_pos e] at hx; omega
        · rw [if_neg e] at hx; omega
      rw [ring_ix hn y5]
      have ne := ring_ne hn y5
      have lt : (nx + 5 - y) % 6 < 6 := Nat.mod_lt _ (by omega)
      have old := z4 y yc
      generalize (nx + 5 - y) % 6 = i at ne lt old ⊢
      refine old.ag (kh_ag (fun x h1 h2 => ?_) (fun r x h1 h2 h3 => ?_) (fun x hx => ?_) (b1 y hx) o1 o2 o3)
      · rw [f1 _ (by omega) (by omega), c1 _ (by omega) (by omega) (by omega)]
      · rw [f1 _ (by omega) (by omega), c1 _ (by omega) (by omega) (by omega)]
      · rw [f1 _ (by omega) (by omega), c1 _ (by omega) (by omega) (by omega)]
