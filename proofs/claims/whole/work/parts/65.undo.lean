theorem ring_un {nx x : Nat} (hn : nx < 6) (hx : x < 5) : ((nx + 5) % 6 + 5 - x) % 6 = (nx + 5 - (x + 1)) % 6 := by omega
theorem KR.undo {T R A c nx : Nat} {h h1 h2 : pm_Hp} (Z : KR T R A c nx h) (c0 : 0 < c) (C : unC c nx h h1) (m1 : ∀ k, k ≠ 169 → k ≠ 170 → h2 k = h1 k) (m2 : h2 169 3 = nI (c - 1)) (m4 : ∀ x, x < 324 → h2 170 x = h1 172 (324 * (c - 1) + x)) (m5 : ∀ x, 324 ≤ x → h2 170 x = h1 170 x) : FK T R A h2 ∧ KR T R A (c - 1) ((nx + 5) % 6) h2 := by
  obtain ⟨hc, hn, z1, z2, z3, z4⟩ := Z
  obtain ⟨c1, c2, c3, c4, c5, c6, c7, c8, c9⟩ := C
  have im : (nx + 5) % 6 < 6 := Nat.mod_lt _ (by omega)
  have st : ∀ k, (k < 2 ∨ 11 ≤ k) → k ≠ 77 → k ≠ 150 → k ≠ 169 → k ≠ 170 → h2 k = h k := fun k a b e f g => (m1 k f g).trans (c1 k a b e)
  have w3 : ∀ x, 324 ≤ x → h2 170 x = h 170 x := fun x hx => (m5 x hx).trans (by rw [c1 170 (by omega) (by omega) (by omega)])
  have w4 : ∀ x, x < 324 → h2 170 x = h 172 (324 * (c - 1) + x) := fun x hx => (m4 x hx).trans (by rw [c1 172 (by omega) (by omega) (by omega)])
  constructor
  · have old := z4 0 c0
    rw [Nat.sub_zero, Nat.sub_zero] at old
    refine old.ag ⟨fun x hx => ?_, ⟨?_, ?_⟩, fun r hr => ?_, ⟨?_, ?_⟩, fun r hr => ?_, fun x h1 h2 => ?_, fun k x h1 h2 h3 h4 => ?_, fun x hx => ⟨?_, ?_⟩, fun x hx => ?_⟩
    · rw [kh_w hx]; exact w4 x hx
    · rw [kh_o (by omega) (by omega)]; exact w3 _ (by omega)
    · rw [kh_o (by omega) (by omega)]; exact w3 _ (by omega)
    · rw [kh_o (by omega) (by omega)]; exact w3 _ (by omega)
    · rw [kh_o (by omega) (by omega), st 1 (by omega) (by omega) (by omega) (by omega) (by omega)]
    · rw [kh_o (by omega) (by omega), st 1 (by omega) (by omega) (by omega) (by omega) (by omega)]
    · rw [kh_o (by omega) (by omega), st 15 (by omega) (by omega) (by omega) (by omega) (by omega)]
    · rw [kh_st (by omega) (by omega), m1 2 (by omega) (by omega)]; exact c7 x h1 h2
    · by_cases g : k ≤ 10
      · rw [kh_st (by omega) g, m1 k (by omega) (by omega)]
        have := c8 (k - 2) x (by omega) (by omega) h4
        rw [show 2 + (k - 2) = k by omega] at this
        exact this
      · rw [kh_o (by omega) (by omega), st k (by omega) (by omega) (by omega) (by omega) (by omega)]
    · rw [kh_st (by omega) (by omega), m1 10 (by omega) (by omega)]; exact c9 x hx
    · rw [kh_o (by omega) (by omega), st 13 (by omega) (by omega) (by omega) (by omega) (by omega)]
    · rw [kh_o (by omega) (by omega), st 14 (by omega) (by omega) (by omega) (by omega) (by omega)]
  · refine ⟨by omega, im, ?_, ?_, m2, fun x hx => ?_⟩
    · rw [m1 77 (by omega) (by omega)]; exact c3
    · rw [m1 77 (by omega) (by omega)]; exact c4
    · have old := z4 (x + 1) (by omega)
      rw [ring_un hn (by omega), show c - 1 - 1 - x = c - 1 - (x + 1) by omega]
      have lt : (nx + 5 - (x + 1)) % 6 < 6 := Nat.mod_lt _ (by omega)
      generalize (nx + 5 - (x + 1)) % 6 = i at lt old ⊢
      refine old.ag (kh_ag (fun x h1 h2 => ?_) (fun r x h1 h2 h3 => ?_) (fun x hx => ?_) (fun x hx => ?_) ?_ (fun k h1 h2 => ?_) (fun x h1 h2 => w3 x h1))
      · rw [st _ (by omega) (by omega) (by omega) (by omega) (by omega)]
      · rw [st _ (by omega) (by omega) (by omega) (by omega) (by omega)]
      · rw [st _ (by omega) (by omega) (by omega) (by omega) (by omega)]
      · rw [st 172 (by omega) (by omega) (by omega) (by omega) (by omega)]
      · exact st 1 (by omega) (by omega) (by omega) (by omega) (by omega)
      · exact st k (by omega) (by omega) (by omega) (by omega) (by omega)
