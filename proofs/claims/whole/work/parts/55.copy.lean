/-! ROWS COPIED -/
theorem crw {a b n : Nat} (ha : (pm_ob a).2.1 = n) (hb : (pm_ob b).2.1 = n) (hn : n < 2 ^ 30) (raw : ∀ (d : Nat) (h : pm_Hp), pm_ev (d + 1) 155 [.ref a, .ref b] h = pm_bd (pm_ev d 298 [.int (nI n), .int (nI n)] h) fun r1 y1 => pm_acp y1 a b 0 0 r1 fun g2 => some (0, g2)) {d : Nat} (hd : 2 ≤ d) (h : pm_Hp) : pm_ev d 155 [.ref a, .ref b] h = some (0, pm_cp h a b 0 0 n) := by
  obtain ⟨d, rfl, -⟩ := dpos hd
  have z : (0 : Int32).toNatClampNeg = 0 := rfl
  rw [raw, e_min (by omega), pm_bd_s, if_neg (nI_nlt (by omega) (by omega))]
  unfold pm_acp
  rw [ha, hb, nI_clamp (by omega), z]
  rw [if_neg]
  rintro ((q | q | q) | q | q)
  · exact absurd q (by decide)
  · exact absurd q (by decide)
  · exact absurd q (nI_pos (by omega))
  · exact q (by omega)
  · exact q (by omega)
set_option maxRecDepth 100000 in
theorem r_3_41 {d : Nat} (hd : 2 ≤ d) (h : pm_Hp) : pm_ev d 155 [.ref 3, .ref 41] h = some (0, pm_cp h 3 41 0 0 16) := crw (n := 16) rfl rfl (by decide) (fun d h => (pm_ev_b d 155 400 (fun pc => false) _ h).trans rfl) hd h
set_option maxRecDepth 100000 in
theorem r_3_80 {d : Nat} (hd : 2 ≤ d) (h : pm_Hp) : pm_ev d 155 [.ref 3, .ref 80] h = some (0, pm_cp h 3 80 0 0 16) := crw (n := 16) rfl rfl (by decide) (fun d h => (pm_ev_b d 155 400 (fun pc => false) _ h).trans rfl) hd h
set_option maxRecDepth 100000 in
theorem r_3_89 {d : Nat} (hd : 2 ≤ d) (h : pm_Hp) : pm_ev d 155 [.ref 3, .ref 89] h = some (0, pm_cp h 3 89 0 0 16) := crw (n := 16) rfl rfl (by decide) (fun d h => (pm_ev_b d 155 400 (fun pc => false) _ h).trans rfl) hd h
set_option maxRecDepth 100000 in
theorem r_3_98 {d : Nat} (hd : 2 ≤ d) (h : pm_Hp) : pm_ev d 155 [.ref 3, .ref 98] h = some (0, pm_cp h 3 98 0 0 16) := crw (n := 16) rfl rfl (by decide) (fun d h => (pm_ev_b d 155 400 (fun pc => false) _ h).trans rfl) hd h
set_option maxRecDepth 100000 in
theorem r_3_107 {d : Nat} (hd : 2 ≤ d) (h : pm_Hp) : pm_ev d 155 [.ref 3, .ref 107] h = some (0, pm_cp h 3 107 0 0 16) := crw (n := 16) rfl rfl (by decide) (fun d h => (pm_ev_b d 155 400 (fun pc => false) _ h).trans rfl) hd h
set_option maxRecDepth 100000 in
theorem r_3_116 {d : Nat} (hd : 2 ≤ d) (h : pm_Hp) : pm_ev d 155 [.ref 3, .ref 116] h = some (0, pm_cp h 3 116 0 0 16) := crw (n := 16) rfl rfl (by decide) (fun d h => (pm_ev_b d 155 400 (fun pc => false) _ h).trans rfl) hd h
set_option maxRecDepth 100000 in
theorem r_3_125 {d : Nat} (hd : 2 ≤ d) (h : pm_Hp) : pm_ev d 155 [.ref 3, .ref 125] h = some (0, pm_cp h 3 125 0 0 16) := crw (n := 16) rfl rfl (by decide) (fun d h => (pm_ev_b d 155 400 (fun pc => false) _ h).trans rfl) hd h
set_option maxRecDepth 100000 in
theorem r_4_42 {d : Nat} (hd : 2 ≤ d) (h : pm_Hp) : pm_ev d 155 [.ref 4, .ref 42] h = some (0, pm_cp h 4 42 0 0 16) := crw (n := 16) rfl rfl (by decide) (fun d h => (pm_ev_b d 155 400 (fun pc => false) _ h).trans rfl) hd h
set_option maxRecDepth 100000 in
theorem r_4_81 {d : Nat} (hd : 2 ≤ d) (h : pm_Hp) : pm_ev d 155 [.ref 4, .ref 81] h = some (0, pm_cp h 4 81 0 0 16) := crw (n := 16) rfl rfl (by decide) (fun d h => (pm_ev_b d 155 400 (fun pc => false) _ h).trans rfl) hd h
set_option maxRecDepth 100000 in
theorem r_4_90 {d : Nat} (hd : 2 ≤ d) (h : pm_Hp) : pm_ev d 155 [.ref 4, .ref 90] h = some (0, pm_cp h 4 90 0 0 16) := crw (n := 16) rfl rfl (by decide) (fun d h => (pm_ev_b d 155 400 (fun pc => false) _ h).trans rfl) hd h
set_option maxRecDepth 100000 in
theorem r_4_99 {d : Nat} (hd : 2 ≤ d) (h : pm_Hp) : pm_ev d 155 [.ref 4, .ref 99] h = some (0, pm_cp h 4 99 0 0 16) := crw (n := 16) rfl rfl (by decide) (fun d h => (pm_ev_b d 155 400 (fun pc => false) _ h).trans rfl) hd h
set_option maxRecDepth 100000 in
theorem r_4_108 {d : Nat} (hd : 2 ≤ d) (h : pm_Hp) : pm_ev d 155 [.ref 4, .ref 108] h = some (0, pm_cp h 4 108 0 0 16) := crw (n := 16) rfl rfl (by decide) (fun d h => (pm_ev_b d 155 400 (fun pc => false) _ h).trans rfl) hd h
set_option maxRecDepth 100000 in
theorem r_4_117 {d : Nat} (hd : 2 ≤ d) (h : pm_Hp) : pm_ev d 155 [.ref 4, .ref 117] h = some (0, pm_cp h 4 117 0 0 16) := crw (n := 16) rfl rfl (by decide) (fun d h => (pm_ev_b d 155 400 (fun pc => false) _ h).trans rfl) hd h
set_option maxRecDepth 100000 in
theorem r_4_126 {d : Nat} (hd : 2 ≤ d) (h : pm_Hp) : pm_ev d 155 [.ref 4, .ref 126] h = some (0, pm_cp h 4 126 0 0 16) := crw (n := 16) rfl rfl (by decide) (fun d h => (pm_ev_b d 155 400 (fun pc => false) _ h).trans rfl) hd h
set_option maxRecDepth 100000 in
theorem r_5_43 {d : Nat} (hd : 2 ≤ d) (h : pm_Hp) : pm_ev d 155 [.ref 5, .ref 43] h = some (0, pm_cp h 5 43 0 0 16) := crw (n := 16) rfl rfl (by decide) (fun d h => (pm_ev_b d 155 400 (fun pc => false) _ h).trans rfl) hd h
set_option maxRecDepth 100000 in
theorem r_5_82 {d : Nat} (hd : 2 ≤ d) (h : pm_Hp) : pm_ev d 155 [.ref 5, .ref 82] h = some (0, pm_cp h 5 82 0 0 16) := crw (n := 16) rfl rfl (by decide) (fun d h => (pm_ev_b d 155 400 (fun pc => false) _ h).trans rfl) hd h
set_option maxRecDepth 100000 in
theorem r_5_91 {d : Nat} (hd : 2 ≤ d) (h : pm_Hp) : pm_ev d 155 [.ref 5, .ref 91] h = some (0, pm_cp h 5 91 0 0 16) := crw (n := 16) rfl rfl (by decide) (fun d h => (pm_ev_b d 155 400 (fun pc => false) _ h).trans rfl) hd h
set_option maxRecDepth 100000 in
theorem r_5_100 {d : Nat} (hd : 2 ≤ d) (h : pm_Hp) : pm_ev d 155 [.ref 5, .ref 100] h = some (0, pm_cp h 5 100 0 0 16) := crw (n := 16) rfl rfl (by decide) (fun d h => (pm_ev_b d 155 400 (fun pc => false) _ h).trans rfl) hd h
set_option maxRecDepth 100000 in
theorem r_5_109 {d : Nat} (hd : 2 ≤ d) (h : pm_Hp) : pm_ev d 155 [.ref 5, .ref 109] h = some (0, pm_cp h 5 109 0 0 16) := crw (n := 16) rfl rfl (by decide) (fun d h => (pm_ev_b d 155 400 (fun pc => false) _ h).trans rfl) hd h
set_option maxRecDepth 100000 in
theorem r_5_118 {d : Nat} (hd : 2 ≤ d) (h : pm_Hp) : pm_ev d 155 [.ref 5, .ref 118] h = some (0, pm_cp h 5 118 0 0 16) := crw (n := 16) rfl rfl (by decide) (fun d h => (pm_ev_b d 155 400 (fun pc => false) _ h).trans rfl) hd h
set_option maxRecDepth 100000 in
theorem r_5_127 {d : Nat} (hd : 2 ≤ d) (h : pm_Hp) : pm_ev d 155 [.ref 5, .ref 127] h = some (0, pm_cp h 5 127 0 0 16) := crw (n := 16) rfl rfl (by decide) (fun d h => (pm_ev_b d 155 400 (fun pc => false) _ h).trans rfl) hd h
set_option maxRecDepth 100000 in
theorem r_6_44 {d : Nat} (hd : 2 ≤ d) (h : pm_Hp) : pm_ev d 155 [.ref 6, .ref 44] h = some (0, pm_cp h 6 44 0 0 16) := crw (n := 16) rfl rfl (by decide) (fun d h => (pm_ev_b d 155 400 (fun pc => false) _ h).trans rfl) hd h
set_option maxRecDepth 100000 in
theorem r_6_83 {d : Nat} (hd : 2 ≤ d) (h : pm_Hp) : pm_ev d 155 [.ref 6, .ref 83] h = some (0, pm_cp h 6 83 0 0 16) := crw (n := 16) rfl rfl (by decide) (fun d h => (pm_ev_b d 155 400 (fun pc => false) _ h).trans rfl) hd h
set_option maxRecDepth 100000 in
theorem r_6_92 {d : Nat} (hd : 2 ≤ d) (h : pm_Hp) : pm_ev d 155 [.ref 6, .ref 92] h = some (0, pm_cp h 6 92 0 0 16) := crw (n := 16) rfl rfl (by decide) (fun d h => (pm_ev_b d 155 400 (fun pc => false) _ h).trans rfl) hd h
set_option maxRecDepth 100000 in
theorem r_6_101 {d : Nat} (hd : 2 ≤ d) (h : pm_Hp) : pm_ev d 155 [.ref 6, .ref 101] h = some (0, pm_cp h 6 101 0 0 16) := crw (n := 16) rfl rfl (by decide) (fun d h => (pm_ev_b d 155 400 (fun pc => false) _ h).trans rfl) hd h
set_option maxRecDepth 100000 in
theorem r_6_110 {d : Nat} (hd : 2 ≤ d) (h : pm_Hp) : pm_ev d 155 [.ref 6, .ref 110] h = some (0, pm_cp h 6 110 0 0 16) := crw (n := 16) rfl rfl (by decide) (fun d h => (pm_ev_b d 155 400 (fun pc => false) _ h).trans rfl) hd h
set_option maxRecDepth 100000 in
theorem r_6_119 {d : Nat} (hd : 2 ≤ d) (h : pm_Hp) : pm_ev d 155 [.ref 6, .ref 119] h = some (0, pm_cp h 6 119 0 0 16) := crw (n := 16) rfl rfl (by decide) (fun d h => (pm_ev_b d 155 400 (fun pc => false) _ h).trans rfl) hd h
set_option maxRecDepth 100000 in
theorem r_6_128 {d : Nat} (hd : 2 ≤ d) (h : pm_Hp) : pm_ev d 155 [.ref 6, .ref 128] h = some (0, pm_cp h 6 128 0 0 16) := crw (n := 16) rfl rfl (by decide) (fun d h => (pm_ev_b d 155 400 (fun pc => false) _ h).trans rfl) hd h
set_option maxRecDepth 100000 in
theorem r_7_45 {d : Nat} (hd : 2 ≤ d) (h : pm_Hp) : pm_ev d 155 [.ref 7, .ref 45] h = some (0, pm_cp h 7 45 0 0 16) := crw (n := 16) rfl rfl (by decide) (fun d h => (pm_ev_b d 155 400 (fun pc => false) _ h).trans rfl) hd h
set_option maxRecDepth 100000 in
theorem r_7_84 {d : Nat} (hd : 2 ≤ d) (h : pm_Hp) : pm_ev d 155 [.ref 7, .ref 84] h = some (0, pm_cp h 7 84 0 0 16) := crw (n := 16) rfl rfl (by decide) (fun d h => (pm_ev_b d 155 400 (fun pc => false) _ h).trans rfl) hd h
set_option maxRecDepth 100000 in
theorem r_7_93 {d : Nat} (hd : 2 ≤ d) (h : pm_Hp) : pm_ev d 155 [.ref 7, .ref 93] h = some (0, pm_cp h 7 93 0 0 16) := crw (n := 16) rfl rfl (by decide) (fun d h => (pm_ev_b d 155 400 (fun pc => false) _ h).trans rfl) hd h
set_option maxRecDepth 100000 in
theorem r_7_102 {d : Nat} (hd : 2 ≤ d) (h : pm_Hp) : pm_ev d 155 [.ref 7, .ref 102] h = some (0, pm_cp h 7 102 0 0 16) := crw (n := 16) rfl rfl (by decide) (fun d h => (pm_ev_b d 155 400 (fun pc => false) _ h).trans rfl) hd h
set_option maxRecDepth 100000 in
theorem r_7_111 {d : Nat} (hd : 2 ≤ d) (h : pm_Hp) : pm_ev d 155 [.ref 7, .ref 111] h = some (0, pm_cp h 7 111 0 0 16) := crw (n := 16) rfl rfl (by decide) (fun d h => (pm_ev_b d 155 400 (fun pc => false) _ h).trans rfl) hd h
set_option maxRecDepth 100000 in
theorem r_7_120 {d : Nat} (hd : 2 ≤ d) (h : pm_Hp) : pm_ev d 155 [.ref 7, .ref 120] h = some (0, pm_cp h 7 120 0 0 16) := crw (n := 16) rfl rfl (by decide) (fun d h => (pm_ev_b d 155 400 (fun pc => false) _ h).trans rfl) hd h
set_option maxRecDepth 100000 in
theorem r_7_129 {d : Nat} (hd : 2 ≤ d) (h : pm_Hp) : pm_ev d 155 [.ref 7, .ref 129] h = some (0, pm_cp h 7 129 0 0 16) := crw (n := 16) rfl rfl (by decide) (fun d h => (pm_ev_b d 155 400 (fun pc => false) _ h).trans rfl) hd h
set_option maxRecDepth 100000 in
theorem r_8_46 {d : Nat} (hd : 2 ≤ d) (h : pm_Hp) : pm_ev d 155 [.ref 8, .ref 46] h = some (0, pm_cp h 8 46 0 0 16) := crw (n := 16) rfl rfl (by decide) (fun d h => (pm_ev_b d 155 400 (fun pc => false) _ h).trans rfl) hd h
set_option maxRecDepth 100000 in
theorem r_8_85 {d : Nat} (hd : 2 ≤ d) (h : pm_Hp) : pm_ev d 155 [.ref 8, .ref 85] h = some (0, pm_cp h 8 85 0 0 16) := crw (n := 16) rfl rfl (by decide) (fun d h => (pm_ev_b d 155 400 (fun pc => false) _ h).trans rfl) hd h
set_option maxRecDepth 100000 in
theorem r_8_94 {d : Nat} (hd : 2 ≤ d) (h : pm_Hp) : pm_ev d 155 [.ref 8, .ref 94] h = some (0, pm_cp h 8 94 0 0 16) := crw (n := 16) rfl rfl (by decide) (fun d h => (pm_ev_b d 155 400 (fun pc => false) _ h).trans rfl) hd h
set_option maxRecDepth 100000 in
theorem r_8_103 {d : Nat} (hd : 2 ≤ d) (h : pm_Hp) : pm_ev d 155 [.ref 8, .ref 103] h = some (0, pm_cp h 8 103 0 0 16) := crw (n := 16) rfl rfl (by decide) (fun d h => (pm_ev_b d 155 400 (fun pc => false) _ h).trans rfl) hd h
set_option maxRecDepth 100000 in
theorem r_8_112 {d : Nat} (hd : 2 ≤ d) (h : pm_Hp) : pm_ev d 155 [.ref 8, .ref 112] h = some (0, pm_cp h 8 112 0 0 16) := crw (n := 16) rfl rfl (by decide) (fun d h => (pm_ev_b d 155 400 (fun pc => false) _ h).trans rfl) hd h
set_option maxRecDepth 100000 in
theorem r_8_121 {d : Nat} (hd : 2 ≤ d) (h : pm_Hp) : pm_ev d 155 [.ref 8, .ref 121] h = some (0, pm_cp h 8 121 0 0 16) := crw (n := 16) rfl rfl (by decide) (fun d h => (pm_ev_b d 155 400 (fun pc => false) _ h).trans rfl) hd h
set_option maxRecDepth 100000 in
theorem r_8_130 {d : Nat} (hd : 2 ≤ d) (h : pm_Hp) : pm_ev d 155 [.ref 8, .ref 130] h = some (0, pm_cp h 8 130 0 0 16) := crw (n := 16) rfl rfl (by decide) (fun d h => (pm_ev_b d 155 400 (fun pc => false) _ h).trans rfl) hd h
set_option maxRecDepth 100000 in
theorem r_9_47 {d : Nat} (hd : 2 ≤ d) (h : pm_Hp) : pm_ev d 155 [.ref 9, .ref 47] h = some (0, pm_cp h 9 47 0 0 16) := crw (n := 16) rfl rfl (by decide) (fun d h => (pm_ev_b d 155 400 (fun pc => false) _ h).trans rfl) hd h
set_option maxRecDepth 100000 in
theorem r_9_86 {d : Nat} (hd : 2 ≤ d) (h : pm_Hp) : pm_ev d 155 [.ref 9, .ref 86] h = some (0, pm_cp h 9 86 0 0 16) := crw (n := 16) rfl rfl (by decide) (fun d h => (pm_ev_b d 155 400 (fun pc => false) _ h).trans rfl) hd h
set_option maxRecDepth 100000 in
theorem r_9_95 {d : Nat} (hd : 2 ≤ d) (h : pm_Hp) : pm_ev d 155 [.ref 9, .ref 95] h = some (0, pm_cp h 9 95 0 0 16) := crw (n := 16) rfl rfl (by decide) (fun d h => (pm_ev_b d 155 400 (fun pc => false) _ h).trans rfl) hd h
set_option maxRecDepth 100000 in
theorem r_9_104 {d : Nat} (hd : 2 ≤ d) (h : pm_Hp) : pm_ev d 155 [.ref 9, .ref 104] h = some (0, pm_cp h 9 104 0 0 16) := crw (n := 16) rfl rfl (by decide) (fun d h => (pm_ev_b d 155 400 (fun pc => false) _ h).trans rfl) hd h
set_option maxRecDepth 100000 in
theorem r_9_113 {d : Nat} (hd : 2 ≤ d) (h : pm_Hp) : pm_ev d 155 [.ref 9, .ref 113] h = some (0, pm_cp h 9 113 0 0 16) := crw (n := 16) rfl rfl (by decide) (fun d h => (pm_ev_b d 155 400 (fun pc => false) _ h).trans rfl) hd h
set_option maxRecDepth 100000 in
theorem r_9_122 {d : Nat} (hd : 2 ≤ d) (h : pm_Hp) : pm_ev d 155 [.ref 9, .ref 122] h = some (0, pm_cp h 9 122 0 0 16) := crw (n := 16) rfl rfl (by decide) (fun d h => (pm_ev_b d 155 400 (fun pc => false) _ h).trans rfl) hd h
set_option maxRecDepth 100000 in
theorem r_9_131 {d : Nat} (hd : 2 ≤ d) (h : pm_Hp) : pm_ev d 155 [.ref 9, .ref 131] h = some (0, pm_cp h 9 131 0 0 16) := crw (n := 16) rfl rfl (by decide) (fun d h => (pm_ev_b d 155 400 (fun pc => false) _ h).trans rfl) hd h
set_option maxRecDepth 100000 in
theorem r_10_48 {d : Nat} (hd : 2 ≤ d) (h : pm_Hp) : pm_ev d 155 [.ref 10, .ref 48] h = some (0, pm_cp h 10 48 0 0 80) := crw (n := 80) rfl rfl (by decide) (fun d h => (pm_ev_b d 155 400 (fun pc => false) _ h).trans rfl) hd h
set_option maxRecDepth 100000 in
theorem r_10_87 {d : Nat} (hd : 2 ≤ d) (h : pm_Hp) : pm_ev d 155 [.ref 10, .ref 87] h = some (0, pm_cp h 10 87 0 0 80) := crw (n := 80) rfl rfl (by decide) (fun d h => (pm_ev_b d 155 400 (fun pc => false) _ h).trans rfl) hd h
set_option maxRecDepth 100000 in
theorem r_10_96 {d : Nat} (hd : 2 ≤ d) (h : pm_Hp) : pm_ev d 155 [.ref 10, .ref 96] h = some (0, pm_cp h 10 96 0 0 80) := crw (n := 80) rfl rfl (by decide) (fun d h => (pm_ev_b d 155 400 (fun pc => false) _ h).trans rfl) hd h
set_option maxRecDepth 100000 in
theorem r_10_105 {d : Nat} (hd : 2 ≤ d) (h : pm_Hp) : pm_ev d 155 [.ref 10, .ref 105] h = some (0, pm_cp h 10 105 0 0 80) := crw (n := 80) rfl rfl (by decide) (fun d h => (pm_ev_b d 155 400 (fun pc => false) _ h).trans rfl) hd h
set_option maxRecDepth 100000 in
theorem r_10_114 {d : Nat} (hd : 2 ≤ d) (h : pm_Hp) : pm_ev d 155 [.ref 10, .ref 114] h = some (0, pm_cp h 10 114 0 0 80) := crw (n := 80) rfl rfl (by decide) (fun d h => (pm_ev_b d 155 400 (fun pc => false) _ h).trans rfl) hd h
set_option maxRecDepth 100000 in
theorem r_10_123 {d : Nat} (hd : 2 ≤ d) (h : pm_Hp) : pm_ev d 155 [.ref 10, .ref 123] h = some (0, pm_cp h 10 123 0 0 80) := crw (n := 80) rfl rfl (by decide) (fun d h => (pm_ev_b d 155 400 (fun pc => false) _ h).trans rfl) hd h
set_option maxRecDepth 100000 in
theorem r_10_132 {d : Nat} (hd : 2 ≤ d) (h : pm_Hp) : pm_ev d 155 [.ref 10, .ref 132] h = some (0, pm_cp h 10 132 0 0 80) := crw (n := 80) rfl rfl (by decide) (fun d h => (pm_ev_b d 155 400 (fun pc => false) _ h).trans rfl) hd h
set_option maxRecDepth 100000 in
theorem r_11_49 {d : Nat} (hd : 2 ≤ d) (h : pm_Hp) : pm_ev d 155 [.ref 11, .ref 49] h = some (0, pm_cp h 11 49 0 0 16) := crw (n := 16) rfl rfl (by decide) (fun d h => (pm_ev_b d 155 400 (fun pc => false) _ h).trans rfl) hd h
set_option maxRecDepth 100000 in
theorem r_12_50 {d : Nat} (hd : 2 ≤ d) (h : pm_Hp) : pm_ev d 155 [.ref 12, .ref 50] h = some (0, pm_cp h 12 50 0 0 16) := crw (n := 16) rfl rfl (by decide) (fun d h => (pm_ev_b d 155 400 (fun pc => false) _ h).trans rfl) hd h
set_option maxRecDepth 100000 in
theorem r_13_51 {d : Nat} (hd : 2 ≤ d) (h : pm_Hp) : pm_ev d 155 [.ref 13, .ref 51] h = some (0, pm_cp h 13 51 0 0 80) := crw (n := 80) rfl rfl (by decide) (fun d h => (pm_ev_b d 155 400 (fun pc => false) _ h).trans rfl) hd h
set_option maxRecDepth 100000 in
theorem r_14_52 {d : Nat} (hd : 2 ≤ d) (h : pm_Hp) : pm_ev d 155 [.ref 14, .ref 52] h = some (0, pm_cp h 14 52 0 0 30) := crw (n := 30) rfl rfl (by decide) (fun d h => (pm_ev_b d 155 400 (fun pc => false) _ h).trans rfl) hd h
set_option maxRecDepth 100000 in
theorem r_15_53 {d : Nat} (hd : 2 ≤ d) (h : pm_Hp) : pm_ev d 155 [.ref 15, .ref 53] h = some (0, pm_cp h 15 53 0 0 4) := crw (n := 4) rfl rfl (by decide) (fun d h => (pm_ev_b d 155 400 (fun pc => false) _ h).trans rfl) hd h
set_option maxRecDepth 100000 in
theorem r_16_54 {d : Nat} (hd : 2 ≤ d) (h : pm_Hp) : pm_ev d 155 [.ref 16, .ref 54] h = some (0, pm_cp h 16 54 0 0 480) := crw (n := 480) rfl rfl (by decide) (fun d h => (pm_ev_b d 155 400 (fun pc => false) _ h).trans rfl) hd h
set_option maxRecDepth 100000 in
theorem r_17_55 {d : Nat} (hd : 2 ≤ d) (h : pm_Hp) : pm_ev d 155 [.ref 17, .ref 55] h = some (0, pm_cp h 17 55 0 0 40) := crw (n := 40) rfl rfl (by decide) (fun d h => (pm_ev_b d 155 400 (fun pc => false) _ h).trans rfl) hd h
set_option maxRecDepth 100000 in
theorem r_19_57 {d : Nat} (hd : 2 ≤ d) (h : pm_Hp) : pm_ev d 155 [.ref 19, .ref 57] h = some (0, pm_cp h 19 57 0 0 400) := crw (n := 400) rfl rfl (by decide) (fun d h => (pm_ev_b d 155 400 (fun pc => false) _ h).trans rfl) hd h
set_option maxRecDepth 100000 in
theorem r_20_58 {d : Nat} (hd : 2 ≤ d) (h : pm_Hp) : pm_ev d 155 [.ref 20, .ref 58] h = some (0, pm_cp h 20 58 0 0 16) := crw (n := 16) rfl rfl (by decide) (fun d h => (pm_ev_b d 155 400 (fun pc => false) _ h).trans rfl) hd h
set_option maxRecDepth 100000 in
theorem r_21_59 {d : Nat} (hd : 2 ≤ d) (h : pm_Hp) : pm_ev d 155 [.ref 21, .ref 59] h = some (0, pm_cp h 21 59 0 0 16) := crw (n := 16) rfl rfl (by decide) (fun d h => (pm_ev_b d 155 400 (fun pc => false) _ h).trans rfl) hd h
set_option maxRecDepth 100000 in
theorem r_22_60 {d : Nat} (hd : 2 ≤ d) (h : pm_Hp) : pm_ev d 155 [.ref 22, .ref 60] h = some (0, pm_cp h 22 60 0 0 16) := crw (n := 16) rfl rfl (by decide) (fun d h => (pm_ev_b d 155 400 (fun pc => false) _ h).trans rfl) hd h
set_option maxRecDepth 100000 in
theorem r_23_61 {d : Nat} (hd : 2 ≤ d) (h : pm_Hp) : pm_ev d 155 [.ref 23, .ref 61] h = some (0, pm_cp h 23 61 0 0 16) := crw (n := 16) rfl rfl (by decide) (fun d h => (pm_ev_b d 155 400 (fun pc => false) _ h).trans rfl) hd h
set_option maxRecDepth 100000 in
theorem r_26_64 {d : Nat} (hd : 2 ≤ d) (h : pm_Hp) : pm_ev d 155 [.ref 26, .ref 64] h = some (0, pm_cp h 26 64 0 0 400) := crw (n := 400) rfl rfl (by decide) (fun d h => (pm_ev_b d 155 400 (fun pc => false) _ h).trans rfl) hd h
set_option maxRecDepth 100000 in
theorem r_27_65 {d : Nat} (hd : 2 ≤ d) (h : pm_Hp) : pm_ev d 155 [.ref 27, .ref 65] h = some (0, pm_cp h 27 65 0 0 16) := crw (n := 16) rfl rfl (by decide) (fun d h => (pm_ev_b d 155 400 (fun pc => false) _ h).trans rfl) hd h
set_option maxRecDepth 100000 in
theorem r_28_66 {d : Nat} (hd : 2 ≤ d) (h : pm_Hp) : pm_ev d 155 [.ref 28, .ref 66] h = some (0, pm_cp h 28 66 0 0 16) := crw (n := 16) rfl rfl (by decide) (fun d h => (pm_ev_b d 155 400 (fun pc => false) _ h).trans rfl) hd h
set_option maxRecDepth 100000 in
theorem r_29_67 {d : Nat} (hd : 2 ≤ d) (h : pm_Hp) : pm_ev d 155 [.ref 29, .ref 67] h = some (0, pm_cp h 29 67 0 0 16) := crw (n := 16) rfl rfl (by decide) (fun d h => (pm_ev_b d 155 400 (fun pc => false) _ h).trans rfl) hd h
set_option maxRecDepth 100000 in
theorem r_30_68 {d : Nat} (hd : 2 ≤ d) (h : pm_Hp) : pm_ev d 155 [.ref 30, .ref 68] h = some (0, pm_cp h 30 68 0 0 16) := crw (n := 16) rfl rfl (by decide) (fun d h => (pm_ev_b d 155 400 (fun pc => false) _ h).trans rfl) hd h
set_option maxRecDepth 100000 in
theorem r_33_71 {d : Nat} (hd : 2 ≤ d) (h : pm_Hp) : pm_ev d 155 [.ref 33, .ref 71] h = some (0, pm_cp h 33 71 0 0 6) := crw (n := 6) rfl rfl (by decide) (fun d h => (pm_ev_b d 155 400 (fun pc => false) _ h).trans rfl) hd h
set_option maxRecDepth 100000 in
theorem r_34_72 {d : Nat} (hd : 2 ≤ d) (h : pm_Hp) : pm_ev d 155 [.ref 34, .ref 72] h = some (0, pm_cp h 34 72 0 0 6) := crw (n := 6) rfl rfl (by decide) (fun d h => (pm_ev_b d 155 400 (fun pc => false) _ h).trans rfl) hd h
set_option maxRecDepth 100000 in
theorem r_35_73 {d : Nat} (hd : 2 ≤ d) (h : pm_Hp) : pm_ev d 155 [.ref 35, .ref 73] h = some (0, pm_cp h 35 73 0 0 6) := crw (n := 6) rfl rfl (by decide) (fun d h => (pm_ev_b d 155 400 (fun pc => false) _ h).trans rfl) hd h
set_option maxRecDepth 100000 in
theorem r_36_74 {d : Nat} (hd : 2 ≤ d) (h : pm_Hp) : pm_ev d 155 [.ref 36, .ref 74] h = some (0, pm_cp h 36 74 0 0 6) := crw (n := 6) rfl rfl (by decide) (fun d h => (pm_ev_b d 155 400 (fun pc => false) _ h).trans rfl) hd h
set_option maxRecDepth 100000 in
theorem r_41_3 {d : Nat} (hd : 2 ≤ d) (h : pm_Hp) : pm_ev d 155 [.ref 41, .ref 3] h = some (0, pm_cp h 41 3 0 0 16) := crw (n := 16) rfl rfl (by decide) (fun d h => (pm_ev_b d 155 400 (fun pc => false) _ h).trans rfl) hd h
set_option maxRecDepth 100000 in
theorem r_42_4 {d : Nat} (hd : 2 ≤ d) (h : pm_Hp) : pm_ev d 155 [.ref 42, .ref 4] h = some (0, pm_cp h 42 4 0 0 16) := crw (n := 16) rfl rfl (by decide) (fun d h => (pm_ev_b d 155 400 (fun pc => false) _ h).trans rfl) hd h
set_option maxRecDepth 100000 in
theorem r_43_5 {d : Nat} (hd : 2 ≤ d) (h : pm_Hp) : pm_ev d 155 [.ref 43, .ref 5] h = some (0, pm_cp h 43 5 0 0 16) := crw (n := 16) rfl rfl (by decide) (fun d h => (pm_ev_b d 155 400 (fun pc => false) _ h).trans rfl) hd h
set_option maxRecDepth 100000 in
theorem r_44_6 {d : Nat} (hd : 2 ≤ d) (h : pm_Hp) : pm_ev d 155 [.ref 44, .ref 6] h = some (0, pm_cp h 44 6 0 0 16) := crw (n := 16) rfl rfl (by decide) (fun d h => (pm_ev_b d 155 400 (fun pc => false) _ h).trans rfl) hd h
set_option maxRecDepth 100000 in
theorem r_45_7 {d : Nat} (hd : 2 ≤ d) (h : pm_Hp) : pm_ev d 155 [.ref 45, .ref 7] h = some (0, pm_cp h 45 7 0 0 16) := crw (n := 16) rfl rfl (by decide) (fun d h => (pm_ev_b d 155 400 (fun pc => false) _ h).trans rfl) hd h
set_option maxRecDepth 100000 in
theorem r_46_8 {d : Nat} (hd : 2 ≤ d) (h : pm_Hp) : pm_ev d 155 [.ref 46, .ref 8] h = some (0, pm_cp h 46 8 0 0 16) := crw (n := 16) rfl rfl (by decide) (fun d h => (pm_ev_b d 155 400 (fun pc => false) _ h).trans rfl) hd h
set_option maxRecDepth 100000 in
theorem r_47_9 {d : Nat} (hd : 2 ≤ d) (h : pm_Hp) : pm_ev d 155 [.ref 47, .ref 9] h = some (0, pm_cp h 47 9 0 0 16) := crw (n := 16) rfl rfl (by decide) (fun d h => (pm_ev_b d 155 400 (fun pc => false) _ h).trans rfl) hd h
set_option maxRecDepth 100000 in
theorem r_48_10 {d : Nat} (hd : 2 ≤ d) (h : pm_Hp) : pm_ev d 155 [.ref 48, .ref 10] h = some (0, pm_cp h 48 10 0 0 80) := crw (n := 80) rfl rfl (by decide) (fun d h => (pm_ev_b d 155 400 (fun pc => false) _ h).trans rfl) hd h
set_option maxRecDepth 100000 in
theorem r_49_11 {d : Nat} (hd : 2 ≤ d) (h : pm_Hp) : pm_ev d 155 [.ref 49, .ref 11] h = some (0, pm_cp h 49 11 0 0 16) := crw (n := 16) rfl rfl (by decide) (fun d h => (pm_ev_b d 155 400 (fun pc => false) _ h).trans rfl) hd h
set_option maxRecDepth 100000 in
theorem r_50_12 {d : Nat} (hd : 2 ≤ d) (h : pm_Hp) : pm_ev d 155 [.ref 50, .ref 12] h = some (0, pm_cp h 50 12 0 0 16) := crw (n := 16) rfl rfl (by decide) (fun d h => (pm_ev_b d 155 400 (fun pc => false) _ h).trans rfl) hd h
set_option maxRecDepth 100000 in
theorem r_51_13 {d : Nat} (hd : 2 ≤ d) (h : pm_Hp) : pm_ev d 155 [.ref 51, .ref 13] h = some (0, pm_cp h 51 13 0 0 80) := crw (n := 80) rfl rfl (by decide) (fun d h => (pm_ev_b d 155 400 (fun pc => false) _ h).trans rfl) hd h
set_option maxRecDepth 100000 in
theorem r_52_14 {d : Nat} (hd : 2 ≤ d) (h : pm_Hp) : pm_ev d 155 [.ref 52, .ref 14] h = some (0, pm_cp h 52 14 0 0 30) := crw (n := 30) rfl rfl (by decide) (fun d h => (pm_ev_b d 155 400 (fun pc => false) _ h).trans rfl) hd h
set_option maxRecDepth 100000 in
theorem r_53_15 {d : Nat} (hd : 2 ≤ d) (h : pm_Hp) : pm_ev d 155 [.ref 53, .ref 15] h = some (0, pm_cp h 53 15 0 0 4) := crw (n := 4) rfl rfl (by decide) (fun d h => (pm_ev_b d 155 400 (fun pc => false) _ h).trans rfl) hd h
set_option maxRecDepth 100000 in
theorem r_54_16 {d : Nat} (hd : 2 ≤ d) (h : pm_Hp) : pm_ev d 155 [.ref 54, .ref 16] h = some (0, pm_cp h 54 16 0 0 480) := crw (n := 480) rfl rfl (by decide) (fun d h => (pm_ev_b d 155 400 (fun pc => false) _ h).trans rfl) hd h
set_option maxRecDepth 100000 in
theorem r_55_17 {d : Nat} (hd : 2 ≤ d) (h : pm_Hp) : pm_ev d 155 [.ref 55, .ref 17] h = some (0, pm_cp h 55 17 0 0 40) := crw (n := 40) rfl rfl (by decide) (fun d h => (pm_ev_b d 155 400 (fun pc => false) _ h).trans rfl) hd h
set_option maxRecDepth 100000 in
theorem r_57_19 {d : Nat} (hd : 2 ≤ d) (h : pm_Hp) : pm_ev d 155 [.ref 57, .ref 19] h = some (0, pm_cp h 57 19 0 0 400) := crw (n := 400) rfl rfl (by decide) (fun d h => (pm_ev_b d 155 400 (fun pc => false) _ h).trans rfl) hd h
set_option maxRecDepth 100000 in
theorem r_58_20 {d : Nat} (hd : 2 ≤ d) (h : pm_Hp) : pm_ev d 155 [.ref 58, .ref 20] h = some (0, pm_cp h 58 20 0 0 16) := crw (n := 16) rfl rfl (by decide) (fun d h => (pm_ev_b d 155 400 (fun pc => false) _ h).trans rfl) hd h
set_option maxRecDepth 100000 in
theorem r_59_21 {d : Nat} (hd : 2 ≤ d) (h : pm_Hp) : pm_ev d 155 [.ref 59, .ref 21] h = some (0, pm_cp h 59 21 0 0 16) := crw (n := 16) rfl rfl (by decide) (fun d h => (pm_ev_b d 155 400 (fun pc => false) _ h).trans rfl) hd h
set_option maxRecDepth 100000 in
theorem r_60_22 {d : Nat} (hd : 2 ≤ d) (h : pm_Hp) : pm_ev d 155 [.ref 60, .ref 22] h = some (0, pm_cp h 60 22 0 0 16) := crw (n := 16) rfl rfl (by decide) (fun d h => (pm_ev_b d 155 400 (fun pc => false) _ h).trans rfl) hd h
set_option maxRecDepth 100000 in
theorem r_61_23 {d : Nat} (hd : 2 ≤ d) (h : pm_Hp) : pm_ev d 155 [.ref 61, .ref 23] h = some (0, pm_cp h 61 23 0 0 16) := crw (n := 16) rfl rfl (by decide) (fun d h => (pm_ev_b d 155 400 (fun pc => false) _ h).trans rfl) hd h
set_option maxRecDepth 100000 in
theorem r_64_26 {d : Nat} (hd : 2 ≤ d) (h : pm_Hp) : pm_ev d 155 [.ref 64, .ref 26] h = some (0, pm_cp h 64 26 0 0 400) := crw (n := 400) rfl rfl (by decide) (fun d h => (pm_ev_b d 155 400 (fun pc => false) _ h).trans rfl) hd h
set_option maxRecDepth 100000 in
theorem r_65_27 {d : Nat} (hd : 2 ≤ d) (h : pm_Hp) : pm_ev d 155 [.ref 65, .ref 27] h = some (0, pm_cp h 65 27 0 0 16) := crw (n := 16) rfl rfl (by decide) (fun d h => (pm_ev_b d 155 400 (fun pc => false) _ h).trans rfl) hd h
set_option maxRecDepth 100000 in
theorem r_66_28 {d : Nat} (hd : 2 ≤ d) (h : pm_Hp) : pm_ev d 155 [.ref 66, .ref 28] h = some (0, pm_cp h 66 28 0 0 16) := crw (n := 16) rfl rfl (by decide) (fun d h => (pm_ev_b d 155 400 (fun pc => false) _ h).trans rfl) hd h
set_option maxRecDepth 100000 in
theorem r_67_29 {d : Nat} (hd : 2 ≤ d) (h : pm_Hp) : pm_ev d 155 [.ref 67, .ref 29] h = some (0, pm_cp h 67 29 0 0 16) := crw (n := 16) rfl rfl (by decide) (fun d h => (pm_ev_b d 155 400 (fun pc => false) _ h).trans rfl) hd h
set_option maxRecDepth 100000 in
theorem r_68_30 {d : Nat} (hd : 2 ≤ d) (h : pm_Hp) : pm_ev d 155 [.ref 68, .ref 30] h = some (0, pm_cp h 68 30 0 0 16) := crw (n := 16) rfl rfl (by decide) (fun d h => (pm_ev_b d 155 400 (fun pc => false) _ h).trans rfl) hd h
set_option maxRecDepth 100000 in
theorem r_71_33 {d : Nat} (hd : 2 ≤ d) (h : pm_Hp) : pm_ev d 155 [.ref 71, .ref 33] h = some (0, pm_cp h 71 33 0 0 6) := crw (n := 6) rfl rfl (by decide) (fun d h => (pm_ev_b d 155 400 (fun pc => false) _ h).trans rfl) hd h
set_option maxRecDepth 100000 in
theorem r_72_34 {d : Nat} (hd : 2 ≤ d) (h : pm_Hp) : pm_ev d 155 [.ref 72, .ref 34] h = some (0, pm_cp h 72 34 0 0 6) := crw (n := 6) rfl rfl (by decide) (fun d h => (pm_ev_b d 155 400 (fun pc => false) _ h).trans rfl) hd h
set_option maxRecDepth 100000 in
theorem r_73_35 {d : Nat} (hd : 2 ≤ d) (h : pm_Hp) : pm_ev d 155 [.ref 73, .ref 35] h = some (0, pm_cp h 73 35 0 0 6) := crw (n := 6) rfl rfl (by decide) (fun d h => (pm_ev_b d 155 400 (fun pc => false) _ h).trans rfl) hd h
set_option maxRecDepth 100000 in
theorem r_74_36 {d : Nat} (hd : 2 ≤ d) (h : pm_Hp) : pm_ev d 155 [.ref 74, .ref 36] h = some (0, pm_cp h 74 36 0 0 6) := crw (n := 6) rfl rfl (by decide) (fun d h => (pm_ev_b d 155 400 (fun pc => false) _ h).trans rfl) hd h
set_option maxRecDepth 100000 in
theorem r_80_3 {d : Nat} (hd : 2 ≤ d) (h : pm_Hp) : pm_ev d 155 [.ref 80, .ref 3] h = some (0, pm_cp h 80 3 0 0 16) := crw (n := 16) rfl rfl (by decide) (fun d h => (pm_ev_b d 155 400 (fun pc => false) _ h).trans rfl) hd h
set_option maxRecDepth 100000 in
theorem r_81_4 {d : Nat} (hd : 2 ≤ d) (h : pm_Hp) : pm_ev d 155 [.ref 81, .ref 4] h = some (0, pm_cp h 81 4 0 0 16) := crw (n := 16) rfl rfl (by decide) (fun d h => (pm_ev_b d 155 400 (fun pc => false) _ h).trans rfl) hd h
set_option maxRecDepth 100000 in
theorem r_82_5 {d : Nat} (hd : 2 ≤ d) (h : pm_Hp) : pm_ev d 155 [.ref 82, .ref 5] h = some (0, pm_cp h 82 5 0 0 16) := crw (n := 16) rfl rfl (by decide) (fun d h => (pm_ev_b d 155 400 (fun pc => false) _ h).trans rfl) hd h
set_option maxRecDepth 100000 in
theorem r_83_6 {d : Nat} (hd : 2 ≤ d) (h : pm_Hp) : pm_ev d 155 [.ref 83, .ref 6] h = some (0, pm_cp h 83 6 0 0 16) := crw (n := 16) rfl rfl (by decide) (fun d h => (pm_ev_b d 155 400 (fun pc => false) _ h).trans rfl) hd h
set_option maxRecDepth 100000 in
theorem r_84_7 {d : Nat} (hd : 2 ≤ d) (h : pm_Hp) : pm_ev d 155 [.ref 84, .ref 7] h = some (0, pm_cp h 84 7 0 0 16) := crw (n := 16) rfl rfl (by decide) (fun d h => (pm_ev_b d 155 400 (fun pc => false) _ h).trans rfl) hd h
set_option maxRecDepth 100000 in
theorem r_85_8 {d : Nat} (hd : 2 ≤ d) (h : pm_Hp) : pm_ev d 155 [.ref 85, .ref 8] h = some (0, pm_cp h 85 8 0 0 16) := crw (n := 16) rfl rfl (by decide) (fun d h => (pm_ev_b d 155 400 (fun pc => false) _ h).trans rfl) hd h
set_option maxRecDepth 100000 in
theorem r_86_9 {d : Nat} (hd : 2 ≤ d) (h : pm_Hp) : pm_ev d 155 [.ref 86, .ref 9] h = some (0, pm_cp h 86 9 0 0 16) := crw (n := 16) rfl rfl (by decide) (fun d h => (pm_ev_b d 155 400 (fun pc => false) _ h).trans rfl) hd h
set_option maxRecDepth 100000 in
theorem r_87_10 {d : Nat} (hd : 2 ≤ d) (h : pm_Hp) : pm_ev d 155 [.ref 87, .ref 10] h = some (0, pm_cp h 87 10 0 0 80) := crw (n := 80) rfl rfl (by decide) (fun d h => (pm_ev_b d 155 400 (fun pc => false) _ h).trans rfl) hd h
set_option maxRecDepth 100000 in
theorem r_89_3 {d : Nat} (hd : 2 ≤ d) (h : pm_Hp) : pm_ev d 155 [.ref 89, .ref 3] h = some (0, pm_cp h 89 3 0 0 16) := crw (n := 16) rfl rfl (by decide) (fun d h => (pm_ev_b d 155 400 (fun pc => false) _ h).trans rfl) hd h
set_option maxRecDepth 100000 in
theorem r_90_4 {d : Nat} (hd : 2 ≤ d) (h : pm_Hp) : pm_ev d 155 [.ref 90, .ref 4] h = some (0, pm_cp h 90 4 0 0 16) := crw (n := 16) rfl rfl (by decide) (fun d h => (pm_ev_b d 155 400 (fun pc => false) _ h).trans rfl) hd h
set_option maxRecDepth 100000 in
theorem r_91_5 {d : Nat} (hd : 2 ≤ d) (h : pm_Hp) : pm_ev d 155 [.ref 91, .ref 5] h = some (0, pm_cp h 91 5 0 0 16) := crw (n := 16) rfl rfl (by decide) (fun d h => (pm_ev_b d 155 400 (fun pc => false) _ h).trans rfl) hd h
set_option maxRecDepth 100000 in
theorem r_92_6 {d : Nat} (hd : 2 ≤ d) (h : pm_Hp) : pm_ev d 155 [.ref 92, .ref 6] h = some (0, pm_cp h 92 6 0 0 16) := crw (n := 16) rfl rfl (by decide) (fun d h => (pm_ev_b d 155 400 (fun pc => false) _ h).trans rfl) hd h
set_option maxRecDepth 100000 in
theorem r_93_7 {d : Nat} (hd : 2 ≤ d) (h : pm_Hp) : pm_ev d 155 [.ref 93, .ref 7] h = some (0, pm_cp h 93 7 0 0 16) := crw (n := 16) rfl rfl (by decide) (fun d h => (pm_ev_b d 155 400 (fun pc => false) _ h).trans rfl) hd h
set_option maxRecDepth 100000 in
theorem r_94_8 {d : Nat} (hd : 2 ≤ d) (h : pm_Hp) : pm_ev d 155 [.ref 94, .ref 8] h = some (0, pm_cp h 94 8 0 0 16) := crw (n := 16) rfl rfl (by decide) (fun d h => (pm_ev_b d 155 400 (fun pc => false) _ h).trans rfl) hd h
set_option maxRecDepth 100000 in
theorem r_95_9 {d : Nat} (hd : 2 ≤ d) (h : pm_Hp) : pm_ev d 155 [.ref 95, .ref 9] h = some (0, pm_cp h 95 9 0 0 16) := crw (n := 16) rfl rfl (by decide) (fun d h => (pm_ev_b d 155 400 (fun pc => false) _ h).trans rfl) hd h
set_option maxRecDepth 100000 in
theorem r_96_10 {d : Nat} (hd : 2 ≤ d) (h : pm_Hp) : pm_ev d 155 [.ref 96, .ref 10] h = some (0, pm_cp h 96 10 0 0 80) := crw (n := 80) rfl rfl (by decide) (fun d h => (pm_ev_b d 155 400 (fun pc => false) _ h).trans rfl) hd h
set_option maxRecDepth 100000 in
theorem r_98_3 {d : Nat} (hd : 2 ≤ d) (h : pm_Hp) : pm_ev d 155 [.ref 98, .ref 3] h = some (0, pm_cp h 98 3 0 0 16) := crw (n := 16) rfl rfl (by decide) (fun d h => (pm_ev_b d 155 400 (fun pc => false) _ h).trans rfl) hd h
set_option maxRecDepth 100000 in
theorem r_99_4 {d : Nat} (hd : 2 ≤ d) (h : pm_Hp) : pm_ev d 155 [.ref 99, .ref 4] h = some (0, pm_cp h 99 4 0 0 16) := crw (n := 16) rfl rfl (by decide) (fun d h => (pm_ev_b d 155 400 (fun pc => false) _ h).trans rfl) hd h
set_option maxRecDepth 100000 in
theorem r_100_5 {d : Nat} (hd : 2 ≤ d) (h : pm_Hp) : pm_ev d 155 [.ref 100, .ref 5] h = some (0, pm_cp h 100 5 0 0 16) := crw (n := 16) rfl rfl (by decide) (fun d h => (pm_ev_b d 155 400 (fun pc => false) _ h).trans rfl) hd h
set_option maxRecDepth 100000 in
theorem r_101_6 {d : Nat} (hd : 2 ≤ d) (h : pm_Hp) : pm_ev d 155 [.ref 101, .ref 6] h = some (0, pm_cp h 101 6 0 0 16) := crw (n := 16) rfl rfl (by decide) (fun d h => (pm_ev_b d 155 400 (fun pc => false) _ h).trans rfl) hd h
set_option maxRecDepth 100000 in
theorem r_102_7 {d : Nat} (hd : 2 ≤ d) (h : pm_Hp) : pm_ev d 155 [.ref 102, .ref 7] h = some (0, pm_cp h 102 7 0 0 16) := crw (n := 16) rfl rfl (by decide) (fun d h => (pm_ev_b d 155 400 (fun pc => false) _ h).trans rfl) hd h
set_option maxRecDepth 100000 in
theorem r_103_8 {d : Nat} (hd : 2 ≤ d) (h : pm_Hp) : pm_ev d 155 [.ref 103, .ref 8] h = some (0, pm_cp h 103 8 0 0 16) := crw (n := 16) rfl rfl (by decide) (fun d h => (pm_ev_b d 155 400 (fun pc => false) _ h).trans rfl) hd h
set_option maxRecDepth 100000 in
theorem r_104_9 {d : Nat} (hd : 2 ≤ d) (h : pm_Hp) : pm_ev d 155 [.ref 104, .ref 9] h = some (0, pm_cp h 104 9 0 0 16) := crw (n := 16) rfl rfl (by decide) (fun d h => (pm_ev_b d 155 400 (fun pc => false) _ h).trans rfl) hd h
set_option maxRecDepth 100000 in
theorem r_105_10 {d : Nat} (hd : 2 ≤ d) (h : pm_Hp) : pm_ev d 155 [.ref 105, .ref 10] h = some (0, pm_cp h 105 10 0 0 80) := crw (n := 80) rfl rfl (by decide) (fun d h => (pm_ev_b d 155 400 (fun pc => false) _ h).trans rfl) hd h
set_option maxRecDepth 100000 in
theorem r_107_3 {d : Nat} (hd : 2 ≤ d) (h : pm_Hp) : pm_ev d 155 [.ref 107, .ref 3] h = some (0, pm_cp h 107 3 0 0 16) := crw (n := 16) rfl rfl (by decide) (fun d h => (pm_ev_b d 155 400 (fun pc => false) _ h).trans rfl) hd h
set_option maxRecDepth 100000 in
theorem r_108_4 {d : Nat} (hd : 2 ≤ d) (h : pm_Hp) : pm_ev d 155 [.ref 108, .ref 4] h = some (0, pm_cp h 108 4 0 0 16) := crw (n := 16) rfl rfl (by decide) (fun d h => (pm_ev_b d 155 400 (fun pc => false) _ h).trans rfl) hd h
set_option maxRecDepth 100000 in
theorem r_109_5 {d : Nat} (hd : 2 ≤ d) (h : pm_Hp) : pm_ev d 155 [.ref 109, .ref 5] h = some (0, pm_cp h 109 5 0 0 16) := crw (n := 16) rfl rfl (by decide) (fun d h => (pm_ev_b d 155 400 (fun pc => false) _ h).trans rfl) hd h
set_option maxRecDepth 100000 in
theorem r_110_6 {d : Nat} (hd : 2 ≤ d) (h : pm_Hp) : pm_ev d 155 [.ref 110, .ref 6] h = some (0, pm_cp h 110 6 0 0 16) := crw (n := 16) rfl rfl (by decide) (fun d h => (pm_ev_b d 155 400 (fun pc => false) _ h).trans rfl) hd h
set_option maxRecDepth 100000 in
theorem r_111_7 {d : Nat} (hd : 2 ≤ d) (h : pm_Hp) : pm_ev d 155 [.ref 111, .ref 7] h = some (0, pm_cp h 111 7 0 0 16) := crw (n := 16) rfl rfl (by decide) (fun d h => (pm_ev_b d 155 400 (fun pc => false) _ h).trans rfl) hd h
set_option maxRecDepth 100000 in
theorem r_112_8 {d : Nat} (hd : 2 ≤ d) (h : pm_Hp) : pm_ev d 155 [.ref 112, .ref 8] h = some (0, pm_cp h 112 8 0 0 16) := crw (n := 16) rfl rfl (by decide) (fun d h => (pm_ev_b d 155 400 (fun pc => false) _ h).trans rfl) hd h
set_option maxRecDepth 100000 in
theorem r_113_9 {d : Nat} (hd : 2 ≤ d) (h : pm_Hp) : pm_ev d 155 [.ref 113, .ref 9] h = some (0, pm_cp h 113 9 0 0 16) := crw (n := 16) rfl rfl (by decide) (fun d h => (pm_ev_b d 155 400 (fun pc => false) _ h).trans rfl) hd h
set_option maxRecDepth 100000 in
theorem r_114_10 {d : Nat} (hd : 2 ≤ d) (h : pm_Hp) : pm_ev d 155 [.ref 114, .ref 10] h = some (0, pm_cp h 114 10 0 0 80) := crw (n := 80) rfl rfl (by decide) (fun d h => (pm_ev_b d 155 400 (fun pc => false) _ h).trans rfl) hd h
set_option maxRecDepth 100000 in
theorem r_116_3 {d : Nat} (hd : 2 ≤ d) (h : pm_Hp) : pm_ev d 155 [.ref 116, .ref 3] h = some (0, pm_cp h 116 3 0 0 16) := crw (n := 16) rfl rfl (by decide) (fun d h => (pm_ev_b d 155 400 (fun pc => false) _ h).trans rfl) hd h
set_option maxRecDepth 100000 in
theorem r_117_4 {d : Nat} (hd : 2 ≤ d) (h : pm_Hp) : pm_ev d 155 [.ref 117, .ref 4] h = some (0, pm_cp h 117 4 0 0 16) := crw (n := 16) rfl rfl (by decide) (fun d h => (pm_ev_b d 155 400 (fun pc => false) _ h).trans rfl) hd h
set_option maxRecDepth 100000 in
theorem r_118_5 {d : Nat} (hd : 2 ≤ d) (h : pm_Hp) : pm_ev d 155 [.ref 118, .ref 5] h = some (0, pm_cp h 118 5 0 0 16) := crw (n := 16) rfl rfl (by decide) (fun d h => (pm_ev_b d 155 400 (fun pc => false) _ h).trans rfl) hd h
set_option maxRecDepth 100000 in
theorem r_119_6 {d : Nat} (hd : 2 ≤ d) (h : pm_Hp) : pm_ev d 155 [.ref 119, .ref 6] h = some (0, pm_cp h 119 6 0 0 16) := crw (n := 16) rfl rfl (by decide) (fun d h => (pm_ev_b d 155 400 (fun pc => false) _ h).trans rfl) hd h
set_option maxRecDepth 100000 in
theorem r_120_7 {d : Nat} (hd : 2 ≤ d) (h : pm_Hp) : pm_ev d 155 [.ref 120, .ref 7] h = some (0, pm_cp h 120 7 0 0 16) := crw (n := 16) rfl rfl (by decide) (fun d h => (pm_ev_b d 155 400 (fun pc => false) _ h).trans rfl) hd h
set_option maxRecDepth 100000 in
theorem r_121_8 {d : Nat} (hd : 2 ≤ d) (h : pm_Hp) : pm_ev d 155 [.ref 121, .ref 8] h = some (0, pm_cp h 121 8 0 0 16) := crw (n := 16) rfl rfl (by decide) (fun d h => (pm_ev_b d 155 400 (fun pc => false) _ h).trans rfl) hd h
set_option maxRecDepth 100000 in
theorem r_122_9 {d : Nat} (hd : 2 ≤ d) (h : pm_Hp) : pm_ev d 155 [.ref 122, .ref 9] h = some (0, pm_cp h 122 9 0 0 16) := crw (n := 16) rfl rfl (by decide) (fun d h => (pm_ev_b d 155 400 (fun pc => false) _ h).trans rfl) hd h
set_option maxRecDepth 100000 in
theorem r_123_10 {d : Nat} (hd : 2 ≤ d) (h : pm_Hp) : pm_ev d 155 [.ref 123, .ref 10] h = some (0, pm_cp h 123 10 0 0 80) := crw (n := 80) rfl rfl (by decide) (fun d h => (pm_ev_b d 155 400 (fun pc => false) _ h).trans rfl) hd h
set_option maxRecDepth 100000 in
theorem r_125_3 {d : Nat} (hd : 2 ≤ d) (h : pm_Hp) : pm_ev d 155 [.ref 125, .ref 3] h = some (0, pm_cp h 125 3 0 0 16) := crw (n := 16) rfl rfl (by decide) (fun d h => (pm_ev_b d 155 400 (fun pc => false) _ h).trans rfl) hd h
set_option maxRecDepth 100000 in
theorem r_126_4 {d : Nat} (hd : 2 ≤ d) (h : pm_Hp) : pm_ev d 155 [.ref 126, .ref 4] h = some (0, pm_cp h 126 4 0 0 16) := crw (n := 16) rfl rfl (by decide) (fun d h => (pm_ev_b d 155 400 (fun pc => false) _ h).trans rfl) hd h
set_option maxRecDepth 100000 in
theorem r_127_5 {d : Nat} (hd : 2 ≤ d) (h : pm_Hp) : pm_ev d 155 [.ref 127, .ref 5] h = some (0, pm_cp h 127 5 0 0 16) := crw (n := 16) rfl rfl (by decide) (fun d h => (pm_ev_b d 155 400 (fun pc => false) _ h).trans rfl) hd h
set_option maxRecDepth 100000 in
theorem r_128_6 {d : Nat} (hd : 2 ≤ d) (h : pm_Hp) : pm_ev d 155 [.ref 128, .ref 6] h = some (0, pm_cp h 128 6 0 0 16) := crw (n := 16) rfl rfl (by decide) (fun d h => (pm_ev_b d 155 400 (fun pc => false) _ h).trans rfl) hd h
set_option maxRecDepth 100000 in
theorem r_129_7 {d : Nat} (hd : 2 ≤ d) (h : pm_Hp) : pm_ev d 155 [.ref 129, .ref 7] h = some (0, pm_cp h 129 7 0 0 16) := crw (n := 16) rfl rfl (by decide) (fun d h => (pm_ev_b d 155 400 (fun pc => false) _ h).trans rfl) hd h
set_option maxRecDepth 100000 in
theorem r_130_8 {d : Nat} (hd : 2 ≤ d) (h : pm_Hp) : pm_ev d 155 [.ref 130, .ref 8] h = some (0, pm_cp h 130 8 0 0 16) := crw (n := 16) rfl rfl (by decide) (fun d h => (pm_ev_b d 155 400 (fun pc => false) _ h).trans rfl) hd h
set_option maxRecDepth 100000 in
theorem r_131_9 {d : Nat} (hd : 2 ≤ d) (h : pm_Hp) : pm_ev d 155 [.ref 131, .ref 9] h = some (0, pm_cp h 131 9 0 0 16) := crw (n := 16) rfl rfl (by decide) (fun d h => (pm_ev_b d 155 400 (fun pc => false) _ h).trans rfl) hd h
set_option maxRecDepth 100000 in
theorem r_132_10 {d : Nat} (hd : 2 ≤ d) (h : pm_Hp) : pm_ev d 155 [.ref 132, .ref 10] h = some (0, pm_cp h 132 10 0 0 80) := crw (n := 80) rfl rfl (by decide) (fun d h => (pm_ev_b d 155 400 (fun pc => false) _ h).trans rfl) hd h
set_option maxRecDepth 100000 in
theorem r_136_19 {d : Nat} (hd : 2 ≤ d) (h : pm_Hp) : pm_ev d 155 [.ref 136, .ref 19] h = some (0, pm_cp h 136 19 0 0 400) := crw (n := 400) rfl rfl (by decide) (fun d h => (pm_ev_b d 155 400 (fun pc => false) _ h).trans rfl) hd h
set_option maxRecDepth 100000 in
theorem r_136_26 {d : Nat} (hd : 2 ≤ d) (h : pm_Hp) : pm_ev d 155 [.ref 136, .ref 26] h = some (0, pm_cp h 136 26 0 0 400) := crw (n := 400) rfl rfl (by decide) (fun d h => (pm_ev_b d 155 400 (fun pc => false) _ h).trans rfl) hd h
set_option maxRecDepth 100000 in
theorem r_137_20 {d : Nat} (hd : 2 ≤ d) (h : pm_Hp) : pm_ev d 155 [.ref 137, .ref 20] h = some (0, pm_cp h 137 20 0 0 16) := crw (n := 16) rfl rfl (by decide) (fun d h => (pm_ev_b d 155 400 (fun pc => false) _ h).trans rfl) hd h
set_option maxRecDepth 100000 in
theorem r_137_27 {d : Nat} (hd : 2 ≤ d) (h : pm_Hp) : pm_ev d 155 [.ref 137, .ref 27] h = some (0, pm_cp h 137 27 0 0 16) := crw (n := 16) rfl rfl (by decide) (fun d h => (pm_ev_b d 155 400 (fun pc => false) _ h).trans rfl) hd h
set_option maxRecDepth 100000 in
theorem r_138_21 {d : Nat} (hd : 2 ≤ d) (h : pm_Hp) : pm_ev d 155 [.ref 138, .ref 21] h = some (0, pm_cp h 138 21 0 0 16) := crw (n := 16) rfl rfl (by decide) (fun d h => (pm_ev_b d 155 400 (fun pc => false) _ h).trans rfl) hd h
set_option maxRecDepth 100000 in
theorem r_138_28 {d : Nat} (hd : 2 ≤ d) (h : pm_Hp) : pm_ev d 155 [.ref 138, .ref 28] h = some (0, pm_cp h 138 28 0 0 16) := crw (n := 16) rfl rfl (by decide) (fun d h => (pm_ev_b d 155 400 (fun pc => false) _ h).trans rfl) hd h
set_option maxRecDepth 100000 in
theorem r_139_22 {d : Nat} (hd : 2 ≤ d) (h : pm_Hp) : pm_ev d 155 [.ref 139, .ref 22] h = some (0, pm_cp h 139 22 0 0 16) := crw (n := 16) rfl rfl (by decide) (fun d h => (pm_ev_b d 155 400 (fun pc => false) _ h).trans rfl) hd h
set_option maxRecDepth 100000 in
theorem r_139_29 {d : Nat} (hd : 2 ≤ d) (h : pm_Hp) : pm_ev d 155 [.ref 139, .ref 29] h = some (0, pm_cp h 139 29 0 0 16) := crw (n := 16) rfl rfl (by decide) (fun d h => (pm_ev_b d 155 400 (fun pc => false) _ h).trans rfl) hd h
set_option maxRecDepth 100000 in
theorem r_140_23 {d : Nat} (hd : 2 ≤ d) (h : pm_Hp) : pm_ev d 155 [.ref 140, .ref 23] h = some (0, pm_cp h 140 23 0 0 16) := crw (n := 16) rfl rfl (by decide) (fun d h => (pm_ev_b d 155 400 (fun pc => false) _ h).trans rfl) hd h
set_option maxRecDepth 100000 in
theorem r_140_30 {d : Nat} (hd : 2 ≤ d) (h : pm_Hp) : pm_ev d 155 [.ref 140, .ref 30] h = some (0, pm_cp h 140 30 0 0 16) := crw (n := 16) rfl rfl (by decide) (fun d h => (pm_ev_b d 155 400 (fun pc => false) _ h).trans rfl) hd h
set_option maxRecDepth 100000 in
theorem r_143_33 {d : Nat} (hd : 2 ≤ d) (h : pm_Hp) : pm_ev d 155 [.ref 143, .ref 33] h = some (0, pm_cp h 143 33 0 0 6) := crw (n := 6) rfl rfl (by decide) (fun d h => (pm_ev_b d 155 400 (fun pc => false) _ h).trans rfl) hd h
set_option maxRecDepth 100000 in
theorem r_144_34 {d : Nat} (hd : 2 ≤ d) (h : pm_Hp) : pm_ev d 155 [.ref 144, .ref 34] h = some (0, pm_cp h 144 34 0 0 6) := crw (n := 6) rfl rfl (by decide) (fun d h => (pm_ev_b d 155 400 (fun pc => false) _ h).trans rfl) hd h
set_option maxRecDepth 100000 in
theorem r_145_35 {d : Nat} (hd : 2 ≤ d) (h : pm_Hp) : pm_ev d 155 [.ref 145, .ref 35] h = some (0, pm_cp h 145 35 0 0 6) := crw (n := 6) rfl rfl (by decide) (fun d h => (pm_ev_b d 155 400 (fun pc => false) _ h).trans rfl) hd h
set_option maxRecDepth 100000 in
theorem r_146_36 {d : Nat} (hd : 2 ≤ d) (h : pm_Hp) : pm_ev d 155 [.ref 146, .ref 36] h = some (0, pm_cp h 146 36 0 0 6) := crw (n := 6) rfl rfl (by decide) (fun d h => (pm_ev_b d 155 400 (fun pc => false) _ h).trans rfl) hd h
set_option maxRecDepth 100000 in
theorem r_151_163 {d : Nat} (hd : 2 ≤ d) (h : pm_Hp) : pm_ev d 155 [.ref 151, .ref 163] h = some (0, pm_cp h 151 163 0 0 6) := crw (n := 6) rfl rfl (by decide) (fun d h => (pm_ev_b d 155 400 (fun pc => false) _ h).trans rfl) hd h
set_option maxRecDepth 100000 in
theorem r_152_156 {d : Nat} (hd : 2 ≤ d) (h : pm_Hp) : pm_ev d 155 [.ref 152, .ref 156] h = some (0, pm_cp h 152 156 0 0 6) := crw (n := 6) rfl rfl (by decide) (fun d h => (pm_ev_b d 155 400 (fun pc => false) _ h).trans rfl) hd h
set_option maxRecDepth 100000 in
theorem r_152_157 {d : Nat} (hd : 2 ≤ d) (h : pm_Hp) : pm_ev d 155 [.ref 152, .ref 157] h = some (0, pm_cp h 152 157 0 0 6) := crw (n := 6) rfl rfl (by decide) (fun d h => (pm_ev_b d 155 400 (fun pc => false) _ h).trans rfl) hd h
set_option maxRecDepth 100000 in
theorem r_152_158 {d : Nat} (hd : 2 ≤ d) (h : pm_Hp) : pm_ev d 155 [.ref 152, .ref 158] h = some (0, pm_cp h 152 158 0 0 6) := crw (n := 6) rfl rfl (by decide) (fun d h => (pm_ev_b d 155 400 (fun pc => false) _ h).trans rfl) hd h
set_option maxRecDepth 100000 in
theorem r_152_159 {d : Nat} (hd : 2 ≤ d) (h : pm_Hp) : pm_ev d 155 [.ref 152, .ref 159] h = some (0, pm_cp h 152 159 0 0 6) := crw (n := 6) rfl rfl (by decide) (fun d h => (pm_ev_b d 155 400 (fun pc => false) _ h).trans rfl) hd h
set_option maxRecDepth 100000 in
theorem r_152_160 {d : Nat} (hd : 2 ≤ d) (h : pm_Hp) : pm_ev d 155 [.ref 152, .ref 160] h = some (0, pm_cp h 152 160 0 0 6) := crw (n := 6) rfl rfl (by decide) (fun d h => (pm_ev_b d 155 400 (fun pc => false) _ h).trans rfl) hd h
set_option maxRecDepth 100000 in
theorem r_152_161 {d : Nat} (hd : 2 ≤ d) (h : pm_Hp) : pm_ev d 155 [.ref 152, .ref 161] h = some (0, pm_cp h 152 161 0 0 6) := crw (n := 6) rfl rfl (by decide) (fun d h => (pm_ev_b d 155 400 (fun pc => false) _ h).trans rfl) hd h
set_option maxRecDepth 100000 in
theorem r_163_164 {d : Nat} (hd : 2 ≤ d) (h : pm_Hp) : pm_ev d 155 [.ref 163, .ref 164] h = some (0, pm_cp h 163 164 0 0 6) := crw (n := 6) rfl rfl (by decide) (fun d h => (pm_ev_b d 155 400 (fun pc => false) _ h).trans rfl) hd h
set_option maxRecDepth 100000 in
theorem r_164_151 {d : Nat} (hd : 2 ≤ d) (h : pm_Hp) : pm_ev d 155 [.ref 164, .ref 151] h = some (0, pm_cp h 164 151 0 0 6) := crw (n := 6) rfl rfl (by decide) (fun d h => (pm_ev_b d 155 400 (fun pc => false) _ h).trans rfl) hd h
