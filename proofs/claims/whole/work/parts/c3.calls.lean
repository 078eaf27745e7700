theorem al_state {d : Nat} {h : pm_Hp} (hd : 40 ≤ d) (V : IV h) (v1 : Int32) : AL d 106 168 [.int v1] h := by
  have gc : cGd 106 := ⟨by omega, by decide⟩
  have gm : cGd 168 := ⟨by omega, by decide⟩
  have V0 := V
  obtain ⟨⟨T, R, A, n0, n1, q, N, M, L0, L1, F, ⟨c, nx, Z⟩, C⟩, I, t⟩ := V0
  exact (q_state (by omega) F Z I v1).al gc gm V
theorem al_thing {d : Nat} {h : pm_Hp} (hd : 40 ≤ d) (V : IV h) (v1 v2 : Int32) : AL d 107 170 [.int v1, .int v2] h := by
  have gc : cGd 107 := ⟨by omega, by decide⟩
  have gm : cGd 170 := ⟨by omega, by decide⟩
  have V0 := V
  obtain ⟨⟨T, R, A, n0, n1, q, N, M, L0, L1, F, ⟨c, nx, Z⟩, C⟩, I, t⟩ := V0
  exact (q_thing (by omega) F Z I v1 v2).al gc gm V
theorem al_actor {d : Nat} {h : pm_Hp} (hd : 40 ≤ d) (V : IV h) : AL d 108 171 [] h := by
  have gc : cGd 108 := ⟨by omega, by decide⟩
  have gm : cGd 171 := ⟨by omega, by decide⟩
  have V0 := V
  obtain ⟨⟨T, R, A, n0, n1, q, N, M, L0, L1, F, ⟨c, nx, Z⟩, C⟩, I, t⟩ := V0
  exact (q_actor (by omega) F Z I).al gc gm V
theorem al_rack {d : Nat} {h : pm_Hp} (hd : 40 ≤ d) (V : IV h) (v1 : Int32) : AL d 109 172 [.int v1] h := by
  have gc : cGd 109 := ⟨by omega, by decide⟩
  have gm : cGd 172 := ⟨by omega, by decide⟩
  have V0 := V
  obtain ⟨⟨T, R, A, n0, n1, q, N, M, L0, L1, F, ⟨c, nx, Z⟩, C⟩, I, t⟩ := V0
  exact (q_rack (by omega) F Z I v1).al gc gm V
theorem al_measure {d : Nat} {h : pm_Hp} (hd : 40 ≤ d) (V : IV h) (v1 v2 v3 v4 : Int32) : AL d 110 173 [.int v1, .int v2, .int v3, .int v4] h := by
  have gc : cGd 110 := ⟨by omega, by decide⟩
  have gm : cGd 173 := ⟨by omega, by decide⟩
  have V0 := V
  obtain ⟨⟨T, R, A, n0, n1, q, N, M, L0, L1, F, ⟨c, nx, Z⟩, C⟩, I, t⟩ := V0
  exact (q_measure (by omega) F Z I v1 v2 v3 v4).al gc gm V
theorem al_set {d : Nat} {h : pm_Hp} (hd : 40 ≤ d) (V : IV h) (v1 v2 v3 : Int32) : AL d 111 175 [.int v1, .int v2, .int v3] h := by
  have gc : cGd 111 := ⟨by omega, by decide⟩
  have gm : cGd 175 := ⟨by omega, by decide⟩
  have V0 := V
  obtain ⟨⟨T, R, A, n0, n1, q, N, M, L0, L1, F, ⟨c, nx, Z⟩, C⟩, I, t⟩ := V0
  exact (q_set (by omega) F Z I v1 v2 v3).al gc gm V
theorem al_put {d : Nat} {h : pm_Hp} (hd : 40 ≤ d) (V : IV h) (v1 v2 v3 : Int32) : AL d 119 231 [.int v1, .int v2, .int v3] h := by
  have gc : cGd 119 := ⟨by omega, by decide⟩
  have gm : cGd 231 := ⟨by omega, by decide⟩
  have V0 := V
  obtain ⟨⟨T, R, A, n0, n1, q, N, M, L0, L1, F, ⟨c, nx, Z⟩, C⟩, I, t⟩ := V0
  exact (q_put (by omega) F Z I v1 v2 v3).al gc gm V
theorem al_take {d : Nat} {h : pm_Hp} (hd : 40 ≤ d) (V : IV h) (v1 v2 : Int32) : AL d 120 233 [.int v1, .int v2] h := by
  have gc : cGd 120 := ⟨by omega, by decide⟩
  have gm : cGd 233 := ⟨by omega, by decide⟩
  have V0 := V
  obtain ⟨⟨T, R, A, n0, n1, q, N, M, L0, L1, F, ⟨c, nx, Z⟩, C⟩, I, t⟩ := V0
  exact (q_take (by omega) F Z I v1 v2).al gc gm V
theorem al_alter {d : Nat} {h : pm_Hp} (hd : 40 ≤ d) (V : IV h) (v1 v2 : Int32) : AL d 121 237 [.int v1, .int v2] h := by
  have gc : cGd 121 := ⟨by omega, by decide⟩
  have gm : cGd 237 := ⟨by omega, by decide⟩
  have V0 := V
  obtain ⟨⟨T, R, A, n0, n1, q, N, M, L0, L1, F, ⟨c, nx, Z⟩, C⟩, I, t⟩ := V0
  exact (q_alter (by omega) F Z I v1 v2).al gc gm V
theorem al_care {d : Nat} {h : pm_Hp} (hd : 40 ≤ d) (V : IV h) (v1 v2 : Int32) : AL d 122 238 [.int v1, .int v2] h := by
  have gc : cGd 122 := ⟨by omega, by decide⟩
  have gm : cGd 238 := ⟨by omega, by decide⟩
  have V0 := V
  obtain ⟨⟨T, R, A, n0, n1, q, N, M, L0, L1, F, ⟨c, nx, Z⟩, C⟩, I, t⟩ := V0
  exact (q_care (by omega) F Z I v1 v2).al gc gm V
theorem al_hire {d : Nat} {h : pm_Hp} (hd : 40 ≤ d) (V : IV h) (v1 v2 v3 : Int32) : AL d 123 239 [.int v1, .int v2, .int v3] h := by
  have gc : cGd 123 := ⟨by omega, by decide⟩
  have gm : cGd 239 := ⟨by omega, by decide⟩
  have V0 := V
  obtain ⟨⟨T, R, A, n0, n1, q, N, M, L0, L1, F, ⟨c, nx, Z⟩, C⟩, I, t⟩ := V0
  exact (q_hire (by omega) F Z I v1 v2 v3).al gc gm V
theorem al_back {d : Nat} {h : pm_Hp} (hd : 40 ≤ d) (V : IV h) (v1 v2 : Int32) : AL d 124 240 [.int v1, .int v2] h := by
  have gc : cGd 124 := ⟨by omega, by decide⟩
  have gm : cGd 240 := ⟨by omega, by decide⟩
  have V0 := V
  obtain ⟨⟨T, R, A, n0, n1, q, N, M, L0, L1, F, ⟨c, nx, Z⟩, C⟩, I, t⟩ := V0
  exact (q_back (by omega) F Z I v1 v2).al gc gm V
theorem al_days {d : Nat} {h : pm_Hp} (hd : 40 ≤ d) (V : IV h) (v1 : Int32) : AL d 125 242 [.int v1] h := by
  have gc : cGd 125 := ⟨by omega, by decide⟩
  have gm : cGd 242 := ⟨by omega, by decide⟩
  have V0 := V
  obtain ⟨⟨T, R, A, n0, n1, q, N, M, L0, L1, F, ⟨c, nx, Z⟩, C⟩, I, t⟩ := V0
  exact (q_days (by omega) F Z I v1).al gc gm V
theorem al_feed {d : Nat} {h : pm_Hp} (hd : 40 ≤ d) (V : IV h) (v1 v2 v3 v4 v5 : Int32) : AL d 115 176 [.int v1, .int v2, .int v3, .int v4, .int v5] h := by
  have gc : cGd 115 := ⟨by omega, by decide⟩
  have gm : cGd 176 := ⟨by omega, by decide⟩
  have V0 := V
  obtain ⟨⟨T, R, A, n0, n1, q, N, M, L0, L1, F, ⟨c, nx, Z⟩, C⟩, I, t⟩ := V0
  exact (q_feed (by omega) t v1 v2 v3 v4 v5).al gc gm V
theorem al_end {d : Nat} {h : pm_Hp} (hd : 40 ≤ d) (V : IV h) (v1 : Int32) : AL d 116 177 [.int v1] h := by
  have gc : cGd 116 := ⟨by omega, by decide⟩
  have gm : cGd 177 := ⟨by omega, by decide⟩
  have V0 := V
  obtain ⟨⟨T, R, A, n0, n1, q, N, M, L0, L1, F, ⟨c, nx, Z⟩, C⟩, I, t⟩ := V0
  exact (q_end (by omega) t v1).al gc gm V
theorem al_text {d : Nat} {h : pm_Hp} (hd : 40 ≤ d) (V : IV h) (v1 : Int32) : AL d 117 206 [.int v1] h := by
  have gc : cGd 117 := ⟨by omega, by decide⟩
  have gm : cGd 206 := ⟨by omega, by decide⟩
  have V0 := V
  obtain ⟨⟨T, R, A, n0, n1, q, N, M, L0, L1, F, ⟨c, nx, Z⟩, C⟩, I, t⟩ := V0
  exact (q_text (by omega) t F Z I v1).al gc gm V
theorem al_fault {d : Nat} {h : pm_Hp} (hd : 40 ≤ d) (V : IV h) (v1 : Int32) : AL d 118 207 [.int v1] h := by
  have gc : cGd 118 := ⟨by omega, by decide⟩
  have gm : cGd 207 := ⟨by omega, by decide⟩
  have V0 := V
  obtain ⟨⟨T, R, A, n0, n1, q, N, M, L0, L1, F, ⟨c, nx, Z⟩, C⟩, I, t⟩ := V0
  exact (q_fault (by omega) t v1).al gc gm V
theorem al_of {d : Nat} {h : pm_Hp} (hd : 40 ≤ d) (V : IV h) (v1 v2 : Int32) : AL d 130 243 [.int v1, .int v2] h := by
  have gc : cGd 130 := ⟨by omega, by decide⟩
  have gm : cGd 243 := ⟨by omega, by decide⟩
  have V0 := V
  obtain ⟨⟨T, R, A, n0, n1, q, N, M, L0, L1, F, ⟨c, nx, Z⟩, C⟩, I, t⟩ := V0
  exact (q_of (by omega) F.st v1 v2).al gc gm V
theorem al_at {d : Nat} {h : pm_Hp} (hd : 40 ≤ d) (V : IV h) (v1 v2 v3 : Int32) : AL d 131 244 [.int v1, .int v2, .int v3] h := by
  have gc : cGd 131 := ⟨by omega, by decide⟩
  have gm : cGd 244 := ⟨by omega, by decide⟩
  have V0 := V
  obtain ⟨⟨T, R, A, n0, n1, q, N, M, L0, L1, F, ⟨c, nx, Z⟩, C⟩, I, t⟩ := V0
  exact (q_at (by omega) F.st v1 v2 v3).al gc gm V
theorem al_body {d : Nat} {h : pm_Hp} (hd : 40 ≤ d) (V : IV h) (v1 v2 : Int32) : AL d 132 245 [.int v1, .int v2] h := by
  have gc : cGd 132 := ⟨by omega, by decide⟩
  have gm : cGd 245 := ⟨by omega, by decide⟩
  have V0 := V
  obtain ⟨⟨T, R, A, n0, n1, q, N, M, L0, L1, F, ⟨c, nx, Z⟩, C⟩, I, t⟩ := V0
  exact (q_body (by omega) F.st v1 v2).al gc gm V
theorem al_slot {d : Nat} {h : pm_Hp} (hd : 40 ≤ d) (V : IV h) (v1 v2 : Int32) : AL d 133 246 [.int v1, .int v2] h := by
  have gc : cGd 133 := ⟨by omega, by decide⟩
  have gm : cGd 246 := ⟨by omega, by decide⟩
  have V0 := V
  obtain ⟨⟨T, R, A, n0, n1, q, N, M, L0, L1, F, ⟨c, nx, Z⟩, C⟩, I, t⟩ := V0
  exact (q_slot (by omega) F.st v1 v2).al gc gm V
theorem al_book {d : Nat} {h : pm_Hp} (hd : 40 ≤ d) (V : IV h) (v1 v2 : Int32) : AL d 134 247 [.int v1, .int v2] h := by
  have gc : cGd 134 := ⟨by omega, by decide⟩
  have gm : cGd 247 := ⟨by omega, by decide⟩
  have V0 := V
  obtain ⟨⟨T, R, A, n0, n1, q, N, M, L0, L1, F, ⟨c, nx, Z⟩, C⟩, I, t⟩ := V0
  exact (q_book (by omega) F.1.2.2.1 F.2.2.2.2.2.2 v1 v2).al gc gm V
theorem al_fits {d : Nat} {h : pm_Hp} (hd : 40 ≤ d) (V : IV h) (v1 v2 : Int32) : AL d 138 249 [.int v1, .int v2] h := by
  have gc : cGd 138 := ⟨by omega, by decide⟩
  have gm : cGd 249 := ⟨by omega, by decide⟩
  have V0 := V
  obtain ⟨⟨T, R, A, n0, n1, q, N, M, L0, L1, F, ⟨c, nx, Z⟩, C⟩, I, t⟩ := V0
  exact (q_fits (by omega) F.st v1 v2).al gc gm V
theorem al_cost {d : Nat} {h : pm_Hp} (hd : 40 ≤ d) (V : IV h) (v1 v2 : Int32) : AL d 139 250 [.int v1, .int v2] h := by
  have gc : cGd 139 := ⟨by omega, by decide⟩
  have gm : cGd 250 := ⟨by omega, by decide⟩
  have V0 := V
  obtain ⟨⟨T, R, A, n0, n1, q, N, M, L0, L1, F, ⟨c, nx, Z⟩, C⟩, I, t⟩ := V0
  exact (q_cost (by omega) F.st v1 v2).al gc gm V
theorem al_suits {d : Nat} {h : pm_Hp} (hd : 40 ≤ d) (V : IV h) (v1 v2 : Int32) : AL d 140 252 [.int v1, .int v2] h := by
  have gc : cGd 140 := ⟨by omega, by decide⟩
  have gm : cGd 252 := ⟨by omega, by decide⟩
  have V0 := V
  obtain ⟨⟨T, R, A, n0, n1, q, N, M, L0, L1, F, ⟨c, nx, Z⟩, C⟩, I, t⟩ := V0
  exact (q_suits (by omega) F.st v1 v2).al gc gm V
theorem al_wear {d : Nat} {h : pm_Hp} (hd : 40 ≤ d) (V : IV h) (v1 v2 : Int32) : AL d 137 254 [.int v1, .int v2] h := by
  have gc : cGd 137 := ⟨by omega, by decide⟩
  have gm : cGd 254 := ⟨by omega, by decide⟩
  have V0 := V
  obtain ⟨⟨T, R, A, n0, n1, q, N, M, L0, L1, F, ⟨c, nx, Z⟩, C⟩, I, t⟩ := V0
  exact (q_wear (by omega) F.2.2.2.2.1 v1 v2).al gc gm V
theorem al_plan {d : Nat} {h : pm_Hp} (hd : 40 ≤ d) (V : IV h) (v1 : Int32) : AL d 150 267 [.int v1] h := by
  have gc : cGd 150 := ⟨by omega, by decide⟩
  have gm : cGd 267 := ⟨by omega, by decide⟩
  have V0 := V
  obtain ⟨⟨T, R, A, n0, n1, q, N, M, L0, L1, F, ⟨c, nx, Z⟩, C⟩, I, t⟩ := V0
  have b34 : h 169 34 = -1 := by obtain ⟨_, _, _, _, _, _, _, x, _⟩ := t; exact x
  have b35 : h 169 35 = -1 := by obtain ⟨_, _, _, _, _, _, _, _, x⟩ := t; exact x
  exact (q_plan (by omega) F C b34 b35 v1).al gc gm F Z I t
theorem al_best {d : Nat} {h : pm_Hp} (hd : 40 ≤ d) (V : IV h) (v1 v2 : Int32) : AL d 141 268 [.int v1, .int v2] h := by
  have gc : cGd 141 := ⟨by omega, by decide⟩
  have gm : cGd 268 := ⟨by omega, by decide⟩
  have V0 := V
  obtain ⟨⟨T, R, A, n0, n1, q, N, M, L0, L1, F, ⟨c, nx, Z⟩, C⟩, I, t⟩ := V0
  exact (q_best (by omega) F.st v1 v2).al gc gm V
theorem al_dresses {d : Nat} {h : pm_Hp} (hd : 40 ≤ d) (V : IV h) (v1 : Int32) : AL d 142 269 [.int v1] h := by
  have gc : cGd 142 := ⟨by omega, by decide⟩
  have gm : cGd 269 := ⟨by omega, by decide⟩
  have V0 := V
  obtain ⟨⟨T, R, A, n0, n1, q, N, M, L0, L1, F, ⟨c, nx, Z⟩, C⟩, I, t⟩ := V0
  exact (q_dresses (by omega) F.st v1).al gc gm V
theorem al_holds {d : Nat} {h : pm_Hp} (hd : 40 ≤ d) (V : IV h) (v1 v2 : Int32) : AL d 145 271 [.int v1, .int v2] h := by
  have gc : cGd 145 := ⟨by omega, by decide⟩
  have gm : cGd 271 := ⟨by omega, by decide⟩
  have V0 := V
  obtain ⟨⟨T, R, A, n0, n1, q, N, M, L0, L1, F, ⟨c, nx, Z⟩, C⟩, I, t⟩ := V0
  exact (q_holds (by omega) F.st v1 v2).al gc gm V
theorem al_path {d : Nat} {h : pm_Hp} (hd : 40 ≤ d) (V : IV h) (v1 v2 : Int32) : AL d 146 272 [.int v1, .int v2] h := by
  have gc : cGd 146 := ⟨by omega, by decide⟩
  have gm : cGd 272 := ⟨by omega, by decide⟩
  have V0 := V
  obtain ⟨⟨T, R, A, n0, n1, q, N, M, L0, L1, F, ⟨c, nx, Z⟩, C⟩, I, t⟩ := V0
  exact (q_path (by omega) F.st v1 v2).al gc gm V
theorem al_tour {d : Nat} {h : pm_Hp} (hd : 40 ≤ d) (V : IV h) (v1 : Int32) : AL d 144 276 [.int v1] h := by
  have gc : cGd 144 := ⟨by omega, by decide⟩
  have gm : cGd 276 := ⟨by omega, by decide⟩
  have V0 := V
  obtain ⟨⟨T, R, A, n0, n1, q, N, M, L0, L1, F, ⟨c, nx, Z⟩, C⟩, I, t⟩ := V0
  exact (q_tour (by omega) F.st v1).al gc gm V
theorem al_alone {d : Nat} {h : pm_Hp} (hd : 40 ≤ d) (V : IV h) (v1 : Int32) : AL d 143 277 [.int v1] h := by
  have gc : cGd 143 := ⟨by omega, by decide⟩
  have gm : cGd 277 := ⟨by omega, by decide⟩
  have V0 := V
  obtain ⟨⟨T, R, A, n0, n1, q, N, M, L0, L1, F, ⟨c, nx, Z⟩, C⟩, I, t⟩ := V0
  exact (q_alone (by omega) F.st v1).al gc gm V
theorem al_mends {d : Nat} {h : pm_Hp} (hd : 40 ≤ d) (V : IV h) (v1 v2 : Int32) : AL d 147 280 [.int v1, .int v2] h := by
  have gc : cGd 147 := ⟨by omega, by decide⟩
  have gm : cGd 280 := ⟨by omega, by decide⟩
  have V0 := V
  obtain ⟨⟨T, R, A, n0, n1, q, N, M, L0, L1, F, ⟨c, nx, Z⟩, C⟩, I, t⟩ := V0
  exact (q_mends (by omega) F.st v1 v2).al gc gm V
theorem al_swaps {d : Nat} {h : pm_Hp} (hd : 40 ≤ d) (V : IV h) (v1 : Int32) : AL d 151 284 [.int v1] h := by
  have gc : cGd 151 := ⟨by omega, by decide⟩
  have gm : cGd 284 := ⟨by omega, by decide⟩
  have V0 := V
  obtain ⟨⟨T, R, A, n0, n1, q, N, M, L0, L1, F, ⟨c, nx, Z⟩, C⟩, I, t⟩ := V0
  have b34 : h 169 34 = -1 := by obtain ⟨_, _, _, _, _, _, _, x, _⟩ := t; exact x
  have b35 : h 169 35 = -1 := by obtain ⟨_, _, _, _, _, _, _, _, x⟩ := t; exact x
  exact (q_swaps (by omega) F C b34 b35 v1).al gc gm F Z I t
theorem al_wish {d : Nat} {h : pm_Hp} (hd : 40 ≤ d) (V : IV h) (v1 v2 v3 v4 : Int32) : AL d 114 285 [.int v1, .int v2, .int v3, .int v4] h := by
  have gc : cGd 114 := ⟨by omega, by decide⟩
  have gm : cGd 285 := ⟨by omega, by decide⟩
  have V0 := V
  obtain ⟨⟨T, R, A, n0, n1, q, N, M, L0, L1, F, ⟨c, nx, Z⟩, C⟩, I, t⟩ := V0
  exact (q_wish (by omega) F I v1 v2 v3 v4).al gc gm V
theorem al_earns {d : Nat} {h : pm_Hp} (hd : 40 ≤ d) (V : IV h) (v1 : Int32) : AL d 148 288 [.int v1] h := by
  have gc : cGd 148 := ⟨by omega, by decide⟩
  have gm : cGd 288 := ⟨by omega, by decide⟩
  have V0 := V
  obtain ⟨⟨T, R, A, n0, n1, q, N, M, L0, L1, F, ⟨c, nx, Z⟩, C⟩, I, t⟩ := V0
  exact (q_earns (by omega) F.2.2.2.2.2.1 v1).al gc gm V
theorem al_share {d : Nat} {h : pm_Hp} (hd : 40 ≤ d) (V : IV h) (v1 v2 : Int32) : AL d 149 290 [.int v1, .int v2] h := by
  have gc : cGd 149 := ⟨by omega, by decide⟩
  have gm : cGd 290 := ⟨by omega, by decide⟩
  have V0 := V
  obtain ⟨⟨T, R, A, n0, n1, q, N, M, L0, L1, F, ⟨c, nx, Z⟩, C⟩, I, t⟩ := V0
  exact (q_share (by omega) F.1.2.2.1 v1 v2).al gc gm V
theorem al_undo {d : Nat} {h : pm_Hp} (hd : 40 ≤ d) (V : IV h) : AL d 126 229 [] h := by
  have gc : cGd 126 := ⟨by omega, by decide⟩
  have gm : cGd 229 := ⟨by omega, by decide⟩
  have V0 := V
  obtain ⟨⟨T, R, A, n0, n1, q, N, M, L0, L1, F, ⟨c, nx, Z⟩, C⟩, I, t⟩ := V0
  exact (q_undo (by omega) F Z I).al gc gm V
theorem al_image {d : Nat} {h : pm_Hp} (hd : 40 ≤ d) (V : IV h) (v1 : Int32) : AL d 127 291 [.int v1] h := by
  have gc : cGd 127 := ⟨by omega, by decide⟩
  have gm : cGd 291 := ⟨by omega, by decide⟩
  have V0 := V
  obtain ⟨⟨T, R, A, n0, n1, q, N, M, L0, L1, F, ⟨c, nx, Z⟩, C⟩, I, t⟩ := V0
  exact (q_image (by omega) F Z I v1).al gc gm V
theorem al_look {d : Nat} {h : pm_Hp} (hd : 40 ≤ d) (V : IV h) (v1 : Int32) : AL d 135 292 [.int v1] h := by
  have gc : cGd 135 := ⟨by omega, by decide⟩
  have gm : cGd 292 := ⟨by omega, by decide⟩
  have V0 := V
  obtain ⟨⟨T, R, A, n0, n1, q, N, M, L0, L1, F, ⟨c, nx, Z⟩, C⟩, I, t⟩ := V0
  exact (q_look (by omega) F.st F.1.2.2.1 F.2.2.2.2.1 F.2.2.2.2.2.1 (by rw [Z.2.2.2.1, Z.2.2.2.2.1]) v1).al gc gm V
