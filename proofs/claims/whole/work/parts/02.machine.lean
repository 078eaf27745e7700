def nJS : Nat := 26
def lenJS : List Nat := [122, 10, 5, 4, 5, 4, 7, 4, 3, 4, 2, 3, 3, 4, 4, 4, 6, 2, 3, 7, 4, 4, 4, 4, 4, 4]
def bytJS : List (List Int32) := [[99, 111, 115, 116, 32, 109, 101, 110, 100, 32, 116, 101, 97, 114, 32, 100, 105, 114, 116, 32, 99, 104, 97, 110, 103, 101, 32, 119, 104, 101, 110, 32, 111, 114, 32, 97, 110, 100, 32, 110, 111, 116, 32, 98, 121, 32, 111, 117, 116, 32, 109, 101, 97, 115, 117, 114, 101, 32, 107, 105, 110, 100, 32, 108, 101, 116, 115, 32, 116, 111, 114, 110, 32, 119, 111, 114, 110, 32, 110, 101, 120, 116, 32, 115, 99, 101, 110, 101, 32, 119, 101, 97, 114, 32, 100, 114, 101, 115, 115, 32, 99, 111, 97, 116, 32, 117, 110, 105, 102, 111, 114, 109, 32, 109, 97, 115, 107, 32, 115, 101, 116, 32], [59, 43, 45, 42, 47, 40, 41, 60, 61, 62], [115, 99, 101, 110, 101], [119, 101, 97, 114], [100, 114, 101, 115, 115], [99, 111, 97, 116], [117, 110, 105, 102, 111, 114, 109], [109, 97, 115, 107], [115, 101, 116], [119, 104, 101, 110], [111, 114], [97, 110, 100], [110, 111, 116], [99, 111, 115, 116], [109, 101, 110, 100], [116, 101, 97, 114], [99, 104, 97, 110, 103, 101], [98, 121], [111, 117, 116], [109, 101, 97, 115, 117, 114, 101], [107, 105, 110, 100], [108, 101, 116, 115], [116, 111, 114, 110], [119, 111, 114, 110], [100, 105, 114, 116], [110, 101, 120, 116]]

/-! THE PURE MACHINE: one heap of numbers (object id, place); references are ids, and stay as the constructors set them -/
abbrev pm_Hp : Type := Nat → Nat → Int32
abbrev pm_RI : Type := Instr × Nat × Int32 × List Nat × List Int32
abbrev pm_Rs : Type := Option (Int32 × pm_Hp)
abbrev pm_Cl : Type := Nat → List Value → pm_Hp → pm_Rs
abbrev pm_Go : Type := Nat → List Value → List Value → pm_Hp → pm_Rs
def pm_up (h : pm_Hp) (k j : Nat) (v : Int32) : pm_Hp := fun a b => if a = k ∧ b = j then v else h a b
def pm_cp (h : pm_Hp) (k0 k1 sp dp n : Nat) : pm_Hp := fun a b => if a = k1 ∧ dp ≤ b ∧ b < dp + n then h k0 (sp + (b - dp)) else h a b
/-- of an object: its kind (0 .. 10: the number of its class, 11 int[], 12 Stock[], 13 int[][]), its length, the ids that its places hold -/
def pm_ob (k : Nat) : Nat × Nat × List Nat := bif Nat.ble k 92 then (bif Nat.ble k 45 then (bif Nat.ble k 22 then (bif Nat.ble k 10 then (bif Nat.ble k 4 then (bif Nat.ble k 1 then (bif Nat.ble k 0 then (bif Nat.beq k 0 then (9, 8, [1, 39, 77, 133, 150, 165, 167, 0]) else (99, 0, [])) else (bif Nat.beq k 1 then (1, 17, [2, 11, 12, 13, 14, 15, 16, 17, 18, 25, 32, 0, 0, 0, 0, 37, 38]) else (99, 0, []))) else (bif Nat.ble k 2 then (bif Nat.beq k 2 then (7, 12, [3, 4, 5, 6, 7, 8, 9, 10, 0, 0, 0, 0]) else (99, 0, [])) else (bif Nat.ble k 3 then (bif Nat.beq k 3 then (11, 16, []) else (99, 0, [])) else (bif Nat.beq k 4 then (11, 16, []) else (99, 0, []))))) else (bif Nat.ble k 7 then (bif Nat.ble k 5 then (bif Nat.beq k 5 then (11, 16, []) else (99, 0, [])) else (bif Nat.ble k 6 then (bif Nat.beq k 6 then (11, 16, []) else (99, 0, [])) else (bif Nat.beq k 7 then (11, 16, []) else (99, 0, [])))) else (bif Nat.ble k 8 then (bif Nat.beq k 8 then (11, 16, []) else (99, 0, [])) else (bif Nat.ble k 9 then (bif Nat.beq k 9 then (11, 16, []) else (99, 0, [])) else (bif Nat.beq k 10 then (11, 80, []) else (99, 0, [])))))) else (bif Nat.ble k 16 then (bif Nat.ble k 13 then (bif Nat.ble k 11 then (bif Nat.beq k 11 then (11, 16, []) else (99, 0, [])) else (bif Nat.ble k 12 then (bif Nat.beq k 12 then (11, 16, []) else (99, 0, [])) else (bif Nat.beq k 13 then (11, 80, []) else (99, 0, [])))) else (bif Nat.ble k 14 then (bif Nat.beq k 14 then (11, 30, []) else (99, 0, [])) else (bif Nat.ble k 15 then (bif Nat.beq k 15 then (11, 4, []) else (99, 0, [])) else (bif Nat.beq k 16 then (11, 480, []) else (99, 0, []))))) else (bif Nat.ble k 19 then (bif Nat.ble k 17 then (bif Nat.beq k 17 then (11, 40, []) else (99, 0, [])) else (bif Nat.ble k 18 then (bif Nat.beq k 18 then (3, 8, [19, 20, 21, 22, 23, 24, 0, 0]) else (99, 0, [])) else (bif Nat.beq k 19 then (11, 400, []) else (99, 0, [])))) else (bif Nat.ble k 20 then (bif Nat.beq k 20 then (11, 16, []) else (99, 0, [])) else (bif Nat.ble k 21 then (bif Nat.beq k 21 then (11, 16, []) else (99, 0, [])) else (bif Nat.beq k 22 then (11, 16, []) else (99, 0, []))))))) else (bif Nat.ble k 33 then (bif Nat.ble k 27 then (bif Nat.ble k 24 then (bif Nat.ble k 23 then (bif Nat.beq k 23 then (11, 16, []) else (99, 0, [])) else (bif Nat.beq k 24 then (11, 32, []) else (99, 0, []))) else (bif Nat.ble k 25 then (bif Nat.beq k 25 then (3, 8, [26, 27, 28, 29, 30, 31, 0, 0]) else (99, 0, [])) else (bif Nat.ble k 26 then (bif Nat.beq k 26 then (11, 400, []) else (99, 0, [])) else (bif Nat.beq k 27 then (11, 16, []) else (99, 0, []))))) else (bif Nat.ble k 30 then (bif Nat.ble k 28 then (bif Nat.beq k 28 then (11, 16, []) else (99, 0, [])) else (bif Nat.ble k 29 then (bif Nat.beq k 29 then (11, 16, []) else (99, 0, [])) else (bif Nat.beq k 30 then (11, 16, []) else (99, 0, [])))) else (bif Nat.ble k 31 then (bif Nat.beq k 31 then (11, 32, []) else (99, 0, [])) else (bif Nat.ble k 32 then (bif Nat.beq k 32 then (6, 6, [33, 34, 35, 36, 0, 0]) else (99, 0, [])) else (bif Nat.beq k 33 then (11, 6, []) else (99, 0, [])))))) else (bif Nat.ble k 39 then (bif Nat.ble k 36 then (bif Nat.ble k 34 then (bif Nat.beq k 34 then (11, 6, []) else (99, 0, [])) else (bif Nat.ble k 35 then (bif Nat.beq k 35 then (11, 6, []) else (99, 0, [])) else (bif Nat.beq k 36 then (11, 6, []) else (99, 0, [])))) else (bif Nat.ble k 37 then (bif Nat.beq k 37 then (11, 9, []) else (99, 0, [])) else (bif Nat.ble k 38 then (bif Nat.beq k 38 then (11, 16, []) else (99, 0, [])) else (bif Nat.beq k 39 then (1, 17, [40, 49, 50, 51, 52, 53, 54, 55, 56, 63, 70, 0, 0, 0, 0, 75, 76]) else (99, 0, []))))) else (bif Nat.ble k 42 then (bif Nat.ble k 40 then (bif Nat.beq k 40 then (7, 12, [41, 42, 43, 44, 45, 46, 47, 48, 0, 0, 0, 0]) else (99, 0, [])) else (bif Nat.ble k 41 then (bif Nat.beq k 41 then (11, 16, []) else (99, 0, [])) else (bif Nat.beq k 42 then (11, 16, []) else (99, 0, [])))) else (bif Nat.ble k 43 then (bif Nat.beq k 43 then (11, 16, []) else (99, 0, [])) else (bif Nat.ble k 44 then (bif Nat.beq k 44 then (11, 16, []) else (99, 0, [])) else (bif Nat.beq k 45 then (11, 16, []) else (99, 0, [])))))))) else (bif Nat.ble k 68 then (bif Nat.ble k 56 then (bif Nat.ble k 50 then (bif Nat.ble k 47 then (bif Nat.ble k 46 then (bif Nat.beq k 46 then (11, 16, []) else (99, 0, [])) else (bif Nat.beq k 47 then (11, 16, []) else (99, 0, []))) else (bif Nat.ble k 48 then (bif Nat.beq k 48 then (11, 80, []) else (99, 0, [])) else (bif Nat.ble k 49 then (bif Nat.beq k 49 then (11, 16, []) else (99, 0, [])) else (bif Nat.beq k 50 then (11, 16, []) else (99, 0, []))))) else (bif Nat.ble k 53 then (bif Nat.ble k 51 then (bif Nat.beq k 51 then (11, 80, []) else (99, 0, [])) else (bif Nat.ble k 52 then (bif Nat.beq k 52 then (11, 30, []) else (99, 0, [])) else (bif Nat.beq k 53 then (11, 4, []) else (99, 0, [])))) else (bif Nat.ble k 54 then (bif Nat.beq k 54 then (11, 480, []) else (99, 0, [])) else (bif Nat.ble k 55 then (bif Nat.beq k 55 then (11, 40, []) else (99, 0, [])) else (bif Nat.beq k 56 then (3, 8, [57, 58, 59, 60, 61, 62, 0, 0]) else (99, 0, [])))))) else (bif Nat.ble k 62 then (bif Nat.ble k 59 then (bif Nat.ble k 57 then (bif Nat.beq k 57 then (11, 400, []) else (99, 0, [])) else (bif Nat.ble k 58 then (bif Nat.beq k 58 then (11, 16, []) else (99, 0, [])) else (bif Nat.beq k 59 then (11, 16, []) else (99, 0, [])))) else (bif Nat.ble k 60 then (bif Nat.beq k 60 then (11, 16, []) else (99, 0, [])) else (bif Nat.ble k 61 then (bif Nat.beq k 61 then (11, 16, []) else (99, 0, [])) else (bif Nat.beq k 62 then (11, 32, []) else (99, 0, []))))) else (bif Nat.ble k 65 then (bif Nat.ble k 63 then (bif Nat.beq k 63 then (3, 8, [64, 65, 66, 67, 68, 69, 0, 0]) else (99, 0, [])) else (bif Nat.ble k 64 then (bif Nat.beq k 64 then (11, 400, []) else (99, 0, [])) else (bif Nat.beq k 65 then (11, 16, []) else (99, 0, [])))) else (bif Nat.ble k 66 then (bif Nat.beq k 66 then (11, 16, []) else (99, 0, [])) else (bif Nat.ble k 67 then (bif Nat.beq k 67 then (11, 16, []) else (99, 0, [])) else (bif Nat.beq k 68 then (11, 16, []) else (99, 0, []))))))) else (bif Nat.ble k 80 then (bif Nat.ble k 74 then (bif Nat.ble k 71 then (bif Nat.ble k 69 then (bif Nat.beq k 69 then (11, 32, []) else (99, 0, [])) else (bif Nat.ble k 70 then (bif Nat.beq k 70 then (6, 6, [71, 72, 73, 74, 0, 0]) else (99, 0, [])) else (bif Nat.beq k 71 then (11, 6, []) else (99, 0, [])))) else (bif Nat.ble k 72 then (bif Nat.beq k 72 then (11, 6, []) else (99, 0, [])) else (bif Nat.ble k 73 then (bif Nat.beq k 73 then (11, 6, []) else (99, 0, [])) else (bif Nat.beq k 74 then (11, 6, []) else (99, 0, []))))) else (bif Nat.ble k 77 then (bif Nat.ble k 75 then (bif Nat.beq k 75 then (11, 9, []) else (99, 0, [])) else (bif Nat.ble k 76 then (bif Nat.beq k 76 then (11, 16, []) else (99, 0, [])) else (bif Nat.beq k 77 then (2, 3, [78, 0, 0]) else (99, 0, [])))) else (bif Nat.ble k 78 then (bif Nat.beq k 78 then (12, 6, [79, 88, 97, 106, 115, 124]) else (99, 0, [])) else (bif Nat.ble k 79 then (bif Nat.beq k 79 then (7, 12, [80, 81, 82, 83, 84, 85, 86, 87, 0, 0, 0, 0]) else (99, 0, [])) else (bif Nat.beq k 80 then (11, 16, []) else (99, 0, [])))))) else (bif Nat.ble k 86 then (bif Nat.ble k 83 then (bif Nat.ble k 81 then (bif Nat.beq k 81 then (11, 16, []) else (99, 0, [])) else (bif Nat.ble k 82 then (bif Nat.beq k 82 then (11, 16, []) else (99, 0, [])) else (bif Nat.beq k 83 then (11, 16, []) else (99, 0, [])))) else (bif Nat.ble k 84 then (bif Nat.beq k 84 then (11, 16, []) else (99, 0, [])) else (bif Nat.ble k 85 then (bif Nat.beq k 85 then (11, 16, []) else (99, 0, [])) else (bif Nat.beq k 86 then (11, 16, []) else (99, 0, []))))) else (bif Nat.ble k 89 then (bif Nat.ble k 87 then (bif Nat.beq k 87 then (11, 80, []) else (99, 0, [])) else (bif Nat.ble k 88 then (bif Nat.beq k 88 then (7, 12, [89, 90, 91, 92, 93, 94, 95, 96, 0, 0, 0, 0]) else (99, 0, [])) else (bif Nat.beq k 89 then (11, 16, []) else (99, 0, [])))) else (bif Nat.ble k 90 then (bif Nat.beq k 90 then (11, 16, []) else (99, 0, [])) else (bif Nat.ble k 91 then (bif Nat.beq k 91 then (11, 16, []) else (99, 0, [])) else (bif Nat.beq k 92 then (11, 16, []) else (99, 0, []))))))))) else (bif Nat.ble k 138 then (bif Nat.ble k 115 then (bif Nat.ble k 103 then (bif Nat.ble k 97 then (bif Nat.ble k 94 then (bif Nat.ble k 93 then (bif Nat.beq k 93 then (11, 16, []) else (99, 0, [])) else (bif Nat.beq k 94 then (11, 16, []) else (99, 0, []))) else (bif Nat.ble k 95 then (bif Nat.beq k 95 then (11, 16, []) else (99, 0, [])) else (bif Nat.ble k 96 then (bif Nat.beq k 96 then (11, 80, []) else (99, 0, [])) else (bif Nat.beq k 97 then (7, 12, [98, 99, 100, 101, 102, 103, 104, 105, 0, 0, 0, 0]) else (99, 0, []))))) else (bif Nat.ble k 100 then (bif Nat.ble k 98 then (bif Nat.beq k 98 then (11, 16, []) else (99, 0, [])) else (bif Nat.ble k 99 then (bif Nat.beq k 99 then (11, 16, []) else (99, 0, [])) else (bif Nat.beq k 100 then (11, 16, []) else (99, 0, [])))) else (bif Nat.ble k 101 then (bif Nat.beq k 101 then (11, 16, []) else (99, 0, [])) else (bif Nat.ble k 102 then (bif Nat.beq k 102 then (11, 16, []) else (99, 0, [])) else (bif Nat.beq k 103 then (11, 16, []) else (99, 0, [])))))) else (bif Nat.ble k 109 then (bif Nat.ble k 106 then (bif Nat.ble k 104 then (bif Nat.beq k 104 then (11, 16, []) else (99, 0, [])) else (bif Nat.ble k 105 then (bif Nat.beq k 105 then (11, 80, []) else (99, 0, [])) else (bif Nat.beq k 106 then (7, 12, [107, 108, 109, 110, 111, 112, 113, 114, 0, 0, 0, 0]) else (99, 0, [])))) else (bif Nat.ble k 107 then (bif Nat.beq k 107 then (11, 16, []) else (99, 0, [])) else (bif Nat.ble k 108 then (bif Nat.beq k 108 then (11, 16, []) else (99, 0, [])) else (bif Nat.beq k 109 then (11, 16, []) else (99, 0, []))))) else (bif Nat.ble k 112 then (bif Nat.ble k 110 then (bif Nat.beq k 110 then (11, 16, []) else (99, 0, [])) else (bif Nat.ble k 111 then (bif Nat.beq k 111 then (11, 16, []) else (99, 0, [])) else (bif Nat.beq k 112 then (11, 16, []) else (99, 0, [])))) else (bif Nat.ble k 113 then (bif Nat.beq k 113 then (11, 16, []) else (99, 0, [])) else (bif Nat.ble k 114 then (bif Nat.beq k 114 then (11, 80, []) else (99, 0, [])) else (bif Nat.beq k 115 then (7, 12, [116, 117, 118, 119, 120, 121, 122, 123, 0, 0, 0, 0]) else (99, 0, []))))))) else (bif Nat.ble k 126 then (bif Nat.ble k 120 then (bif Nat.ble k 117 then (bif Nat.ble k 116 then (bif Nat.beq k 116 then (11, 16, []) else (99, 0, [])) else (bif Nat.beq k 117 then (11, 16, []) else (99, 0, []))) else (bif Nat.ble k 118 then (bif Nat.beq k 118 then (11, 16, []) else (99, 0, [])) else (bif Nat.ble k 119 then (bif Nat.beq k 119 then (11, 16, []) else (99, 0, [])) else (bif Nat.beq k 120 then (11, 16, []) else (99, 0, []))))) else (bif Nat.ble k 123 then (bif Nat.ble k 121 then (bif Nat.beq k 121 then (11, 16, []) else (99, 0, [])) else (bif Nat.ble k 122 then (bif Nat.beq k 122 then (11, 16, []) else (99, 0, [])) else (bif Nat.beq k 123 then (11, 80, []) else (99, 0, [])))) else (bif Nat.ble k 124 then (bif Nat.beq k 124 then (7, 12, [125, 126, 127, 128, 129, 130, 131, 132, 0, 0, 0, 0]) else (99, 0, [])) else (bif Nat.ble k 125 then (bif Nat.beq k 125 then (11, 16, []) else (99, 0, [])) else (bif Nat.beq k 126 then (11, 16, []) else (99, 0, [])))))) else (bif Nat.ble k 132 then (bif Nat.ble k 129 then (bif Nat.ble k 127 then (bif Nat.beq k 127 then (11, 16, []) else (99, 0, [])) else (bif Nat.ble k 128 then (bif Nat.beq k 128 then (11, 16, []) else (99, 0, [])) else (bif Nat.beq k 129 then (11, 16, []) else (99, 0, [])))) else (bif Nat.ble k 130 then (bif Nat.beq k 130 then (11, 16, []) else (99, 0, [])) else (bif Nat.ble k 131 then (bif Nat.beq k 131 then (11, 16, []) else (99, 0, [])) else (bif Nat.beq k 132 then (11, 80, []) else (99, 0, []))))) else (bif Nat.ble k 135 then (bif Nat.ble k 133 then (bif Nat.beq k 133 then (5, 11, [134, 0, 0, 0, 135, 142, 147, 148, 149, 0, 0]) else (99, 0, [])) else (bif Nat.ble k 134 then (bif Nat.beq k 134 then (11, 400, []) else (99, 0, [])) else (bif Nat.beq k 135 then (3, 8, [136, 137, 138, 139, 140, 141, 0, 0]) else (99, 0, [])))) else (bif Nat.ble k 136 then (bif Nat.beq k 136 then (11, 400, []) else (99, 0, [])) else (bif Nat.ble k 137 then (bif Nat.beq k 137 then (11, 16, []) else (99, 0, [])) else (bif Nat.beq k 138 then (11, 16, []) else (99, 0, [])))))))) else (bif Nat.ble k 161 then (bif Nat.ble k 149 then (bif Nat.ble k 143 then (bif Nat.ble k 140 then (bif Nat.ble k 139 then (bif Nat.beq k 139 then (11, 16, []) else (99, 0, [])) else (bif Nat.beq k 140 then (11, 16, []) else (99, 0, []))) else (bif Nat.ble k 141 then (bif Nat.beq k 141 then (11, 32, []) else (99, 0, [])) else (bif Nat.ble k 142 then (bif Nat.beq k 142 then (6, 6, [143, 144, 145, 146, 0, 0]) else (99, 0, [])) else (bif Nat.beq k 143 then (11, 6, []) else (99, 0, []))))) else (bif Nat.ble k 146 then (bif Nat.ble k 144 then (bif Nat.beq k 144 then (11, 6, []) else (99, 0, [])) else (bif Nat.ble k 145 then (bif Nat.beq k 145 then (11, 6, []) else (99, 0, [])) else (bif Nat.beq k 146 then (11, 6, []) else (99, 0, [])))) else (bif Nat.ble k 147 then (bif Nat.beq k 147 then (11, 401, []) else (99, 0, [])) else (bif Nat.ble k 148 then (bif Nat.beq k 148 then (11, 401, []) else (99, 0, [])) else (bif Nat.beq k 149 then (11, 401, []) else (99, 0, [])))))) else (bif Nat.ble k 155 then (bif Nat.ble k 152 then (bif Nat.ble k 150 then (bif Nat.beq k 150 then (4, 15, [0, 0, 0, 0, 151, 0, 0, 152, 153, 154, 155, 163, 164, 0, 185]) else (99, 0, [])) else (bif Nat.ble k 151 then (bif Nat.beq k 151 then (11, 6, []) else (99, 0, [])) else (bif Nat.beq k 152 then (11, 6, []) else (99, 0, [])))) else (bif Nat.ble k 153 then (bif Nat.beq k 153 then (11, 96, []) else (99, 0, [])) else (bif Nat.ble k 154 then (bif Nat.beq k 154 then (11, 576, []) else (99, 0, [])) else (bif Nat.beq k 155 then (13, 7, [156, 157, 158, 159, 160, 161, 162]) else (99, 0, []))))) else (bif Nat.ble k 158 then (bif Nat.ble k 156 then (bif Nat.beq k 156 then (11, 6, []) else (99, 0, [])) else (bif Nat.ble k 157 then (bif Nat.beq k 157 then (11, 6, []) else (99, 0, [])) else (bif Nat.beq k 158 then (11, 6, []) else (99, 0, [])))) else (bif Nat.ble k 159 then (bif Nat.beq k 159 then (11, 6, []) else (99, 0, [])) else (bif Nat.ble k 160 then (bif Nat.beq k 160 then (11, 6, []) else (99, 0, [])) else (bif Nat.beq k 161 then (11, 6, []) else (99, 0, []))))))) else (bif Nat.ble k 173 then (bif Nat.ble k 167 then (bif Nat.ble k 164 then (bif Nat.ble k 162 then (bif Nat.beq k 162 then (11, 6, []) else (99, 0, [])) else (bif Nat.ble k 163 then (bif Nat.beq k 163 then (11, 6, []) else (99, 0, [])) else (bif Nat.beq k 164 then (11, 6, []) else (99, 0, [])))) else (bif Nat.ble k 165 then (bif Nat.beq k 165 then (0, 3, [166, 0, 0]) else (99, 0, [])) else (bif Nat.ble k 166 then (bif Nat.beq k 166 then (11, 10, []) else (99, 0, [])) else (bif Nat.beq k 167 then (8, 5, [168, 0, 0, 0, 0]) else (99, 0, []))))) else (bif Nat.ble k 170 then (bif Nat.ble k 168 then (bif Nat.beq k 168 then (11, 16, []) else (99, 0, [])) else (bif Nat.ble k 169 then (bif Nat.beq k 169 then (10, 38, [170, 171, 172, 0, 0, 173, 174, 175, 176, 177, 178, 179, 0, 0, 0, 0, 0, 0, 0, 0, 0, 0, 0, 0, 0, 0, 0, 0, 0, 180, 181, 182, 0, 0, 0, 0, 183, 184]) else (99, 0, [])) else (bif Nat.beq k 170 then (11, 2684, []) else (99, 0, [])))) else (bif Nat.ble k 171 then (bif Nat.beq k 171 then (11, 2684, []) else (99, 0, [])) else (bif Nat.ble k 172 then (bif Nat.beq k 172 then (11, 1944, []) else (99, 0, [])) else (bif Nat.beq k 173 then (11, 64, []) else (99, 0, [])))))) else (bif Nat.ble k 179 then (bif Nat.ble k 176 then (bif Nat.ble k 174 then (bif Nat.beq k 174 then (11, 820, []) else (99, 0, [])) else (bif Nat.ble k 175 then (bif Nat.beq k 175 then (11, 6, []) else (99, 0, [])) else (bif Nat.beq k 176 then (11, 24, []) else (99, 0, [])))) else (bif Nat.ble k 177 then (bif Nat.beq k 177 then (11, 400, []) else (99, 0, [])) else (bif Nat.ble k 178 then (bif Nat.beq k 178 then (11, 420, []) else (99, 0, [])) else (bif Nat.beq k 179 then (11, 10, []) else (99, 0, []))))) else (bif Nat.ble k 182 then (bif Nat.ble k 180 then (bif Nat.beq k 180 then (11, 8, []) else (99, 0, [])) else (bif Nat.ble k 181 then (bif Nat.beq k 181 then (11, 8, []) else (99, 0, [])) else (bif Nat.beq k 182 then (11, 9, []) else (99, 0, [])))) else (bif Nat.ble k 183 then (bif Nat.beq k 183 then (11, 16, []) else (99, 0, [])) else (bif Nat.ble k 184 then (bif Nat.beq k 184 then (11, 16, []) else (99, 0, [])) else (bif Nat.beq k 185 then (11, 6, []) else (99, 0, [])))))))))
/-- a receiver of a class -/
def pm_rc (ci : Nat) (args : List Value) : Bool := match args with
  | .ref k :: _ => bif Nat.beq ci 20 then Nat.ble 400 k && Nat.ble k 425 else Nat.beq (pm_ob k).1 ci
  | _ => false
def pm_ret (rk nx : Nat) (ls rest : List Value) (go : pm_Go) (r : Int32 × pm_Hp) : pm_Rs := match rk with
  | 0 => go nx ls rest r.2
  | 1 => go nx ls (.int r.1 :: rest) r.2
  | _ => go nx ls (.ref r.1.toNatClampNeg :: rest) r.2
def pm_call (C : pm_Cl) (go : pm_Go) (ok : List Value → Bool) (nx : Nat) (ls st : List Value) (h : pm_Hp) (mj na rk : Nat) : pm_Rs :=
  bif ok (st.take na).reverse && Nat.ble (st.drop na).length 8 && Nat.beq (st.take na).length na then (C mj (st.take na).reverse h).bind (pm_ret rk nx ls (st.drop na) go) else none
def pm_sw (go : pm_Go) (ls st : List Value) (h : pm_Hp) (d : Nat) (x : Int32) : List Int32 → List Nat → pm_Rs
  | k :: ks, t :: ts => if x = k then go t ls st h else pm_sw go ls st h d x ks ts
  | _, _ => go d ls st h
def pm_if (c : Prop) [Decidable c] (go : pm_Go) (t f : Nat) (ls st : List Value) (h : pm_Hp) : pm_Rs := if c then go t ls st h else go f ls st h
/-- one instruction; go: how it goes on -/
def pm_stp (C : pm_Cl) (ri : pm_RI) (go : pm_Go) (ls st : List Value) (h : pm_Hp) : pm_Rs :=
  match ri with
  | (I, nx, c, xs, ks) =>
  match I with
  | .iconst _ => go nx ls (.int c :: st) h
  | .bipush _ => go nx ls (.int c :: st) h
  | .sipush _ => go nx ls (.int c :: st) h
  | .ldc _ => (match xs with
    | [] => go nx ls (.int c :: st) h
    | q :: _ => go nx ls (.ref q :: st) h)
  | .ldc_w _ => go nx ls (.int c :: st) h
  | .iload_n i => (match ls[i.val]? with
    | some (.int x) => go nx ls (.int x :: st) h
    | _ => none)
  | .iload i => (match ls[i]? with
    | some (.int x) => go nx ls (.int x :: st) h
    | _ => none)
  | .aload_n i => (match ls[i.val]? with
    | some (.ref x) => go nx ls (.ref x :: st) h
    | _ => none)
  | .aload i => (match ls[i]? with
    | some (.ref x) => go nx ls (.ref x :: st) h
    | _ => none)
  | .istore_n i => (match st with
    | .int x :: st => bif Nat.ble (i.val + 1) ls.length then go nx (ls.set i.val (.int x)) st h else none
    | _ => none)
  | .istore i => (match st with
    | .int x :: st => bif Nat.ble (i + 1) ls.length then go nx (ls.set i (.int x)) st h else none
    | _ => none)
  | .astore_n i => (match st with
    | .ref x :: st => bif Nat.ble (i.val + 1) ls.length then go nx (ls.set i.val (.ref x)) st h else none
    | _ => none)
  | .astore i => (match st with
    | .ref x :: st => bif Nat.ble (i + 1) ls.length then go nx (ls.set i (.ref x)) st h else none
    | _ => none)
  | .iinc i _ => (match ls[i]? with
    | some (.int x) => go nx (ls.set i (.int (x + c))) st h
    | _ => none)
  | .iadd => (match st with
    | .int y :: .int x :: st => go nx ls (.int (x + y) :: st) h
    | _ => none)
  | .isub => (match st with
    | .int y :: .int x :: st => go nx ls (.int (x - y) :: st) h
    | _ => none)
  | .imul => (match st with
    | .int y :: .int x :: st => go nx ls (.int (x * y) :: st) h
    | _ => none)
  | .idiv => (match st with
    | .int y :: .int x :: st => if y = 0 then none else go nx ls (.int (x / y) :: st) h
    | _ => none)
  | .irem => (match st with
    | .int y :: .int x :: st => if y = 0 then none else go nx ls (.int (x - x / y * y) :: st) h
    | _ => none)
  | .ineg => (match st with
    | .int x :: st => go nx ls (.int (-x) :: st) h
    | _ => none)
  | .iand => (match st with
    | .int y :: .int x :: st => go nx ls (.int (x &&& y) :: st) h
    | _ => none)
  | .ior => (match st with
    | .int y :: .int x :: st => go nx ls (.int (x ||| y) :: st) h
    | _ => none)
  | .ixor => (match st with
    | .int y :: .int x :: st => go nx ls (.int (x ^^^ y) :: st) h
    | _ => none)
  | .ishl => (match st with
    | .int y :: .int x :: st => go nx ls (.int (x <<< (y &&& 31)) :: st) h
    | _ => none)
  | .ishr => (match st with
    | .int y :: .int x :: st => go nx ls (.int (x >>> (y &&& 31)) :: st) h
    | _ => none)
  | .iushr => (match st with
    | .int y :: .int x :: st => go nx ls (.int (x.toUInt32 >>> (y.toUInt32 &&& Int32.toUInt32 31)).toInt32 :: st) h
    | _ => none)
  | .i2c => (match st with
    | .int x :: st => go nx ls (.int (x.toUInt32 % 65536).toInt32 :: st) h
    | _ => none)
  | .i2b => (match st with
    | .int x :: st => go nx ls (.int x.toInt8.toInt32 :: st) h
    | _ => none)
  | .dup => (match st with
    | .int x :: st => go nx ls (.int x :: .int x :: st) h
    | .ref x :: st => go nx ls (.ref x :: .ref x :: st) h
    | _ => none)
  | .dup2 => (match st with
    | .int x :: .ref y :: st => go nx ls (.int x :: .ref y :: .int x :: .ref y :: st) h
    | _ => none)
  | .pop => (match st with
    | .int _ :: st => go nx ls st h
    | _ => none)
  | .if_icmp q _ => (match st, xs with
    | .int y :: .int x :: st, [t] => (match q with
      | .eq => pm_if (x = y) go t nx ls st h
      | .ne => pm_if (x = y) go nx t ls st h
      | .lt => pm_if (x < y) go t nx ls st h
      | .ge => pm_if (x < y) go nx t ls st h
      | .le => pm_if (x ≤ y) go t nx ls st h
      | .gt => pm_if (x ≤ y) go nx t ls st h)
    | _, _ => none)
  | .ifCond q _ => (match st, xs with
    | .int x :: st, [t] => (match q with
      | .eq => pm_if (x = 0) go t nx ls st h
      | .ne => pm_if (x = 0) go nx t ls st h
      | .lt => pm_if (x < 0) go t nx ls st h
      | .ge => pm_if (x < 0) go nx t ls st h
      | .le => pm_if (x ≤ 0) go t nx ls st h
      | .gt => pm_if (x ≤ 0) go nx t ls st h)
    | _, _ => none)
  | .goto _ => (match xs with
    | [t] => go t ls st h
    | _ => none)
  | .tableswitch _ _ _ _ => (match st, xs with
    | .int x :: st, d :: ts => pm_sw go ls st h d x ks ts
    | _, _ => none)
  | .lookupswitch _ _ => (match st, xs with
    | .int x :: st, d :: ts => pm_sw go ls st h d x ks ts
    | _, _ => none)
  | .getstatic _ => (match xs with
    | [0] => go nx ls (.int c :: st) h
    | _ => none)
  | .getfield _ => (match st, xs with
    | .ref k :: st, [ci, fk, ft] => (bif Nat.beq ci 20 then (bif Nat.ble 400 k && Nat.ble k 425 then (bif Nat.beq fk 0 then go nx ls (.ref (k + 100) :: st) h else go nx ls (.int 0 :: st) h) else none)
        else bif Nat.beq (pm_ob k).1 ci then (bif Nat.beq ft 2 then go nx ls (.ref ((pm_ob k).2.2.getD fk 0) :: st) h else go nx ls (.int (h k fk) :: st) h) else none)
    | _, _ => none)
  | .putfield _ => (match st, xs with
    | .int v :: .ref k :: st, [ci, fk, ft] => (bif Nat.beq (pm_ob k).1 ci then (bif Nat.beq ft 0 then go nx ls st (pm_up h k fk v) else bif Nat.beq ft 1 then (if v = 0 ∨ v = 1 then go nx ls st (pm_up h k fk v) else none) else none) else none)
    | _, _ => none)
  | .iaload => (match st with
    | .int i :: .ref k :: st => (bif Nat.beq k 300 then (if i < 0 ∨ (h 301 0).toNatClampNeg ≤ i.toNatClampNeg then none else go nx ls (.int (h 300 i.toNatClampNeg) :: st) h)
        else bif Nat.beq (pm_ob k).1 11 then (if i < 0 ∨ (pm_ob k).2.1 ≤ i.toNatClampNeg then none else go nx ls (.int (h k i.toNatClampNeg) :: st) h) else none)
    | _ => none)
  | .aaload => (match st with
    | .int i :: .ref k :: st => (bif Nat.beq (pm_ob k).1 12 || Nat.beq (pm_ob k).1 13 then (if i < 0 ∨ (pm_ob k).2.1 ≤ i.toNatClampNeg then none else go nx ls (.ref ((pm_ob k).2.2.getD i.toNatClampNeg 0) :: st) h) else none)
    | _ => none)
  | .baload => (match st with
    | .int i :: .ref k :: st => (bif Nat.ble 500 k && Nat.ble k 525 then (if i < 0 ∨ (lenJS.getD (k - 500) 0) ≤ i.toNatClampNeg then none else go nx ls (.int ((bytJS.getD (k - 500) []).getD i.toNatClampNeg 0) :: st) h) else none)
    | _ => none)
  | .iastore => (match st with
    | .int v :: .int i :: .ref k :: st => (bif Nat.beq (pm_ob k).1 11 then (if i < 0 ∨ (pm_ob k).2.1 ≤ i.toNatClampNeg then none else go nx ls st (pm_up h k i.toNatClampNeg v)) else none)
    | _ => none)
  | .arraylength => (match st with
    | .ref k :: st => (bif Nat.beq k 300 then go nx ls (.int (h 301 0) :: st) h else bif Nat.ble 500 k && Nat.ble k 525 then go nx ls (.int (nI (lenJS.getD (k - 500) 0)) :: st) h
        else bif Nat.beq (pm_ob k).1 11 then go nx ls (.int (nI (pm_ob k).2.1) :: st) h else none)
    | _ => none)
  | .invokevirtual _ => (match xs with
    | [mj, na, rk, ci] => pm_call C go (pm_rc ci) nx ls st h mj na rk
    | _ => none)
  | .invokestatic _ => (match xs with
    | [mj, na, rk, _] => (bif Nat.beq rk 3 then (match st with
        | .int n :: .int dp :: .ref k1 :: .int sp :: .ref k0 :: st => (bif Nat.beq (pm_ob k0).1 11 && Nat.beq (pm_ob k1).1 11 && !(Nat.beq k0 k1) && Nat.ble st.length 8 then (if (sp < 0 ∨ dp < 0 ∨ n < 0) ∨ ¬ sp.toNatClampNeg + n.toNatClampNeg ≤ (pm_ob k0).2.1 ∨ ¬ dp.toNatClampNeg + n.toNatClampNeg ≤ (pm_ob k1).2.1 then none else go nx ls st (pm_cp h k0 k1 sp.toNatClampNeg dp.toNatClampNeg n.toNatClampNeg)) else none)
        | _ => none) else bif Nat.beq rk 4 then (match st with
        | .int n :: .int i :: st => (bif Nat.ble st.length 8 then (if i < 0 ∨ n ≤ i then none else go nx ls st h) else none)
        | _ => none) else pm_call C go (fun _ => true) nx ls st h mj na rk)
    | _ => none)
  | .ireturn => (match st, xs with
    | [.int v], [q] => (match q with
      | 0 => some (v, h)
      | 1 => if v = 0 ∨ v = 1 then some (v, h) else none
      | 2 => if narrow .char (.int v) = .int v then some (v, h) else none
      | _ => if narrow .byte (.int v) = .int v then some (v, h) else none)
    | _, _ => none)
  | .areturn => (match st with
    | [.ref k] => bif Nat.beq (pm_ob k).1 11 then some (nI k, h) else none
    | _ => none)
  | .return_ => (match st with
    | [] => some (0, h)
    | _ => none)
  | _ => none
def pm_run (C : pm_Cl) (cd : Nat → Option pm_RI) : Nat → pm_Go
  | 0 => fun _ _ _ _ => none
  | n + 1 => fun pc ls st h => match cd pc with
    | none => none
    | some ri => pm_stp C ri (pm_run C cd n) ls st h
