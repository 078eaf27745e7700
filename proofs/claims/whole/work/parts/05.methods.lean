/-- what the tables say of a method -/
def pm_F (i : Nat) : Prop := Cond.code (pm_m i).1 (pm_m i).2.1 (pm_m i).2.2.1 (pm_m i).2.2.2.1 ∈ pm_tb ∧ Cond.initialized (pm_m i).1.cls ∈ pm_tb ∧ (plainName (pm_m i).1.cls = true ∧ (pm_m i).1.cls ≠ "java/lang/invoke/MethodHandle" ∧ (pm_m i).1.cls ≠ "java/lang/invoke/VarHandle" ∧ (parseMethodDescriptor (pm_m i).1.desc).map (fun d => d.parameters.length) = some (pm_m i).2.2.2.2.2.2.2 ∧ pm_cn (pm_m i).2.2.2.2.2.1 = (pm_m i).1.cls) ∧ (if (pm_m i).2.2.2.2.2.2.1 = 1 then Cond.static (pm_m i).1 ∈ pm_tb else Cond.instanceMethod (pm_m i).1 ∈ pm_tb) ∧ ((pm_m i).2.2.2.2.2.2.1 = 0 → Cond.selects (pm_m i).1.cls (pm_m i).1 (pm_m i).1 ∈ pm_tb)
theorem pm_F0 : pm_F 0 := ⟨pm_in 503 (by decide +kernel) rfl, pm_in 129 (by decide +kernel) rfl, by decide +kernel, pm_in 502 (by decide +kernel) rfl, fun h => absurd h (by decide +kernel)⟩
theorem pm_F1 : pm_F 1 := ⟨pm_in 1194 (by decide +kernel) rfl, pm_in 129 (by decide +kernel) rfl, by decide +kernel, pm_in 1192 (by decide +kernel) rfl, fun _ => pm_in 1193 (by decide +kernel) rfl⟩
theorem pm_F2 : pm_F 2 := ⟨pm_in 1197 (by decide +kernel) rfl, pm_in 129 (by decide +kernel) rfl, by decide +kernel, pm_in 1196 (by decide +kernel) rfl, fun h => absurd h (by decide +kernel)⟩
theorem pm_F3 : pm_F 3 := ⟨pm_in 1201 (by decide +kernel) rfl, pm_in 129 (by decide +kernel) rfl, by decide +kernel, pm_in 1200 (by decide +kernel) rfl, fun _ => pm_in 25 (by decide +kernel) rfl⟩
theorem pm_F4 : pm_F 4 := ⟨pm_in 152 (by decide +kernel) rfl, pm_in 122 (by decide +kernel) rfl, by decide +kernel, pm_in 151 (by decide +kernel) rfl, fun h => absurd h (by decide +kernel)⟩
theorem pm_F5 : pm_F 5 := ⟨pm_in 1047 (by decide +kernel) rfl, pm_in 122 (by decide +kernel) rfl, by decide +kernel, pm_in 1045 (by decide +kernel) rfl, fun _ => pm_in 1046 (by decide +kernel) rfl⟩
theorem pm_F6 : pm_F 6 := ⟨pm_in 612 (by decide +kernel) rfl, pm_in 122 (by decide +kernel) rfl, by decide +kernel, pm_in 610 (by decide +kernel) rfl, fun _ => pm_in 611 (by decide +kernel) rfl⟩
theorem pm_F7 : pm_F 7 := ⟨pm_in 604 (by decide +kernel) rfl, pm_in 122 (by decide +kernel) rfl, by decide +kernel, pm_in 602 (by decide +kernel) rfl, fun _ => pm_in 603 (by decide +kernel) rfl⟩
theorem pm_F8 : pm_F 8 := ⟨pm_in 899 (by decide +kernel) rfl, pm_in 122 (by decide +kernel) rfl, by decide +kernel, pm_in 897 (by decide +kernel) rfl, fun _ => pm_in 898 (by decide +kernel) rfl⟩
theorem pm_F9 : pm_F 9 := ⟨pm_in 608 (by decide +kernel) rfl, pm_in 122 (by decide +kernel) rfl, by decide +kernel, pm_in 606 (by decide +kernel) rfl, fun _ => pm_in 607 (by decide +kernel) rfl⟩
theorem pm_F10 : pm_F 10 := ⟨pm_in 1110 (by decide +kernel) rfl, pm_in 122 (by decide +kernel) rfl, by decide +kernel, pm_in 1108 (by decide +kernel) rfl, fun _ => pm_in 1109 (by decide +kernel) rfl⟩
theorem pm_F11 : pm_F 11 := ⟨pm_in 895 (by decide +kernel) rfl, pm_in 122 (by decide +kernel) rfl, by decide +kernel, pm_in 893 (by decide +kernel) rfl, fun _ => pm_in 894 (by decide +kernel) rfl⟩
theorem pm_F12 : pm_F 12 := ⟨pm_in 891 (by decide +kernel) rfl, pm_in 122 (by decide +kernel) rfl, by decide +kernel, pm_in 889 (by decide +kernel) rfl, fun _ => pm_in 890 (by decide +kernel) rfl⟩
theorem pm_F13 : pm_F 13 := ⟨pm_in 887 (by decide +kernel) rfl, pm_in 122 (by decide +kernel) rfl, by decide +kernel, pm_in 885 (by decide +kernel) rfl, fun _ => pm_in 886 (by decide +kernel) rfl⟩
theorem pm_F14 : pm_F 14 := ⟨pm_in 915 (by decide +kernel) rfl, pm_in 122 (by decide +kernel) rfl, by decide +kernel, pm_in 913 (by decide +kernel) rfl, fun _ => pm_in 914 (by decide +kernel) rfl⟩
theorem pm_F15 : pm_F 15 := ⟨pm_in 911 (by decide +kernel) rfl, pm_in 122 (by decide +kernel) rfl, by decide +kernel, pm_in 909 (by decide +kernel) rfl, fun _ => pm_in 910 (by decide +kernel) rfl⟩
theorem pm_F16 : pm_F 16 := ⟨pm_in 907 (by decide +kernel) rfl, pm_in 122 (by decide +kernel) rfl, by decide +kernel, pm_in 905 (by decide +kernel) rfl, fun _ => pm_in 906 (by decide +kernel) rfl⟩
theorem pm_F17 : pm_F 17 := ⟨pm_in 903 (by decide +kernel) rfl, pm_in 122 (by decide +kernel) rfl, by decide +kernel, pm_in 901 (by decide +kernel) rfl, fun _ => pm_in 902 (by decide +kernel) rfl⟩
theorem pm_F18 : pm_F 18 := ⟨pm_in 1170 (by decide +kernel) rfl, pm_in 122 (by decide +kernel) rfl, by decide +kernel, pm_in 1168 (by decide +kernel) rfl, fun _ => pm_in 1169 (by decide +kernel) rfl⟩
theorem pm_F19 : pm_F 19 := ⟨pm_in 927 (by decide +kernel) rfl, pm_in 122 (by decide +kernel) rfl, by decide +kernel, pm_in 925 (by decide +kernel) rfl, fun _ => pm_in 926 (by decide +kernel) rfl⟩
theorem pm_F20 : pm_F 20 := ⟨pm_in 923 (by decide +kernel) rfl, pm_in 122 (by decide +kernel) rfl, by decide +kernel, pm_in 921 (by decide +kernel) rfl, fun _ => pm_in 922 (by decide +kernel) rfl⟩
theorem pm_F21 : pm_F 21 := ⟨pm_in 1059 (by decide +kernel) rfl, pm_in 122 (by decide +kernel) rfl, by decide +kernel, pm_in 1057 (by decide +kernel) rfl, fun _ => pm_in 1058 (by decide +kernel) rfl⟩
theorem pm_F22 : pm_F 22 := ⟨pm_in 931 (by decide +kernel) rfl, pm_in 122 (by decide +kernel) rfl, by decide +kernel, pm_in 929 (by decide +kernel) rfl, fun _ => pm_in 930 (by decide +kernel) rfl⟩
theorem pm_F23 : pm_F 23 := ⟨pm_in 919 (by decide +kernel) rfl, pm_in 122 (by decide +kernel) rfl, by decide +kernel, pm_in 917 (by decide +kernel) rfl, fun _ => pm_in 918 (by decide +kernel) rfl⟩
theorem pm_F24 : pm_F 24 := ⟨pm_in 958 (by decide +kernel) rfl, pm_in 122 (by decide +kernel) rfl, by decide +kernel, pm_in 956 (by decide +kernel) rfl, fun _ => pm_in 957 (by decide +kernel) rfl⟩
theorem pm_F25 : pm_F 25 := ⟨pm_in 1086 (by decide +kernel) rfl, pm_in 122 (by decide +kernel) rfl, by decide +kernel, pm_in 1084 (by decide +kernel) rfl, fun _ => pm_in 1085 (by decide +kernel) rfl⟩
theorem pm_F26 : pm_F 26 := ⟨pm_in 950 (by decide +kernel) rfl, pm_in 122 (by decide +kernel) rfl, by decide +kernel, pm_in 948 (by decide +kernel) rfl, fun _ => pm_in 949 (by decide +kernel) rfl⟩
theorem pm_F27 : pm_F 27 := ⟨pm_in 1020 (by decide +kernel) rfl, pm_in 122 (by decide +kernel) rfl, by decide +kernel, pm_in 1018 (by decide +kernel) rfl, fun _ => pm_in 1019 (by decide +kernel) rfl⟩
theorem pm_F28 : pm_F 28 := ⟨pm_in 1024 (by decide +kernel) rfl, pm_in 122 (by decide +kernel) rfl, by decide +kernel, pm_in 1023 (by decide +kernel) rfl, fun _ => pm_in 20 (by decide +kernel) rfl⟩
theorem pm_F29 : pm_F 29 := ⟨pm_in 1029 (by decide +kernel) rfl, pm_in 122 (by decide +kernel) rfl, by decide +kernel, pm_in 1028 (by decide +kernel) rfl, fun _ => pm_in 21 (by decide +kernel) rfl⟩
theorem pm_F30 : pm_F 30 := ⟨pm_in 978 (by decide +kernel) rfl, pm_in 122 (by decide +kernel) rfl, by decide +kernel, pm_in 977 (by decide +kernel) rfl, fun _ => pm_in 18 (by decide +kernel) rfl⟩
theorem pm_F31 : pm_F 31 := ⟨pm_in 974 (by decide +kernel) rfl, pm_in 122 (by decide +kernel) rfl, by decide +kernel, pm_in 972 (by decide +kernel) rfl, fun _ => pm_in 973 (by decide +kernel) rfl⟩
theorem pm_F32 : pm_F 32 := ⟨pm_in 995 (by decide +kernel) rfl, pm_in 122 (by decide +kernel) rfl, by decide +kernel, pm_in 993 (by decide +kernel) rfl, fun _ => pm_in 994 (by decide +kernel) rfl⟩
theorem pm_F33 : pm_F 33 := ⟨pm_in 1003 (by decide +kernel) rfl, pm_in 122 (by decide +kernel) rfl, by decide +kernel, pm_in 1001 (by decide +kernel) rfl, fun _ => pm_in 1002 (by decide +kernel) rfl⟩
theorem pm_F34 : pm_F 34 := ⟨pm_in 1180 (by decide +kernel) rfl, pm_in 122 (by decide +kernel) rfl, by decide +kernel, pm_in 1178 (by decide +kernel) rfl, fun _ => pm_in 1179 (by decide +kernel) rfl⟩
theorem pm_F35 : pm_F 35 := ⟨pm_in 1185 (by decide +kernel) rfl, pm_in 122 (by decide +kernel) rfl, by decide +kernel, pm_in 1183 (by decide +kernel) rfl, fun _ => pm_in 1184 (by decide +kernel) rfl⟩
theorem pm_F36 : pm_F 36 := ⟨pm_in 1234 (by decide +kernel) rfl, pm_in 122 (by decide +kernel) rfl, by decide +kernel, pm_in 1232 (by decide +kernel) rfl, fun _ => pm_in 1233 (by decide +kernel) rfl⟩
theorem pm_F37 : pm_F 37 := ⟨pm_in 967 (by decide +kernel) rfl, pm_in 122 (by decide +kernel) rfl, by decide +kernel, pm_in 965 (by decide +kernel) rfl, fun _ => pm_in 966 (by decide +kernel) rfl⟩
theorem pm_F38 : pm_F 38 := ⟨pm_in 1118 (by decide +kernel) rfl, pm_in 122 (by decide +kernel) rfl, by decide +kernel, pm_in 1116 (by decide +kernel) rfl, fun _ => pm_in 1117 (by decide +kernel) rfl⟩
theorem pm_F39 : pm_F 39 := ⟨pm_in 1129 (by decide +kernel) rfl, pm_in 122 (by decide +kernel) rfl, by decide +kernel, pm_in 1127 (by decide +kernel) rfl, fun _ => pm_in 1128 (by decide +kernel) rfl⟩
theorem pm_F40 : pm_F 40 := ⟨pm_in 379 (by decide +kernel) rfl, pm_in 126 (by decide +kernel) rfl, by decide +kernel, pm_in 378 (by decide +kernel) rfl, fun h => absurd h (by decide +kernel)⟩
theorem pm_F41 : pm_F 41 := ⟨pm_in 940 (by decide +kernel) rfl, pm_in 126 (by decide +kernel) rfl, by decide +kernel, pm_in 938 (by decide +kernel) rfl, fun _ => pm_in 939 (by decide +kernel) rfl⟩
theorem pm_F42 : pm_F 42 := ⟨pm_in 1039 (by decide +kernel) rfl, pm_in 126 (by decide +kernel) rfl, by decide +kernel, pm_in 1037 (by decide +kernel) rfl, fun _ => pm_in 1038 (by decide +kernel) rfl⟩
theorem pm_F43 : pm_F 43 := ⟨pm_in 577 (by decide +kernel) rfl, pm_in 126 (by decide +kernel) rfl, by decide +kernel, pm_in 575 (by decide +kernel) rfl, fun _ => pm_in 576 (by decide +kernel) rfl⟩
theorem pm_F44 : pm_F 44 := ⟨pm_in 227 (by decide +kernel) rfl, pm_in 124 (by decide +kernel) rfl, by decide +kernel, pm_in 226 (by decide +kernel) rfl, fun h => absurd h (by decide +kernel)⟩
theorem pm_F45 : pm_F 45 := ⟨pm_in 873 (by decide +kernel) rfl, pm_in 124 (by decide +kernel) rfl, by decide +kernel, pm_in 871 (by decide +kernel) rfl, fun _ => pm_in 872 (by decide +kernel) rfl⟩
theorem pm_F46 : pm_F 46 := ⟨pm_in 830 (by decide +kernel) rfl, pm_in 124 (by decide +kernel) rfl, by decide +kernel, pm_in 828 (by decide +kernel) rfl, fun _ => pm_in 829 (by decide +kernel) rfl⟩
theorem pm_F47 : pm_F 47 := ⟨pm_in 842 (by decide +kernel) rfl, pm_in 124 (by decide +kernel) rfl, by decide +kernel, pm_in 840 (by decide +kernel) rfl, fun _ => pm_in 841 (by decide +kernel) rfl⟩
theorem pm_F48 : pm_F 48 := ⟨pm_in 858 (by decide +kernel) rfl, pm_in 124 (by decide +kernel) rfl, by decide +kernel, pm_in 856 (by decide +kernel) rfl, fun _ => pm_in 857 (by decide +kernel) rfl⟩
theorem pm_F49 : pm_F 49 := ⟨pm_in 982 (by decide +kernel) rfl, pm_in 124 (by decide +kernel) rfl, by decide +kernel, pm_in 980 (by decide +kernel) rfl, fun _ => pm_in 981 (by decide +kernel) rfl⟩
theorem pm_F50 : pm_F 50 := ⟨pm_in 986 (by decide +kernel) rfl, pm_in 124 (by decide +kernel) rfl, by decide +kernel, pm_in 985 (by decide +kernel) rfl, fun _ => pm_in 19 (by decide +kernel) rfl⟩
theorem pm_F51 : pm_F 51 := ⟨pm_in 989 (by decide +kernel) rfl, pm_in 124 (by decide +kernel) rfl, by decide +kernel, pm_in 988 (by decide +kernel) rfl, fun h => absurd h (by decide +kernel)⟩
theorem pm_F52 : pm_F 52 := ⟨pm_in 448 (by decide +kernel) rfl, pm_in 128 (by decide +kernel) rfl, by decide +kernel, pm_in 447 (by decide +kernel) rfl, fun h => absurd h (by decide +kernel)⟩
theorem pm_F53 : pm_F 53 := ⟨pm_in 581 (by decide +kernel) rfl, pm_in 128 (by decide +kernel) rfl, by decide +kernel, pm_in 579 (by decide +kernel) rfl, fun _ => pm_in 580 (by decide +kernel) rfl⟩
theorem pm_F54 : pm_F 54 := ⟨pm_in 1214 (by decide +kernel) rfl, pm_in 128 (by decide +kernel) rfl, by decide +kernel, pm_in 1212 (by decide +kernel) rfl, fun _ => pm_in 1213 (by decide +kernel) rfl⟩
theorem pm_F55 : pm_F 55 := ⟨pm_in 1218 (by decide +kernel) rfl, pm_in 128 (by decide +kernel) rfl, by decide +kernel, pm_in 1217 (by decide +kernel) rfl, fun _ => pm_in 26 (by decide +kernel) rfl⟩
theorem pm_F56 : pm_F 56 := ⟨pm_in 1240 (by decide +kernel) rfl, pm_in 128 (by decide +kernel) rfl, by decide +kernel, pm_in 1239 (by decide +kernel) rfl, fun h => absurd h (by decide +kernel)⟩
theorem pm_F57 : pm_F 57 := ⟨pm_in 1226 (by decide +kernel) rfl, pm_in 128 (by decide +kernel) rfl, by decide +kernel, pm_in 1225 (by decide +kernel) rfl, fun _ => pm_in 27 (by decide +kernel) rfl⟩
theorem pm_F58 : pm_F 58 := ⟨pm_in 1230 (by decide +kernel) rfl, pm_in 128 (by decide +kernel) rfl, by decide +kernel, pm_in 1229 (by decide +kernel) rfl, fun h => absurd h (by decide +kernel)⟩
theorem pm_F59 : pm_F 59 := ⟨pm_in 1237 (by decide +kernel) rfl, pm_in 128 (by decide +kernel) rfl, by decide +kernel, pm_in 1236 (by decide +kernel) rfl, fun h => absurd h (by decide +kernel)⟩
theorem pm_F60 : pm_F 60 := ⟨pm_in 1267 (by decide +kernel) rfl, pm_in 128 (by decide +kernel) rfl, by decide +kernel, pm_in 1266 (by decide +kernel) rfl, fun _ => pm_in 33 (by decide +kernel) rfl⟩
theorem pm_F61 : pm_F 61 := ⟨pm_in 1244 (by decide +kernel) rfl, pm_in 128 (by decide +kernel) rfl, by decide +kernel, pm_in 1243 (by decide +kernel) rfl, fun _ => pm_in 28 (by decide +kernel) rfl⟩
theorem pm_F62 : pm_F 62 := ⟨pm_in 1248 (by decide +kernel) rfl, pm_in 128 (by decide +kernel) rfl, by decide +kernel, pm_in 1247 (by decide +kernel) rfl, fun _ => pm_in 29 (by decide +kernel) rfl⟩
theorem pm_F63 : pm_F 63 := ⟨pm_in 1253 (by decide +kernel) rfl, pm_in 128 (by decide +kernel) rfl, by decide +kernel, pm_in 1252 (by decide +kernel) rfl, fun _ => pm_in 30 (by decide +kernel) rfl⟩
theorem pm_F64 : pm_F 64 := ⟨pm_in 1258 (by decide +kernel) rfl, pm_in 128 (by decide +kernel) rfl, by decide +kernel, pm_in 1257 (by decide +kernel) rfl, fun _ => pm_in 31 (by decide +kernel) rfl⟩
theorem pm_F65 : pm_F 65 := ⟨pm_in 1262 (by decide +kernel) rfl, pm_in 128 (by decide +kernel) rfl, by decide +kernel, pm_in 1261 (by decide +kernel) rfl, fun _ => pm_in 32 (by decide +kernel) rfl⟩
theorem pm_F66 : pm_F 66 := ⟨pm_in 1271 (by decide +kernel) rfl, pm_in 128 (by decide +kernel) rfl, by decide +kernel, pm_in 1269 (by decide +kernel) rfl, fun _ => pm_in 1270 (by decide +kernel) rfl⟩
theorem pm_F67 : pm_F 67 := ⟨pm_in 1275 (by decide +kernel) rfl, pm_in 128 (by decide +kernel) rfl, by decide +kernel, pm_in 1273 (by decide +kernel) rfl, fun _ => pm_in 1274 (by decide +kernel) rfl⟩
theorem pm_F68 : pm_F 68 := ⟨pm_in 1285 (by decide +kernel) rfl, pm_in 128 (by decide +kernel) rfl, by decide +kernel, pm_in 1283 (by decide +kernel) rfl, fun _ => pm_in 1284 (by decide +kernel) rfl⟩
theorem pm_F69 : pm_F 69 := ⟨pm_in 1289 (by decide +kernel) rfl, pm_in 128 (by decide +kernel) rfl, by decide +kernel, pm_in 1287 (by decide +kernel) rfl, fun _ => pm_in 1288 (by decide +kernel) rfl⟩
theorem pm_F70 : pm_F 70 := ⟨pm_in 1297 (by decide +kernel) rfl, pm_in 128 (by decide +kernel) rfl, by decide +kernel, pm_in 1295 (by decide +kernel) rfl, fun _ => pm_in 1296 (by decide +kernel) rfl⟩
theorem pm_F71 : pm_F 71 := ⟨pm_in 1301 (by decide +kernel) rfl, pm_in 128 (by decide +kernel) rfl, by decide +kernel, pm_in 1300 (by decide +kernel) rfl, fun _ => pm_in 34 (by decide +kernel) rfl⟩
theorem pm_F72 : pm_F 72 := ⟨pm_in 1305 (by decide +kernel) rfl, pm_in 128 (by decide +kernel) rfl, by decide +kernel, pm_in 1303 (by decide +kernel) rfl, fun _ => pm_in 1304 (by decide +kernel) rfl⟩
theorem pm_F73 : pm_F 73 := ⟨pm_in 399 (by decide +kernel) rfl, pm_in 127 (by decide +kernel) rfl, by decide +kernel, pm_in 398 (by decide +kernel) rfl, fun h => absurd h (by decide +kernel)⟩
theorem pm_F74 : pm_F 74 := ⟨pm_in 639 (by decide +kernel) rfl, pm_in 127 (by decide +kernel) rfl, by decide +kernel, pm_in 637 (by decide +kernel) rfl, fun _ => pm_in 638 (by decide +kernel) rfl⟩
theorem pm_F75 : pm_F 75 := ⟨pm_in 643 (by decide +kernel) rfl, pm_in 127 (by decide +kernel) rfl, by decide +kernel, pm_in 641 (by decide +kernel) rfl, fun _ => pm_in 642 (by decide +kernel) rfl⟩
theorem pm_F76 : pm_F 76 := ⟨pm_in 655 (by decide +kernel) rfl, pm_in 127 (by decide +kernel) rfl, by decide +kernel, pm_in 653 (by decide +kernel) rfl, fun _ => pm_in 654 (by decide +kernel) rfl⟩
theorem pm_F77 : pm_F 77 := ⟨pm_in 659 (by decide +kernel) rfl, pm_in 127 (by decide +kernel) rfl, by decide +kernel, pm_in 658 (by decide +kernel) rfl, fun _ => pm_in 2 (by decide +kernel) rfl⟩
theorem pm_F78 : pm_F 78 := ⟨pm_in 726 (by decide +kernel) rfl, pm_in 127 (by decide +kernel) rfl, by decide +kernel, pm_in 725 (by decide +kernel) rfl, fun _ => pm_in 5 (by decide +kernel) rfl⟩
theorem pm_F79 : pm_F 79 := ⟨pm_in 663 (by decide +kernel) rfl, pm_in 127 (by decide +kernel) rfl, by decide +kernel, pm_in 662 (by decide +kernel) rfl, fun _ => pm_in 3 (by decide +kernel) rfl⟩
theorem pm_F80 : pm_F 80 := ⟨pm_in 666 (by decide +kernel) rfl, pm_in 127 (by decide +kernel) rfl, by decide +kernel, pm_in 665 (by decide +kernel) rfl, fun h => absurd h (by decide +kernel)⟩
theorem pm_F81 : pm_F 81 := ⟨pm_in 669 (by decide +kernel) rfl, pm_in 127 (by decide +kernel) rfl, by decide +kernel, pm_in 668 (by decide +kernel) rfl, fun h => absurd h (by decide +kernel)⟩
theorem pm_F82 : pm_F 82 := ⟨pm_in 730 (by decide +kernel) rfl, pm_in 127 (by decide +kernel) rfl, by decide +kernel, pm_in 729 (by decide +kernel) rfl, fun _ => pm_in 6 (by decide +kernel) rfl⟩
theorem pm_F83 : pm_F 83 := ⟨pm_in 673 (by decide +kernel) rfl, pm_in 127 (by decide +kernel) rfl, by decide +kernel, pm_in 672 (by decide +kernel) rfl, fun _ => pm_in 4 (by decide +kernel) rfl⟩
theorem pm_F84 : pm_F 84 := ⟨pm_in 803 (by decide +kernel) rfl, pm_in 127 (by decide +kernel) rfl, by decide +kernel, pm_in 802 (by decide +kernel) rfl, fun _ => pm_in 7 (by decide +kernel) rfl⟩
theorem pm_F85 : pm_F 85 := ⟨pm_in 815 (by decide +kernel) rfl, pm_in 127 (by decide +kernel) rfl, by decide +kernel, pm_in 814 (by decide +kernel) rfl, fun _ => pm_in 10 (by decide +kernel) rfl⟩
theorem pm_F86 : pm_F 86 := ⟨pm_in 807 (by decide +kernel) rfl, pm_in 127 (by decide +kernel) rfl, by decide +kernel, pm_in 806 (by decide +kernel) rfl, fun _ => pm_in 8 (by decide +kernel) rfl⟩
theorem pm_F87 : pm_F 87 := ⟨pm_in 811 (by decide +kernel) rfl, pm_in 127 (by decide +kernel) rfl, by decide +kernel, pm_in 810 (by decide +kernel) rfl, fun _ => pm_in 9 (by decide +kernel) rfl⟩
theorem pm_F88 : pm_F 88 := ⟨pm_in 826 (by decide +kernel) rfl, pm_in 127 (by decide +kernel) rfl, by decide +kernel, pm_in 824 (by decide +kernel) rfl, fun _ => pm_in 825 (by decide +kernel) rfl⟩
theorem pm_F89 : pm_F 89 := ⟨pm_in 850 (by decide +kernel) rfl, pm_in 127 (by decide +kernel) rfl, by decide +kernel, pm_in 849 (by decide +kernel) rfl, fun _ => pm_in 15 (by decide +kernel) rfl⟩
theorem pm_F90 : pm_F 90 := ⟨pm_in 846 (by decide +kernel) rfl, pm_in 127 (by decide +kernel) rfl, by decide +kernel, pm_in 845 (by decide +kernel) rfl, fun _ => pm_in 14 (by decide +kernel) rfl⟩
theorem pm_F91 : pm_F 91 := ⟨pm_in 854 (by decide +kernel) rfl, pm_in 127 (by decide +kernel) rfl, by decide +kernel, pm_in 853 (by decide +kernel) rfl, fun _ => pm_in 16 (by decide +kernel) rfl⟩
theorem pm_F92 : pm_F 92 := ⟨pm_in 834 (by decide +kernel) rfl, pm_in 127 (by decide +kernel) rfl, by decide +kernel, pm_in 833 (by decide +kernel) rfl, fun _ => pm_in 12 (by decide +kernel) rfl⟩
theorem pm_F93 : pm_F 93 := ⟨pm_in 838 (by decide +kernel) rfl, pm_in 127 (by decide +kernel) rfl, by decide +kernel, pm_in 837 (by decide +kernel) rfl, fun _ => pm_in 13 (by decide +kernel) rfl⟩
theorem pm_F94 : pm_F 94 := ⟨pm_in 795 (by decide +kernel) rfl, pm_in 127 (by decide +kernel) rfl, by decide +kernel, pm_in 793 (by decide +kernel) rfl, fun _ => pm_in 794 (by decide +kernel) rfl⟩
theorem pm_F95 : pm_F 95 := ⟨pm_in 819 (by decide +kernel) rfl, pm_in 127 (by decide +kernel) rfl, by decide +kernel, pm_in 818 (by decide +kernel) rfl, fun _ => pm_in 11 (by decide +kernel) rfl⟩
theorem pm_F96 : pm_F 96 := ⟨pm_in 261 (by decide +kernel) rfl, pm_in 125 (by decide +kernel) rfl, by decide +kernel, pm_in 260 (by decide +kernel) rfl, fun h => absurd h (by decide +kernel)⟩
theorem pm_F97 : pm_F 97 := ⟨pm_in 862 (by decide +kernel) rfl, pm_in 125 (by decide +kernel) rfl, by decide +kernel, pm_in 860 (by decide +kernel) rfl, fun _ => pm_in 861 (by decide +kernel) rfl⟩
theorem pm_F98 : pm_F 98 := ⟨pm_in 799 (by decide +kernel) rfl, pm_in 125 (by decide +kernel) rfl, by decide +kernel, pm_in 797 (by decide +kernel) rfl, fun _ => pm_in 798 (by decide +kernel) rfl⟩
theorem pm_F99 : pm_F 99 := ⟨pm_in 158 (by decide +kernel) rfl, pm_in 123 (by decide +kernel) rfl, by decide +kernel, pm_in 157 (by decide +kernel) rfl, fun h => absurd h (by decide +kernel)⟩
theorem pm_F100 : pm_F 100 := ⟨pm_in 944 (by decide +kernel) rfl, pm_in 123 (by decide +kernel) rfl, by decide +kernel, pm_in 942 (by decide +kernel) rfl, fun _ => pm_in 943 (by decide +kernel) rfl⟩
theorem pm_F101 : pm_F 101 := ⟨pm_in 521 (by decide +kernel) rfl, pm_in 130 (by decide +kernel) rfl, by decide +kernel, pm_in 520 (by decide +kernel) rfl, fun h => absurd h (by decide +kernel)⟩
theorem pm_F102 : pm_F 102 := ⟨pm_in 1142 (by decide +kernel) rfl, pm_in 130 (by decide +kernel) rfl, by decide +kernel, pm_in 1140 (by decide +kernel) rfl, fun _ => pm_in 1141 (by decide +kernel) rfl⟩
theorem pm_F103 : pm_F 103 := ⟨pm_in 1147 (by decide +kernel) rfl, pm_in 130 (by decide +kernel) rfl, by decide +kernel, pm_in 1146 (by decide +kernel) rfl, fun _ => pm_in 23 (by decide +kernel) rfl⟩
theorem pm_F104 : pm_F 104 := ⟨pm_in 1157 (by decide +kernel) rfl, pm_in 130 (by decide +kernel) rfl, by decide +kernel, pm_in 1156 (by decide +kernel) rfl, fun _ => pm_in 24 (by decide +kernel) rfl⟩
theorem pm_F105 : pm_F 105 := ⟨pm_in 144 (by decide +kernel) rfl, pm_in 121 (by decide +kernel) rfl, by decide +kernel, pm_in 143 (by decide +kernel) rfl, fun h => absurd h (by decide +kernel)⟩
theorem pm_F106 : pm_F 106 := ⟨pm_in 569 (by decide +kernel) rfl, pm_in 121 (by decide +kernel) rfl, by decide +kernel, pm_in 567 (by decide +kernel) rfl, fun _ => pm_in 568 (by decide +kernel) rfl⟩
theorem pm_F107 : pm_F 107 := ⟨pm_in 585 (by decide +kernel) rfl, pm_in 121 (by decide +kernel) rfl, by decide +kernel, pm_in 583 (by decide +kernel) rfl, fun _ => pm_in 584 (by decide +kernel) rfl⟩
theorem pm_F108 : pm_F 108 := ⟨pm_in 592 (by decide +kernel) rfl, pm_in 121 (by decide +kernel) rfl, by decide +kernel, pm_in 590 (by decide +kernel) rfl, fun _ => pm_in 591 (by decide +kernel) rfl⟩
theorem pm_F109 : pm_F 109 := ⟨pm_in 596 (by decide +kernel) rfl, pm_in 121 (by decide +kernel) rfl, by decide +kernel, pm_in 594 (by decide +kernel) rfl, fun _ => pm_in 595 (by decide +kernel) rfl⟩
theorem pm_F110 : pm_F 110 := ⟨pm_in 600 (by decide +kernel) rfl, pm_in 121 (by decide +kernel) rfl, by decide +kernel, pm_in 598 (by decide +kernel) rfl, fun _ => pm_in 599 (by decide +kernel) rfl⟩
theorem pm_F111 : pm_F 111 := ⟨pm_in 619 (by decide +kernel) rfl, pm_in 121 (by decide +kernel) rfl, by decide +kernel, pm_in 617 (by decide +kernel) rfl, fun _ => pm_in 618 (by decide +kernel) rfl⟩
theorem pm_F112 : pm_F 112 := ⟨pm_in 623 (by decide +kernel) rfl, pm_in 121 (by decide +kernel) rfl, by decide +kernel, pm_in 622 (by decide +kernel) rfl, fun h => absurd h (by decide +kernel)⟩
theorem pm_F113 : pm_F 113 := ⟨pm_in 627 (by decide +kernel) rfl, pm_in 121 (by decide +kernel) rfl, by decide +kernel, pm_in 626 (by decide +kernel) rfl, fun _ => pm_in 1 (by decide +kernel) rfl⟩
theorem pm_F114 : pm_F 114 := ⟨pm_in 631 (by decide +kernel) rfl, pm_in 121 (by decide +kernel) rfl, by decide +kernel, pm_in 629 (by decide +kernel) rfl, fun _ => pm_in 630 (by decide +kernel) rfl⟩
theorem pm_F115 : pm_F 115 := ⟨pm_in 635 (by decide +kernel) rfl, pm_in 121 (by decide +kernel) rfl, by decide +kernel, pm_in 633 (by decide +kernel) rfl, fun _ => pm_in 634 (by decide +kernel) rfl⟩
theorem pm_F116 : pm_F 116 := ⟨pm_in 647 (by decide +kernel) rfl, pm_in 121 (by decide +kernel) rfl, by decide +kernel, pm_in 645 (by decide +kernel) rfl, fun _ => pm_in 646 (by decide +kernel) rfl⟩
theorem pm_F117 : pm_F 117 := ⟨pm_in 651 (by decide +kernel) rfl, pm_in 121 (by decide +kernel) rfl, by decide +kernel, pm_in 649 (by decide +kernel) rfl, fun _ => pm_in 650 (by decide +kernel) rfl⟩
theorem pm_F118 : pm_F 118 := ⟨pm_in 879 (by decide +kernel) rfl, pm_in 121 (by decide +kernel) rfl, by decide +kernel, pm_in 877 (by decide +kernel) rfl, fun _ => pm_in 878 (by decide +kernel) rfl⟩
theorem pm_F119 : pm_F 119 := ⟨pm_in 883 (by decide +kernel) rfl, pm_in 121 (by decide +kernel) rfl, by decide +kernel, pm_in 881 (by decide +kernel) rfl, fun _ => pm_in 882 (by decide +kernel) rfl⟩
theorem pm_F120 : pm_F 120 := ⟨pm_in 954 (by decide +kernel) rfl, pm_in 121 (by decide +kernel) rfl, by decide +kernel, pm_in 952 (by decide +kernel) rfl, fun _ => pm_in 953 (by decide +kernel) rfl⟩
theorem pm_F121 : pm_F 121 := ⟨pm_in 962 (by decide +kernel) rfl, pm_in 121 (by decide +kernel) rfl, by decide +kernel, pm_in 960 (by decide +kernel) rfl, fun _ => pm_in 961 (by decide +kernel) rfl⟩
theorem pm_F122 : pm_F 122 := ⟨pm_in 999 (by decide +kernel) rfl, pm_in 121 (by decide +kernel) rfl, by decide +kernel, pm_in 997 (by decide +kernel) rfl, fun _ => pm_in 998 (by decide +kernel) rfl⟩
theorem pm_F123 : pm_F 123 := ⟨pm_in 1007 (by decide +kernel) rfl, pm_in 121 (by decide +kernel) rfl, by decide +kernel, pm_in 1005 (by decide +kernel) rfl, fun _ => pm_in 1006 (by decide +kernel) rfl⟩
theorem pm_F124 : pm_F 124 := ⟨pm_in 1011 (by decide +kernel) rfl, pm_in 121 (by decide +kernel) rfl, by decide +kernel, pm_in 1009 (by decide +kernel) rfl, fun _ => pm_in 1010 (by decide +kernel) rfl⟩
theorem pm_F125 : pm_F 125 := ⟨pm_in 1016 (by decide +kernel) rfl, pm_in 121 (by decide +kernel) rfl, by decide +kernel, pm_in 1014 (by decide +kernel) rfl, fun _ => pm_in 1015 (by decide +kernel) rfl⟩
theorem pm_F126 : pm_F 126 := ⟨pm_in 1035 (by decide +kernel) rfl, pm_in 121 (by decide +kernel) rfl, by decide +kernel, pm_in 1033 (by decide +kernel) rfl, fun _ => pm_in 1034 (by decide +kernel) rfl⟩
theorem pm_F127 : pm_F 127 := ⟨pm_in 1043 (by decide +kernel) rfl, pm_in 121 (by decide +kernel) rfl, by decide +kernel, pm_in 1041 (by decide +kernel) rfl, fun _ => pm_in 1042 (by decide +kernel) rfl⟩
theorem pm_F128 : pm_F 128 := ⟨pm_in 936 (by decide +kernel) rfl, pm_in 121 (by decide +kernel) rfl, by decide +kernel, pm_in 935 (by decide +kernel) rfl, fun _ => pm_in 17 (by decide +kernel) rfl⟩
theorem pm_F129 : pm_F 129 := ⟨pm_in 573 (by decide +kernel) rfl, pm_in 121 (by decide +kernel) rfl, by decide +kernel, pm_in 572 (by decide +kernel) rfl, fun _ => pm_in 0 (by decide +kernel) rfl⟩
theorem pm_F130 : pm_F 130 := ⟨pm_in 1055 (by decide +kernel) rfl, pm_in 121 (by decide +kernel) rfl, by decide +kernel, pm_in 1053 (by decide +kernel) rfl, fun _ => pm_in 1054 (by decide +kernel) rfl⟩
theorem pm_F131 : pm_F 131 := ⟨pm_in 1064 (by decide +kernel) rfl, pm_in 121 (by decide +kernel) rfl, by decide +kernel, pm_in 1062 (by decide +kernel) rfl, fun _ => pm_in 1063 (by decide +kernel) rfl⟩
theorem pm_F132 : pm_F 132 := ⟨pm_in 1068 (by decide +kernel) rfl, pm_in 121 (by decide +kernel) rfl, by decide +kernel, pm_in 1066 (by decide +kernel) rfl, fun _ => pm_in 1067 (by decide +kernel) rfl⟩
theorem pm_F133 : pm_F 133 := ⟨pm_in 1072 (by decide +kernel) rfl, pm_in 121 (by decide +kernel) rfl, by decide +kernel, pm_in 1070 (by decide +kernel) rfl, fun _ => pm_in 1071 (by decide +kernel) rfl⟩
theorem pm_F134 : pm_F 134 := ⟨pm_in 1077 (by decide +kernel) rfl, pm_in 121 (by decide +kernel) rfl, by decide +kernel, pm_in 1075 (by decide +kernel) rfl, fun _ => pm_in 1076 (by decide +kernel) rfl⟩
theorem pm_F135 : pm_F 135 := ⟨pm_in 1082 (by decide +kernel) rfl, pm_in 121 (by decide +kernel) rfl, by decide +kernel, pm_in 1080 (by decide +kernel) rfl, fun _ => pm_in 1081 (by decide +kernel) rfl⟩
theorem pm_F136 : pm_F 136 := ⟨pm_in 1090 (by decide +kernel) rfl, pm_in 121 (by decide +kernel) rfl, by decide +kernel, pm_in 1089 (by decide +kernel) rfl, fun _ => pm_in 22 (by decide +kernel) rfl⟩
theorem pm_F137 : pm_F 137 := ⟨pm_in 1094 (by decide +kernel) rfl, pm_in 121 (by decide +kernel) rfl, by decide +kernel, pm_in 1092 (by decide +kernel) rfl, fun _ => pm_in 1093 (by decide +kernel) rfl⟩
theorem pm_F138 : pm_F 138 := ⟨pm_in 1098 (by decide +kernel) rfl, pm_in 121 (by decide +kernel) rfl, by decide +kernel, pm_in 1096 (by decide +kernel) rfl, fun _ => pm_in 1097 (by decide +kernel) rfl⟩
theorem pm_F139 : pm_F 139 := ⟨pm_in 1102 (by decide +kernel) rfl, pm_in 121 (by decide +kernel) rfl, by decide +kernel, pm_in 1100 (by decide +kernel) rfl, fun _ => pm_in 1101 (by decide +kernel) rfl⟩
theorem pm_F140 : pm_F 140 := ⟨pm_in 1106 (by decide +kernel) rfl, pm_in 121 (by decide +kernel) rfl, by decide +kernel, pm_in 1104 (by decide +kernel) rfl, fun _ => pm_in 1105 (by decide +kernel) rfl⟩
theorem pm_F141 : pm_F 141 := ⟨pm_in 1114 (by decide +kernel) rfl, pm_in 121 (by decide +kernel) rfl, by decide +kernel, pm_in 1112 (by decide +kernel) rfl, fun _ => pm_in 1113 (by decide +kernel) rfl⟩
theorem pm_F142 : pm_F 142 := ⟨pm_in 1124 (by decide +kernel) rfl, pm_in 121 (by decide +kernel) rfl, by decide +kernel, pm_in 1122 (by decide +kernel) rfl, fun _ => pm_in 1123 (by decide +kernel) rfl⟩
theorem pm_F143 : pm_F 143 := ⟨pm_in 1134 (by decide +kernel) rfl, pm_in 121 (by decide +kernel) rfl, by decide +kernel, pm_in 1132 (by decide +kernel) rfl, fun _ => pm_in 1133 (by decide +kernel) rfl⟩
theorem pm_F144 : pm_F 144 := ⟨pm_in 1138 (by decide +kernel) rfl, pm_in 121 (by decide +kernel) rfl, by decide +kernel, pm_in 1136 (by decide +kernel) rfl, fun _ => pm_in 1137 (by decide +kernel) rfl⟩
theorem pm_F145 : pm_F 145 := ⟨pm_in 1161 (by decide +kernel) rfl, pm_in 121 (by decide +kernel) rfl, by decide +kernel, pm_in 1159 (by decide +kernel) rfl, fun _ => pm_in 1160 (by decide +kernel) rfl⟩
theorem pm_F146 : pm_F 146 := ⟨pm_in 1166 (by decide +kernel) rfl, pm_in 121 (by decide +kernel) rfl, by decide +kernel, pm_in 1164 (by decide +kernel) rfl, fun _ => pm_in 1165 (by decide +kernel) rfl⟩
theorem pm_F147 : pm_F 147 := ⟨pm_in 1175 (by decide +kernel) rfl, pm_in 121 (by decide +kernel) rfl, by decide +kernel, pm_in 1173 (by decide +kernel) rfl, fun _ => pm_in 1174 (by decide +kernel) rfl⟩
theorem pm_F148 : pm_F 148 := ⟨pm_in 1190 (by decide +kernel) rfl, pm_in 121 (by decide +kernel) rfl, by decide +kernel, pm_in 1188 (by decide +kernel) rfl, fun _ => pm_in 1189 (by decide +kernel) rfl⟩
theorem pm_F149 : pm_F 149 := ⟨pm_in 1206 (by decide +kernel) rfl, pm_in 121 (by decide +kernel) rfl, by decide +kernel, pm_in 1204 (by decide +kernel) rfl, fun _ => pm_in 1205 (by decide +kernel) rfl⟩
theorem pm_F150 : pm_F 150 := ⟨pm_in 1210 (by decide +kernel) rfl, pm_in 121 (by decide +kernel) rfl, by decide +kernel, pm_in 1208 (by decide +kernel) rfl, fun _ => pm_in 1209 (by decide +kernel) rfl⟩
theorem pm_F151 : pm_F 151 := ⟨pm_in 1293 (by decide +kernel) rfl, pm_in 121 (by decide +kernel) rfl, by decide +kernel, pm_in 1291 (by decide +kernel) rfl, fun _ => pm_in 1292 (by decide +kernel) rfl⟩
theorem pm_F152 : pm_F 152 := ⟨pm_in 588 (by decide +kernel) rfl, pm_in 121 (by decide +kernel) rfl, by decide +kernel, pm_in 587 (by decide +kernel) rfl, fun h => absurd h (by decide +kernel)⟩
theorem pm_F153 : pm_F 153 := ⟨pm_in 615 (by decide +kernel) rfl, pm_in 121 (by decide +kernel) rfl, by decide +kernel, pm_in 614 (by decide +kernel) rfl, fun h => absurd h (by decide +kernel)⟩
theorem pm_F154 : pm_F 154 := ⟨pm_in 822 (by decide +kernel) rfl, pm_in 121 (by decide +kernel) rfl, by decide +kernel, pm_in 821 (by decide +kernel) rfl, fun h => absurd h (by decide +kernel)⟩
theorem pm_F155 : pm_F 155 := ⟨pm_in 865 (by decide +kernel) rfl, pm_in 121 (by decide +kernel) rfl, by decide +kernel, pm_in 864 (by decide +kernel) rfl, fun h => absurd h (by decide +kernel)⟩
theorem pm_F156 : pm_F 156 := ⟨pm_in 1310 (by decide +kernel) rfl, pm_in 131 (by decide +kernel) rfl, by decide +kernel, pm_in 1309 (by decide +kernel) rfl, fun h => absurd h (by decide +kernel)⟩
theorem pm_F157 : pm_F 157 := ⟨pm_in 1440 (by decide +kernel) rfl, pm_in 131 (by decide +kernel) rfl, by decide +kernel, pm_in 1439 (by decide +kernel) rfl, fun h => absurd h (by decide +kernel)⟩
theorem pm_F158 : pm_F 158 := ⟨pm_in 1754 (by decide +kernel) rfl, pm_in 131 (by decide +kernel) rfl, by decide +kernel, pm_in 1753 (by decide +kernel) rfl, fun h => absurd h (by decide +kernel)⟩
theorem pm_F159 : pm_F 159 := ⟨pm_in 1689 (by decide +kernel) rfl, pm_in 131 (by decide +kernel) rfl, by decide +kernel, pm_in 1688 (by decide +kernel) rfl, fun h => absurd h (by decide +kernel)⟩
theorem pm_F160 : pm_F 160 := ⟨pm_in 1720 (by decide +kernel) rfl, pm_in 131 (by decide +kernel) rfl, by decide +kernel, pm_in 1719 (by decide +kernel) rfl, fun h => absurd h (by decide +kernel)⟩
theorem pm_F161 : pm_F 161 := ⟨pm_in 1464 (by decide +kernel) rfl, pm_in 131 (by decide +kernel) rfl, by decide +kernel, pm_in 1463 (by decide +kernel) rfl, fun _ => pm_in 38 (by decide +kernel) rfl⟩
theorem pm_F162 : pm_F 162 := ⟨pm_in 1460 (by decide +kernel) rfl, pm_in 131 (by decide +kernel) rfl, by decide +kernel, pm_in 1459 (by decide +kernel) rfl, fun _ => pm_in 37 (by decide +kernel) rfl⟩
theorem pm_F163 : pm_F 163 := ⟨pm_in 1472 (by decide +kernel) rfl, pm_in 131 (by decide +kernel) rfl, by decide +kernel, pm_in 1471 (by decide +kernel) rfl, fun _ => pm_in 40 (by decide +kernel) rfl⟩
theorem pm_F164 : pm_F 164 := ⟨pm_in 1444 (by decide +kernel) rfl, pm_in 131 (by decide +kernel) rfl, by decide +kernel, pm_in 1443 (by decide +kernel) rfl, fun _ => pm_in 36 (by decide +kernel) rfl⟩
theorem pm_F165 : pm_F 165 := ⟨pm_in 1717 (by decide +kernel) rfl, pm_in 131 (by decide +kernel) rfl, by decide +kernel, pm_in 1716 (by decide +kernel) rfl, fun _ => pm_in 82 (by decide +kernel) rfl⟩
theorem pm_F166 : pm_F 166 := ⟨pm_in 1468 (by decide +kernel) rfl, pm_in 131 (by decide +kernel) rfl, by decide +kernel, pm_in 1467 (by decide +kernel) rfl, fun _ => pm_in 39 (by decide +kernel) rfl⟩
theorem pm_F167 : pm_F 167 := ⟨pm_in 1433 (by decide +kernel) rfl, pm_in 131 (by decide +kernel) rfl, by decide +kernel, pm_in 1432 (by decide +kernel) rfl, fun _ => pm_in 35 (by decide +kernel) rfl⟩
theorem pm_F168 : pm_F 168 := ⟨pm_in 1429 (by decide +kernel) rfl, pm_in 131 (by decide +kernel) rfl, by decide +kernel, pm_in 1427 (by decide +kernel) rfl, fun _ => pm_in 1428 (by decide +kernel) rfl⟩
theorem pm_F169 : pm_F 169 := ⟨pm_in 1778 (by decide +kernel) rfl, pm_in 131 (by decide +kernel) rfl, by decide +kernel, pm_in 1777 (by decide +kernel) rfl, fun _ => pm_in 91 (by decide +kernel) rfl⟩
theorem pm_F170 : pm_F 170 := ⟨pm_in 1437 (by decide +kernel) rfl, pm_in 131 (by decide +kernel) rfl, by decide +kernel, pm_in 1435 (by decide +kernel) rfl, fun _ => pm_in 1436 (by decide +kernel) rfl⟩
theorem pm_F171 : pm_F 171 := ⟨pm_in 1448 (by decide +kernel) rfl, pm_in 131 (by decide +kernel) rfl, by decide +kernel, pm_in 1446 (by decide +kernel) rfl, fun _ => pm_in 1447 (by decide +kernel) rfl⟩
theorem pm_F172 : pm_F 172 := ⟨pm_in 1452 (by decide +kernel) rfl, pm_in 131 (by decide +kernel) rfl, by decide +kernel, pm_in 1450 (by decide +kernel) rfl, fun _ => pm_in 1451 (by decide +kernel) rfl⟩
theorem pm_F173 : pm_F 173 := ⟨pm_in 1456 (by decide +kernel) rfl, pm_in 131 (by decide +kernel) rfl, by decide +kernel, pm_in 1454 (by decide +kernel) rfl, fun _ => pm_in 1455 (by decide +kernel) rfl⟩
theorem pm_F174 : pm_F 174 := ⟨pm_in 1479 (by decide +kernel) rfl, pm_in 131 (by decide +kernel) rfl, by decide +kernel, pm_in 1478 (by decide +kernel) rfl, fun h => absurd h (by decide +kernel)⟩
theorem pm_F175 : pm_F 175 := ⟨pm_in 1476 (by decide +kernel) rfl, pm_in 131 (by decide +kernel) rfl, by decide +kernel, pm_in 1474 (by decide +kernel) rfl, fun _ => pm_in 1475 (by decide +kernel) rfl⟩
theorem pm_F176 : pm_F 176 := ⟨pm_in 1483 (by decide +kernel) rfl, pm_in 131 (by decide +kernel) rfl, by decide +kernel, pm_in 1481 (by decide +kernel) rfl, fun _ => pm_in 1482 (by decide +kernel) rfl⟩
theorem pm_F177 : pm_F 177 := ⟨pm_in 1487 (by decide +kernel) rfl, pm_in 131 (by decide +kernel) rfl, by decide +kernel, pm_in 1485 (by decide +kernel) rfl, fun _ => pm_in 1486 (by decide +kernel) rfl⟩
theorem pm_F178 : pm_F 178 := ⟨pm_in 1499 (by decide +kernel) rfl, pm_in 131 (by decide +kernel) rfl, by decide +kernel, pm_in 1498 (by decide +kernel) rfl, fun _ => pm_in 42 (by decide +kernel) rfl⟩
theorem pm_F179 : pm_F 179 := ⟨pm_in 1502 (by decide +kernel) rfl, pm_in 131 (by decide +kernel) rfl, by decide +kernel, pm_in 1501 (by decide +kernel) rfl, fun h => absurd h (by decide +kernel)⟩
theorem pm_F180 : pm_F 180 := ⟨pm_in 1551 (by decide +kernel) rfl, pm_in 131 (by decide +kernel) rfl, by decide +kernel, pm_in 1550 (by decide +kernel) rfl, fun h => absurd h (by decide +kernel)⟩
theorem pm_F181 : pm_F 181 := ⟨pm_in 1515 (by decide +kernel) rfl, pm_in 131 (by decide +kernel) rfl, by decide +kernel, pm_in 1514 (by decide +kernel) rfl, fun _ => pm_in 45 (by decide +kernel) rfl⟩
theorem pm_F182 : pm_F 182 := ⟨pm_in 1539 (by decide +kernel) rfl, pm_in 131 (by decide +kernel) rfl, by decide +kernel, pm_in 1538 (by decide +kernel) rfl, fun _ => pm_in 47 (by decide +kernel) rfl⟩
theorem pm_F183 : pm_F 183 := ⟨pm_in 1527 (by decide +kernel) rfl, pm_in 131 (by decide +kernel) rfl, by decide +kernel, pm_in 1526 (by decide +kernel) rfl, fun _ => pm_in 46 (by decide +kernel) rfl⟩
theorem pm_F184 : pm_F 184 := ⟨pm_in 1510 (by decide +kernel) rfl, pm_in 131 (by decide +kernel) rfl, by decide +kernel, pm_in 1509 (by decide +kernel) rfl, fun _ => pm_in 44 (by decide +kernel) rfl⟩
theorem pm_F185 : pm_F 185 := ⟨pm_in 1506 (by decide +kernel) rfl, pm_in 131 (by decide +kernel) rfl, by decide +kernel, pm_in 1505 (by decide +kernel) rfl, fun _ => pm_in 43 (by decide +kernel) rfl⟩
theorem pm_F186 : pm_F 186 := ⟨pm_in 1495 (by decide +kernel) rfl, pm_in 131 (by decide +kernel) rfl, by decide +kernel, pm_in 1494 (by decide +kernel) rfl, fun _ => pm_in 41 (by decide +kernel) rfl⟩
theorem pm_F187 : pm_F 187 := ⟨pm_in 1563 (by decide +kernel) rfl, pm_in 131 (by decide +kernel) rfl, by decide +kernel, pm_in 1562 (by decide +kernel) rfl, fun _ => pm_in 50 (by decide +kernel) rfl⟩
theorem pm_F188 : pm_F 188 := ⟨pm_in 1579 (by decide +kernel) rfl, pm_in 131 (by decide +kernel) rfl, by decide +kernel, pm_in 1578 (by decide +kernel) rfl, fun _ => pm_in 54 (by decide +kernel) rfl⟩
theorem pm_F189 : pm_F 189 := ⟨pm_in 1603 (by decide +kernel) rfl, pm_in 131 (by decide +kernel) rfl, by decide +kernel, pm_in 1602 (by decide +kernel) rfl, fun _ => pm_in 60 (by decide +kernel) rfl⟩
theorem pm_F190 : pm_F 190 := ⟨pm_in 1619 (by decide +kernel) rfl, pm_in 131 (by decide +kernel) rfl, by decide +kernel, pm_in 1618 (by decide +kernel) rfl, fun _ => pm_in 64 (by decide +kernel) rfl⟩
theorem pm_F191 : pm_F 191 := ⟨pm_in 1591 (by decide +kernel) rfl, pm_in 131 (by decide +kernel) rfl, by decide +kernel, pm_in 1590 (by decide +kernel) rfl, fun _ => pm_in 57 (by decide +kernel) rfl⟩
theorem pm_F192 : pm_F 192 := ⟨pm_in 1595 (by decide +kernel) rfl, pm_in 131 (by decide +kernel) rfl, by decide +kernel, pm_in 1594 (by decide +kernel) rfl, fun _ => pm_in 58 (by decide +kernel) rfl⟩
theorem pm_F193 : pm_F 193 := ⟨pm_in 1599 (by decide +kernel) rfl, pm_in 131 (by decide +kernel) rfl, by decide +kernel, pm_in 1598 (by decide +kernel) rfl, fun _ => pm_in 59 (by decide +kernel) rfl⟩
theorem pm_F194 : pm_F 194 := ⟨pm_in 1607 (by decide +kernel) rfl, pm_in 131 (by decide +kernel) rfl, by decide +kernel, pm_in 1606 (by decide +kernel) rfl, fun _ => pm_in 61 (by decide +kernel) rfl⟩
theorem pm_F195 : pm_F 195 := ⟨pm_in 1611 (by decide +kernel) rfl, pm_in 131 (by decide +kernel) rfl, by decide +kernel, pm_in 1610 (by decide +kernel) rfl, fun _ => pm_in 62 (by decide +kernel) rfl⟩
theorem pm_F196 : pm_F 196 := ⟨pm_in 1615 (by decide +kernel) rfl, pm_in 131 (by decide +kernel) rfl, by decide +kernel, pm_in 1614 (by decide +kernel) rfl, fun _ => pm_in 63 (by decide +kernel) rfl⟩
theorem pm_F197 : pm_F 197 := ⟨pm_in 1587 (by decide +kernel) rfl, pm_in 131 (by decide +kernel) rfl, by decide +kernel, pm_in 1586 (by decide +kernel) rfl, fun _ => pm_in 56 (by decide +kernel) rfl⟩
theorem pm_F198 : pm_F 198 := ⟨pm_in 1583 (by decide +kernel) rfl, pm_in 131 (by decide +kernel) rfl, by decide +kernel, pm_in 1582 (by decide +kernel) rfl, fun _ => pm_in 55 (by decide +kernel) rfl⟩
theorem pm_F199 : pm_F 199 := ⟨pm_in 1567 (by decide +kernel) rfl, pm_in 131 (by decide +kernel) rfl, by decide +kernel, pm_in 1566 (by decide +kernel) rfl, fun _ => pm_in 51 (by decide +kernel) rfl⟩
theorem pm_F200 : pm_F 200 := ⟨pm_in 1575 (by decide +kernel) rfl, pm_in 131 (by decide +kernel) rfl, by decide +kernel, pm_in 1574 (by decide +kernel) rfl, fun _ => pm_in 53 (by decide +kernel) rfl⟩
theorem pm_F201 : pm_F 201 := ⟨pm_in 1571 (by decide +kernel) rfl, pm_in 131 (by decide +kernel) rfl, by decide +kernel, pm_in 1570 (by decide +kernel) rfl, fun _ => pm_in 52 (by decide +kernel) rfl⟩
theorem pm_F202 : pm_F 202 := ⟨pm_in 1559 (by decide +kernel) rfl, pm_in 131 (by decide +kernel) rfl, by decide +kernel, pm_in 1558 (by decide +kernel) rfl, fun _ => pm_in 49 (by decide +kernel) rfl⟩
theorem pm_F203 : pm_F 203 := ⟨pm_in 1555 (by decide +kernel) rfl, pm_in 131 (by decide +kernel) rfl, by decide +kernel, pm_in 1554 (by decide +kernel) rfl, fun _ => pm_in 48 (by decide +kernel) rfl⟩
theorem pm_F204 : pm_F 204 := ⟨pm_in 1627 (by decide +kernel) rfl, pm_in 131 (by decide +kernel) rfl, by decide +kernel, pm_in 1626 (by decide +kernel) rfl, fun _ => pm_in 66 (by decide +kernel) rfl⟩
theorem pm_F205 : pm_F 205 := ⟨pm_in 1623 (by decide +kernel) rfl, pm_in 131 (by decide +kernel) rfl, by decide +kernel, pm_in 1622 (by decide +kernel) rfl, fun _ => pm_in 65 (by decide +kernel) rfl⟩
theorem pm_F206 : pm_F 206 := ⟨pm_in 1491 (by decide +kernel) rfl, pm_in 131 (by decide +kernel) rfl, by decide +kernel, pm_in 1489 (by decide +kernel) rfl, fun _ => pm_in 1490 (by decide +kernel) rfl⟩
theorem pm_F207 : pm_F 207 := ⟨pm_in 1631 (by decide +kernel) rfl, pm_in 131 (by decide +kernel) rfl, by decide +kernel, pm_in 1629 (by decide +kernel) rfl, fun _ => pm_in 1630 (by decide +kernel) rfl⟩
theorem pm_F208 : pm_F 208 := ⟨pm_in 1751 (by decide +kernel) rfl, pm_in 131 (by decide +kernel) rfl, by decide +kernel, pm_in 1750 (by decide +kernel) rfl, fun h => absurd h (by decide +kernel)⟩
theorem pm_F209 : pm_F 209 := ⟨pm_in 1748 (by decide +kernel) rfl, pm_in 131 (by decide +kernel) rfl, by decide +kernel, pm_in 1747 (by decide +kernel) rfl, fun _ => pm_in 89 (by decide +kernel) rfl⟩
theorem pm_F210 : pm_F 210 := ⟨pm_in 1744 (by decide +kernel) rfl, pm_in 131 (by decide +kernel) rfl, by decide +kernel, pm_in 1743 (by decide +kernel) rfl, fun _ => pm_in 88 (by decide +kernel) rfl⟩
theorem pm_F211 : pm_F 211 := ⟨pm_in 1740 (by decide +kernel) rfl, pm_in 131 (by decide +kernel) rfl, by decide +kernel, pm_in 1739 (by decide +kernel) rfl, fun _ => pm_in 87 (by decide +kernel) rfl⟩
theorem pm_F212 : pm_F 212 := ⟨pm_in 1736 (by decide +kernel) rfl, pm_in 131 (by decide +kernel) rfl, by decide +kernel, pm_in 1735 (by decide +kernel) rfl, fun _ => pm_in 86 (by decide +kernel) rfl⟩
theorem pm_F213 : pm_F 213 := ⟨pm_in 1732 (by decide +kernel) rfl, pm_in 131 (by decide +kernel) rfl, by decide +kernel, pm_in 1731 (by decide +kernel) rfl, fun _ => pm_in 85 (by decide +kernel) rfl⟩
theorem pm_F214 : pm_F 214 := ⟨pm_in 1866 (by decide +kernel) rfl, pm_in 131 (by decide +kernel) rfl, by decide +kernel, pm_in 1865 (by decide +kernel) rfl, fun _ => pm_in 102 (by decide +kernel) rfl⟩
theorem pm_F215 : pm_F 215 := ⟨pm_in 1674 (by decide +kernel) rfl, pm_in 131 (by decide +kernel) rfl, by decide +kernel, pm_in 1673 (by decide +kernel) rfl, fun _ => pm_in 74 (by decide +kernel) rfl⟩
theorem pm_F216 : pm_F 216 := ⟨pm_in 1670 (by decide +kernel) rfl, pm_in 131 (by decide +kernel) rfl, by decide +kernel, pm_in 1669 (by decide +kernel) rfl, fun h => absurd h (by decide +kernel)⟩
theorem pm_F217 : pm_F 217 := ⟨pm_in 1667 (by decide +kernel) rfl, pm_in 131 (by decide +kernel) rfl, by decide +kernel, pm_in 1666 (by decide +kernel) rfl, fun _ => pm_in 73 (by decide +kernel) rfl⟩
theorem pm_F218 : pm_F 218 := ⟨pm_in 1663 (by decide +kernel) rfl, pm_in 131 (by decide +kernel) rfl, by decide +kernel, pm_in 1662 (by decide +kernel) rfl, fun _ => pm_in 72 (by decide +kernel) rfl⟩
theorem pm_F219 : pm_F 219 := ⟨pm_in 1678 (by decide +kernel) rfl, pm_in 131 (by decide +kernel) rfl, by decide +kernel, pm_in 1677 (by decide +kernel) rfl, fun _ => pm_in 75 (by decide +kernel) rfl⟩
theorem pm_F220 : pm_F 220 := ⟨pm_in 1788 (by decide +kernel) rfl, pm_in 131 (by decide +kernel) rfl, by decide +kernel, pm_in 1787 (by decide +kernel) rfl, fun _ => pm_in 92 (by decide +kernel) rfl⟩
theorem pm_F221 : pm_F 221 := ⟨pm_in 1686 (by decide +kernel) rfl, pm_in 131 (by decide +kernel) rfl, by decide +kernel, pm_in 1685 (by decide +kernel) rfl, fun _ => pm_in 77 (by decide +kernel) rfl⟩
theorem pm_F222 : pm_F 222 := ⟨pm_in 1647 (by decide +kernel) rfl, pm_in 131 (by decide +kernel) rfl, by decide +kernel, pm_in 1646 (by decide +kernel) rfl, fun _ => pm_in 68 (by decide +kernel) rfl⟩
theorem pm_F223 : pm_F 223 := ⟨pm_in 1651 (by decide +kernel) rfl, pm_in 131 (by decide +kernel) rfl, by decide +kernel, pm_in 1650 (by decide +kernel) rfl, fun _ => pm_in 69 (by decide +kernel) rfl⟩
theorem pm_F224 : pm_F 224 := ⟨pm_in 1643 (by decide +kernel) rfl, pm_in 131 (by decide +kernel) rfl, by decide +kernel, pm_in 1642 (by decide +kernel) rfl, fun _ => pm_in 67 (by decide +kernel) rfl⟩
theorem pm_F225 : pm_F 225 := ⟨pm_in 1655 (by decide +kernel) rfl, pm_in 131 (by decide +kernel) rfl, by decide +kernel, pm_in 1654 (by decide +kernel) rfl, fun _ => pm_in 70 (by decide +kernel) rfl⟩
theorem pm_F226 : pm_F 226 := ⟨pm_in 1659 (by decide +kernel) rfl, pm_in 131 (by decide +kernel) rfl, by decide +kernel, pm_in 1658 (by decide +kernel) rfl, fun _ => pm_in 71 (by decide +kernel) rfl⟩
theorem pm_F227 : pm_F 227 := ⟨pm_in 1682 (by decide +kernel) rfl, pm_in 131 (by decide +kernel) rfl, by decide +kernel, pm_in 1681 (by decide +kernel) rfl, fun _ => pm_in 76 (by decide +kernel) rfl⟩
theorem pm_F228 : pm_F 228 := ⟨pm_in 1693 (by decide +kernel) rfl, pm_in 131 (by decide +kernel) rfl, by decide +kernel, pm_in 1692 (by decide +kernel) rfl, fun _ => pm_in 78 (by decide +kernel) rfl⟩
theorem pm_F229 : pm_F 229 := ⟨pm_in 1635 (by decide +kernel) rfl, pm_in 131 (by decide +kernel) rfl, by decide +kernel, pm_in 1633 (by decide +kernel) rfl, fun _ => pm_in 1634 (by decide +kernel) rfl⟩
theorem pm_F230 : pm_F 230 := ⟨pm_in 1697 (by decide +kernel) rfl, pm_in 131 (by decide +kernel) rfl, by decide +kernel, pm_in 1696 (by decide +kernel) rfl, fun _ => pm_in 79 (by decide +kernel) rfl⟩
theorem pm_F231 : pm_F 231 := ⟨pm_in 1639 (by decide +kernel) rfl, pm_in 131 (by decide +kernel) rfl, by decide +kernel, pm_in 1637 (by decide +kernel) rfl, fun _ => pm_in 1638 (by decide +kernel) rfl⟩
theorem pm_F232 : pm_F 232 := ⟨pm_in 1705 (by decide +kernel) rfl, pm_in 131 (by decide +kernel) rfl, by decide +kernel, pm_in 1704 (by decide +kernel) rfl, fun _ => pm_in 80 (by decide +kernel) rfl⟩
theorem pm_F233 : pm_F 233 := ⟨pm_in 1701 (by decide +kernel) rfl, pm_in 131 (by decide +kernel) rfl, by decide +kernel, pm_in 1699 (by decide +kernel) rfl, fun _ => pm_in 1700 (by decide +kernel) rfl⟩
theorem pm_F234 : pm_F 234 := ⟨pm_in 1728 (by decide +kernel) rfl, pm_in 131 (by decide +kernel) rfl, by decide +kernel, pm_in 1727 (by decide +kernel) rfl, fun _ => pm_in 84 (by decide +kernel) rfl⟩
theorem pm_F235 : pm_F 235 := ⟨pm_in 1724 (by decide +kernel) rfl, pm_in 131 (by decide +kernel) rfl, by decide +kernel, pm_in 1723 (by decide +kernel) rfl, fun _ => pm_in 83 (by decide +kernel) rfl⟩
theorem pm_F236 : pm_F 236 := ⟨pm_in 1713 (by decide +kernel) rfl, pm_in 131 (by decide +kernel) rfl, by decide +kernel, pm_in 1712 (by decide +kernel) rfl, fun _ => pm_in 81 (by decide +kernel) rfl⟩
theorem pm_F237 : pm_F 237 := ⟨pm_in 1709 (by decide +kernel) rfl, pm_in 131 (by decide +kernel) rfl, by decide +kernel, pm_in 1707 (by decide +kernel) rfl, fun _ => pm_in 1708 (by decide +kernel) rfl⟩
theorem pm_F238 : pm_F 238 := ⟨pm_in 1758 (by decide +kernel) rfl, pm_in 131 (by decide +kernel) rfl, by decide +kernel, pm_in 1756 (by decide +kernel) rfl, fun _ => pm_in 1757 (by decide +kernel) rfl⟩
theorem pm_F239 : pm_F 239 := ⟨pm_in 1762 (by decide +kernel) rfl, pm_in 131 (by decide +kernel) rfl, by decide +kernel, pm_in 1760 (by decide +kernel) rfl, fun _ => pm_in 1761 (by decide +kernel) rfl⟩
theorem pm_F240 : pm_F 240 := ⟨pm_in 1766 (by decide +kernel) rfl, pm_in 131 (by decide +kernel) rfl, by decide +kernel, pm_in 1764 (by decide +kernel) rfl, fun _ => pm_in 1765 (by decide +kernel) rfl⟩
theorem pm_F241 : pm_F 241 := ⟨pm_in 1774 (by decide +kernel) rfl, pm_in 131 (by decide +kernel) rfl, by decide +kernel, pm_in 1773 (by decide +kernel) rfl, fun _ => pm_in 90 (by decide +kernel) rfl⟩
theorem pm_F242 : pm_F 242 := ⟨pm_in 1770 (by decide +kernel) rfl, pm_in 131 (by decide +kernel) rfl, by decide +kernel, pm_in 1768 (by decide +kernel) rfl, fun _ => pm_in 1769 (by decide +kernel) rfl⟩
theorem pm_F243 : pm_F 243 := ⟨pm_in 1784 (by decide +kernel) rfl, pm_in 131 (by decide +kernel) rfl, by decide +kernel, pm_in 1782 (by decide +kernel) rfl, fun _ => pm_in 1783 (by decide +kernel) rfl⟩
theorem pm_F244 : pm_F 244 := ⟨pm_in 1792 (by decide +kernel) rfl, pm_in 131 (by decide +kernel) rfl, by decide +kernel, pm_in 1790 (by decide +kernel) rfl, fun _ => pm_in 1791 (by decide +kernel) rfl⟩
theorem pm_F245 : pm_F 245 := ⟨pm_in 1796 (by decide +kernel) rfl, pm_in 131 (by decide +kernel) rfl, by decide +kernel, pm_in 1794 (by decide +kernel) rfl, fun _ => pm_in 1795 (by decide +kernel) rfl⟩
theorem pm_F246 : pm_F 246 := ⟨pm_in 1800 (by decide +kernel) rfl, pm_in 131 (by decide +kernel) rfl, by decide +kernel, pm_in 1798 (by decide +kernel) rfl, fun _ => pm_in 1799 (by decide +kernel) rfl⟩
theorem pm_F247 : pm_F 247 := ⟨pm_in 1804 (by decide +kernel) rfl, pm_in 131 (by decide +kernel) rfl, by decide +kernel, pm_in 1802 (by decide +kernel) rfl, fun _ => pm_in 1803 (by decide +kernel) rfl⟩
theorem pm_F248 : pm_F 248 := ⟨pm_in 1813 (by decide +kernel) rfl, pm_in 131 (by decide +kernel) rfl, by decide +kernel, pm_in 1812 (by decide +kernel) rfl, fun _ => pm_in 93 (by decide +kernel) rfl⟩
theorem pm_F249 : pm_F 249 := ⟨pm_in 1809 (by decide +kernel) rfl, pm_in 131 (by decide +kernel) rfl, by decide +kernel, pm_in 1807 (by decide +kernel) rfl, fun _ => pm_in 1808 (by decide +kernel) rfl⟩
theorem pm_F250 : pm_F 250 := ⟨pm_in 1817 (by decide +kernel) rfl, pm_in 131 (by decide +kernel) rfl, by decide +kernel, pm_in 1815 (by decide +kernel) rfl, fun _ => pm_in 1816 (by decide +kernel) rfl⟩
theorem pm_F251 : pm_F 251 := ⟨pm_in 1825 (by decide +kernel) rfl, pm_in 131 (by decide +kernel) rfl, by decide +kernel, pm_in 1824 (by decide +kernel) rfl, fun _ => pm_in 94 (by decide +kernel) rfl⟩
theorem pm_F252 : pm_F 252 := ⟨pm_in 1821 (by decide +kernel) rfl, pm_in 131 (by decide +kernel) rfl, by decide +kernel, pm_in 1819 (by decide +kernel) rfl, fun _ => pm_in 1820 (by decide +kernel) rfl⟩
theorem pm_F253 : pm_F 253 := ⟨pm_in 1833 (by decide +kernel) rfl, pm_in 131 (by decide +kernel) rfl, by decide +kernel, pm_in 1832 (by decide +kernel) rfl, fun _ => pm_in 95 (by decide +kernel) rfl⟩
theorem pm_F254 : pm_F 254 := ⟨pm_in 1829 (by decide +kernel) rfl, pm_in 131 (by decide +kernel) rfl, by decide +kernel, pm_in 1827 (by decide +kernel) rfl, fun _ => pm_in 1828 (by decide +kernel) rfl⟩
theorem pm_F255 : pm_F 255 := ⟨pm_in 1850 (by decide +kernel) rfl, pm_in 131 (by decide +kernel) rfl, by decide +kernel, pm_in 1849 (by decide +kernel) rfl, fun _ => pm_in 98 (by decide +kernel) rfl⟩
theorem pm_F256 : pm_F 256 := ⟨pm_in 1846 (by decide +kernel) rfl, pm_in 131 (by decide +kernel) rfl, by decide +kernel, pm_in 1845 (by decide +kernel) rfl, fun _ => pm_in 97 (by decide +kernel) rfl⟩
theorem pm_F257 : pm_F 257 := ⟨pm_in 1841 (by decide +kernel) rfl, pm_in 131 (by decide +kernel) rfl, by decide +kernel, pm_in 1840 (by decide +kernel) rfl, fun _ => pm_in 96 (by decide +kernel) rfl⟩
theorem pm_F258 : pm_F 258 := ⟨pm_in 1862 (by decide +kernel) rfl, pm_in 131 (by decide +kernel) rfl, by decide +kernel, pm_in 1861 (by decide +kernel) rfl, fun _ => pm_in 101 (by decide +kernel) rfl⟩
theorem pm_F259 : pm_F 259 := ⟨pm_in 1858 (by decide +kernel) rfl, pm_in 131 (by decide +kernel) rfl, by decide +kernel, pm_in 1857 (by decide +kernel) rfl, fun _ => pm_in 100 (by decide +kernel) rfl⟩
theorem pm_F260 : pm_F 260 := ⟨pm_in 1874 (by decide +kernel) rfl, pm_in 131 (by decide +kernel) rfl, by decide +kernel, pm_in 1873 (by decide +kernel) rfl, fun _ => pm_in 104 (by decide +kernel) rfl⟩
theorem pm_F261 : pm_F 261 := ⟨pm_in 1882 (by decide +kernel) rfl, pm_in 131 (by decide +kernel) rfl, by decide +kernel, pm_in 1881 (by decide +kernel) rfl, fun _ => pm_in 106 (by decide +kernel) rfl⟩
theorem pm_F262 : pm_F 262 := ⟨pm_in 1878 (by decide +kernel) rfl, pm_in 131 (by decide +kernel) rfl, by decide +kernel, pm_in 1877 (by decide +kernel) rfl, fun _ => pm_in 105 (by decide +kernel) rfl⟩
theorem pm_F263 : pm_F 263 := ⟨pm_in 1854 (by decide +kernel) rfl, pm_in 131 (by decide +kernel) rfl, by decide +kernel, pm_in 1853 (by decide +kernel) rfl, fun _ => pm_in 99 (by decide +kernel) rfl⟩
theorem pm_F264 : pm_F 264 := ⟨pm_in 1886 (by decide +kernel) rfl, pm_in 131 (by decide +kernel) rfl, by decide +kernel, pm_in 1885 (by decide +kernel) rfl, fun _ => pm_in 107 (by decide +kernel) rfl⟩
theorem pm_F265 : pm_F 265 := ⟨pm_in 1890 (by decide +kernel) rfl, pm_in 131 (by decide +kernel) rfl, by decide +kernel, pm_in 1889 (by decide +kernel) rfl, fun _ => pm_in 108 (by decide +kernel) rfl⟩
theorem pm_F266 : pm_F 266 := ⟨pm_in 1870 (by decide +kernel) rfl, pm_in 131 (by decide +kernel) rfl, by decide +kernel, pm_in 1869 (by decide +kernel) rfl, fun _ => pm_in 103 (by decide +kernel) rfl⟩
theorem pm_F267 : pm_F 267 := ⟨pm_in 1837 (by decide +kernel) rfl, pm_in 131 (by decide +kernel) rfl, by decide +kernel, pm_in 1835 (by decide +kernel) rfl, fun _ => pm_in 1836 (by decide +kernel) rfl⟩
theorem pm_F268 : pm_F 268 := ⟨pm_in 1894 (by decide +kernel) rfl, pm_in 131 (by decide +kernel) rfl, by decide +kernel, pm_in 1892 (by decide +kernel) rfl, fun _ => pm_in 1893 (by decide +kernel) rfl⟩
theorem pm_F269 : pm_F 269 := ⟨pm_in 1898 (by decide +kernel) rfl, pm_in 131 (by decide +kernel) rfl, by decide +kernel, pm_in 1896 (by decide +kernel) rfl, fun _ => pm_in 1897 (by decide +kernel) rfl⟩
theorem pm_F270 : pm_F 270 := ⟨pm_in 1906 (by decide +kernel) rfl, pm_in 131 (by decide +kernel) rfl, by decide +kernel, pm_in 1905 (by decide +kernel) rfl, fun _ => pm_in 109 (by decide +kernel) rfl⟩
theorem pm_F271 : pm_F 271 := ⟨pm_in 1902 (by decide +kernel) rfl, pm_in 131 (by decide +kernel) rfl, by decide +kernel, pm_in 1900 (by decide +kernel) rfl, fun _ => pm_in 1901 (by decide +kernel) rfl⟩
theorem pm_F272 : pm_F 272 := ⟨pm_in 1910 (by decide +kernel) rfl, pm_in 131 (by decide +kernel) rfl, by decide +kernel, pm_in 1908 (by decide +kernel) rfl, fun _ => pm_in 1909 (by decide +kernel) rfl⟩
theorem pm_F273 : pm_F 273 := ⟨pm_in 1918 (by decide +kernel) rfl, pm_in 131 (by decide +kernel) rfl, by decide +kernel, pm_in 1917 (by decide +kernel) rfl, fun _ => pm_in 110 (by decide +kernel) rfl⟩
theorem pm_F274 : pm_F 274 := ⟨pm_in 1921 (by decide +kernel) rfl, pm_in 131 (by decide +kernel) rfl, by decide +kernel, pm_in 1920 (by decide +kernel) rfl, fun h => absurd h (by decide +kernel)⟩
theorem pm_F275 : pm_F 275 := ⟨pm_in 1925 (by decide +kernel) rfl, pm_in 131 (by decide +kernel) rfl, by decide +kernel, pm_in 1924 (by decide +kernel) rfl, fun _ => pm_in 111 (by decide +kernel) rfl⟩
theorem pm_F276 : pm_F 276 := ⟨pm_in 1914 (by decide +kernel) rfl, pm_in 131 (by decide +kernel) rfl, by decide +kernel, pm_in 1912 (by decide +kernel) rfl, fun _ => pm_in 1913 (by decide +kernel) rfl⟩
theorem pm_F277 : pm_F 277 := ⟨pm_in 1929 (by decide +kernel) rfl, pm_in 131 (by decide +kernel) rfl, by decide +kernel, pm_in 1927 (by decide +kernel) rfl, fun _ => pm_in 1928 (by decide +kernel) rfl⟩
theorem pm_F278 : pm_F 278 := ⟨pm_in 1938 (by decide +kernel) rfl, pm_in 131 (by decide +kernel) rfl, by decide +kernel, pm_in 1937 (by decide +kernel) rfl, fun _ => pm_in 112 (by decide +kernel) rfl⟩
theorem pm_F279 : pm_F 279 := ⟨pm_in 1942 (by decide +kernel) rfl, pm_in 131 (by decide +kernel) rfl, by decide +kernel, pm_in 1941 (by decide +kernel) rfl, fun _ => pm_in 113 (by decide +kernel) rfl⟩
theorem pm_F280 : pm_F 280 := ⟨pm_in 1933 (by decide +kernel) rfl, pm_in 131 (by decide +kernel) rfl, by decide +kernel, pm_in 1931 (by decide +kernel) rfl, fun _ => pm_in 1932 (by decide +kernel) rfl⟩
theorem pm_F281 : pm_F 281 := ⟨pm_in 1954 (by decide +kernel) rfl, pm_in 131 (by decide +kernel) rfl, by decide +kernel, pm_in 1953 (by decide +kernel) rfl, fun _ => pm_in 115 (by decide +kernel) rfl⟩
theorem pm_F282 : pm_F 282 := ⟨pm_in 1950 (by decide +kernel) rfl, pm_in 131 (by decide +kernel) rfl, by decide +kernel, pm_in 1949 (by decide +kernel) rfl, fun _ => pm_in 114 (by decide +kernel) rfl⟩
theorem pm_F283 : pm_F 283 := ⟨pm_in 1958 (by decide +kernel) rfl, pm_in 131 (by decide +kernel) rfl, by decide +kernel, pm_in 1957 (by decide +kernel) rfl, fun _ => pm_in 116 (by decide +kernel) rfl⟩
theorem pm_F284 : pm_F 284 := ⟨pm_in 1946 (by decide +kernel) rfl, pm_in 131 (by decide +kernel) rfl, by decide +kernel, pm_in 1944 (by decide +kernel) rfl, fun _ => pm_in 1945 (by decide +kernel) rfl⟩
theorem pm_F285 : pm_F 285 := ⟨pm_in 1962 (by decide +kernel) rfl, pm_in 131 (by decide +kernel) rfl, by decide +kernel, pm_in 1960 (by decide +kernel) rfl, fun _ => pm_in 1961 (by decide +kernel) rfl⟩
theorem pm_F286 : pm_F 286 := ⟨pm_in 1974 (by decide +kernel) rfl, pm_in 131 (by decide +kernel) rfl, by decide +kernel, pm_in 1973 (by decide +kernel) rfl, fun _ => pm_in 118 (by decide +kernel) rfl⟩
theorem pm_F287 : pm_F 287 := ⟨pm_in 1970 (by decide +kernel) rfl, pm_in 131 (by decide +kernel) rfl, by decide +kernel, pm_in 1969 (by decide +kernel) rfl, fun _ => pm_in 117 (by decide +kernel) rfl⟩
theorem pm_F288 : pm_F 288 := ⟨pm_in 1966 (by decide +kernel) rfl, pm_in 131 (by decide +kernel) rfl, by decide +kernel, pm_in 1964 (by decide +kernel) rfl, fun _ => pm_in 1965 (by decide +kernel) rfl⟩
theorem pm_F289 : pm_F 289 := ⟨pm_in 1990 (by decide +kernel) rfl, pm_in 131 (by decide +kernel) rfl, by decide +kernel, pm_in 1989 (by decide +kernel) rfl, fun _ => pm_in 119 (by decide +kernel) rfl⟩
theorem pm_F290 : pm_F 290 := ⟨pm_in 1978 (by decide +kernel) rfl, pm_in 131 (by decide +kernel) rfl, by decide +kernel, pm_in 1976 (by decide +kernel) rfl, fun _ => pm_in 1977 (by decide +kernel) rfl⟩
theorem pm_F291 : pm_F 291 := ⟨pm_in 1982 (by decide +kernel) rfl, pm_in 131 (by decide +kernel) rfl, by decide +kernel, pm_in 1980 (by decide +kernel) rfl, fun _ => pm_in 1981 (by decide +kernel) rfl⟩
theorem pm_F292 : pm_F 292 := ⟨pm_in 1986 (by decide +kernel) rfl, pm_in 131 (by decide +kernel) rfl, by decide +kernel, pm_in 1984 (by decide +kernel) rfl, fun _ => pm_in 1985 (by decide +kernel) rfl⟩
theorem pm_F293 : pm_F 293 := ⟨pm_in 1150 (by decide +kernel) rfl, pm_in 139 (by decide +kernel) rfl, by decide +kernel, pm_in 1149 (by decide +kernel) rfl, fun h => absurd h (by decide +kernel)⟩
theorem pm_F294 : pm_F 294 := ⟨pm_in 1281 (by decide +kernel) rfl, pm_in 132 (by decide +kernel) rfl, by decide +kernel, pm_in 1280 (by decide +kernel) rfl, fun h => absurd h (by decide +kernel)⟩
theorem pm_F295 : pm_F 295 := ⟨pm_in 1278 (by decide +kernel) rfl, pm_in 132 (by decide +kernel) rfl, by decide +kernel, pm_in 1277 (by decide +kernel) rfl, fun h => absurd h (by decide +kernel)⟩
theorem pm_F296 : pm_F 296 := ⟨pm_in 970 (by decide +kernel) rfl, pm_in 132 (by decide +kernel) rfl, by decide +kernel, pm_in 969 (by decide +kernel) rfl, fun h => absurd h (by decide +kernel)⟩
theorem pm_F297 : pm_F 297 := ⟨pm_in 749 (by decide +kernel) rfl, pm_in 132 (by decide +kernel) rfl, by decide +kernel, pm_in 748 (by decide +kernel) rfl, fun h => absurd h (by decide +kernel)⟩
theorem pm_F298 : pm_F 298 := ⟨pm_in 752 (by decide +kernel) rfl, pm_in 132 (by decide +kernel) rfl, by decide +kernel, pm_in 751 (by decide +kernel) rfl, fun h => absurd h (by decide +kernel)⟩
theorem pm_F299 : pm_F 299 := ⟨pm_in 678 (by decide +kernel) rfl, pm_in 134 (by decide +kernel) rfl, by decide +kernel, pm_in 676 (by decide +kernel) rfl, fun _ => pm_in 677 (by decide +kernel) rfl⟩
theorem pm_F300 : pm_F 300 := ⟨pm_in 688 (by decide +kernel) rfl, pm_in 134 (by decide +kernel) rfl, by decide +kernel, pm_in 686 (by decide +kernel) rfl, fun _ => pm_in 687 (by decide +kernel) rfl⟩
theorem pm_F301 : pm_F 301 := ⟨pm_in 735 (by decide +kernel) rfl, pm_in 134 (by decide +kernel) rfl, by decide +kernel, pm_in 733 (by decide +kernel) rfl, fun _ => pm_in 734 (by decide +kernel) rfl⟩
theorem pm_F302 : pm_F 302 := ⟨pm_in 739 (by decide +kernel) rfl, pm_in 134 (by decide +kernel) rfl, by decide +kernel, pm_in 737 (by decide +kernel) rfl, fun _ => pm_in 738 (by decide +kernel) rfl⟩
theorem pm_F303 : pm_F 303 := ⟨pm_in 682 (by decide +kernel) rfl, pm_in 134 (by decide +kernel) rfl, by decide +kernel, pm_in 680 (by decide +kernel) rfl, fun _ => pm_in 681 (by decide +kernel) rfl⟩
theorem pm_F304 : pm_F 304 := ⟨pm_in 692 (by decide +kernel) rfl, pm_in 134 (by decide +kernel) rfl, by decide +kernel, pm_in 690 (by decide +kernel) rfl, fun _ => pm_in 691 (by decide +kernel) rfl⟩
theorem pm_F305 : pm_F 305 := ⟨pm_in 695 (by decide +kernel) rfl, pm_in 135 (by decide +kernel) rfl, by decide +kernel, pm_in 694 (by decide +kernel) rfl, fun h => absurd h (by decide +kernel)⟩
theorem pm_F306 : pm_F 306 := ⟨pm_in 746 (by decide +kernel) rfl, pm_in 135 (by decide +kernel) rfl, by decide +kernel, pm_in 745 (by decide +kernel) rfl, fun h => absurd h (by decide +kernel)⟩
theorem pm_F307 : pm_F 307 := ⟨pm_in 743 (by decide +kernel) rfl, pm_in 135 (by decide +kernel) rfl, by decide +kernel, pm_in 742 (by decide +kernel) rfl, fun h => absurd h (by decide +kernel)⟩
theorem pm_F308 : pm_F 308 := ⟨pm_in 755 (by decide +kernel) rfl, pm_in 135 (by decide +kernel) rfl, by decide +kernel, pm_in 754 (by decide +kernel) rfl, fun h => absurd h (by decide +kernel)⟩
