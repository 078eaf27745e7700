/-! MAKING: a machine of cells that come one by one; constructors as tables -/
abbrev gE : Type := Nat × Nat × (Nat → Int32) × (Nat → Option Nat)
abbrev gW : Type := List gE
abbrev gGo : Type := Nat → List Value → List Value → Nat → Nat → gW → Option gW
def g_d : gE := (99, 0, fun _ => 0, fun _ => none)
def g_at (w : gW) (k : Nat) : gE := w.getD k g_d
def g_new (k n : Nat) : gE := (k, n, fun _ => 0, fun _ => none)
def g_uI (e : gE) (j : Nat) (v : Int32) : gE := (e.1, e.2.1, upd e.2.2.1 j v, e.2.2.2)
def g_uR (e : gE) (j k : Nat) : gE := (e.1, e.2.1, e.2.2.1, va_up e.2.2.2 j (some k))
/-- values whose references lie below n -/
def g_lt (n : Nat) (v : Value) : Bool := match v with
  | .ref k => Nat.ble (k + 1) n
  | .int _ => true
  | .null => true
  | _ => false
def g_in (n : Nat) (ls st : List Value) : Bool := ls.all (g_lt n) && st.all (g_lt n)
def g_grid (n : Nat) : gW := (13, 7, fun _ => 0, fun j => if j < 7 then some (n + 1 + j) else none) :: List.replicate 7 (g_new 11 6)
def g_stp (C : Nat → Nat → gW → Option gW) (mc ms : Nat → Nat) (Rc Rs : Nat) (ri : pm_RI) (go : gGo) (ls st : List Value) (a b : Nat) (w : gW) : Option gW :=
  match ri with
  | (I, nx, c, xs, _) =>
  match I with
  | .iconst _ => go nx ls (.int c :: st) a b w
  | .bipush _ => go nx ls (.int c :: st) a b w
  | .sipush _ => go nx ls (.int c :: st) a b w
  | .iload_n i => (match ls[i.val]? with
    | some (.int x) => go nx ls (.int x :: st) a b w
    | _ => none)
  | .aload_n i => (match ls[i.val]? with
    | some (.ref x) => go nx ls (.ref x :: st) a b w
    | _ => none)
  | .istore_n i => (match st with
    | .int x :: st => bif Nat.ble (i.val + 1) ls.length then go nx (ls.set i.val (.int x)) st a b w else none
    | _ => none)
  | .iinc i _ => (match ls[i]? with
    | some (.int x) => go nx (ls.set i (.int (x + c))) st a b w
    | _ => none)
  | .dup => (match st with
    | .ref x :: st => go nx ls (.ref x :: .ref x :: st) a b w
    | _ => none)
  | .if_icmp .ge _ => (match st, xs with
    | .int y :: .int x :: st, [t] => if x < y then go nx ls st a b w else go t ls st a b w
    | _, _ => none)
  | .goto _ => (match xs with
    | [t] => go t ls st a b w
    | _ => none)
  | .new _ => (match xs with
    | [ci] => bif g_in w.length ls st && Nat.ble (a + 1) Rc && Nat.ble (b + (pm_ft ci).length) Rs then go nx ls (.ref w.length :: st) (a + 1) (b + (pm_ft ci).length) (w ++ [g_new ci (pm_ft ci).length]) else none
    | _ => none)
  | .newarray .int => (match st with
    | .int n :: st => if n < 0 then none else bif g_in w.length ls st && Nat.ble n.toNatClampNeg 3000 && Nat.ble (a + 1) Rc && Nat.ble (b + n.toNatClampNeg) Rs then go nx ls (.ref w.length :: st) (a + 1) (b + n.toNatClampNeg) (w ++ [g_new 11 n.toNatClampNeg]) else none
    | _ => none)
  | .anewarray _ => (match st with
    | .int n :: st => if n < 0 then none else bif g_in w.length ls st && Nat.ble n.toNatClampNeg 3000 && Nat.ble (a + 1) Rc && Nat.ble (b + n.toNatClampNeg) Rs then go nx ls (.ref w.length :: st) (a + 1) (b + n.toNatClampNeg) (w ++ [g_new 12 n.toNatClampNeg]) else none
    | _ => none)
  | .multianewarray _ _ => (match st with
    | .int y :: .int x :: st => if x = 7 ∧ y = 6 then (bif g_in w.length ls st && Nat.ble (a + 8) Rc && Nat.ble (b + 49) Rs then go nx ls (.ref w.length :: st) (a + 8) (b + 49) (w ++ g_grid w.length) else none) else none
    | _ => none)
  | .getfield _ => (match st, xs with
    | .ref k :: st, [ci, fk, ft] => bif Nat.ble (k + 1) w.length && Nat.beq (g_at w k).1 ci && Nat.beq (g_at w k).2.1 (pm_ft ci).length && Nat.beq ft 2 then (match (g_at w k).2.2.2 fk with
      | some i => go nx ls (.ref i :: st) a b w
      | none => none) else none
    | _, _ => none)
  | .putfield _ => (match st, xs with
    | .int v :: .ref k :: st, [ci, fk, ft] => bif Nat.ble (k + 1) w.length && Nat.beq (g_at w k).1 ci && Nat.beq (g_at w k).2.1 (pm_ft ci).length && (Nat.beq ft 0 || Nat.beq ft 1) then (if v = 0 ∨ v = 1 ∨ ft = 0 then go nx ls st a b (w.set k (g_uI (g_at w k) fk v)) else none) else none
    | .ref i :: .ref k :: st, [ci, fk, ft] => bif Nat.ble (k + 1) w.length && Nat.beq (g_at w k).1 ci && Nat.beq (g_at w k).2.1 (pm_ft ci).length && Nat.beq ft 2 && Nat.ble (i + 1) w.length then go nx ls st a b (w.set k (g_uR (g_at w k) fk i)) else none
    | _, _ => none)
  | .iastore => (match st with
    | .int v :: .int i :: .ref k :: st => bif Nat.ble (k + 1) w.length && Nat.beq (g_at w k).1 11 then (if i < 0 ∨ (g_at w k).2.1 ≤ i.toNatClampNeg then none else go nx ls st a b (w.set k (g_uI (g_at w k) i.toNatClampNeg v))) else none
    | _ => none)
  | .aastore => (match st with
    | .ref v :: .int i :: .ref k :: st => bif Nat.ble (k + 1) w.length && Nat.beq (g_at w k).1 12 && Nat.ble (v + 1) w.length && Nat.beq (g_at w v).1 7 then (if i < 0 ∨ (g_at w k).2.1 ≤ i.toNatClampNeg then none else go nx ls st a b (w.set k (g_uR (g_at w k) i.toNatClampNeg v))) else none
    | _ => none)
  | .invokespecial _ => (match st, xs with
    | .ref k :: st, [mj, q] => bif Nat.ble st.length 8 then (bif Nat.beq mj 999 then go nx ls st a b w else bif g_in w.length ls st && Nat.ble (a + mc mj) Rc && Nat.ble (b + ms mj) Rs && Nat.ble q 1 then (C mj k w).bind (fun w' => go nx ls st (a + mc mj) (b + ms mj) w') else none) else none
    | _, _ => none)
  | .return_ => (match st with
    | [] => bif Nat.beq a Rc && Nat.beq b Rs then some w else none
    | _ => none)
  | _ => none
def g_look (l : List (Nat × pm_RI)) (pc : Nat) : Option pm_RI := match l with
  | [] => none
  | q :: l => bif Nat.beq q.1 pc then some q.2 else g_look l pc
def g_run (C : Nat → Nat → gW → Option gW) (mc ms : Nat → Nat) (l : List (Nat × pm_RI)) (Rc Rs : Nat) : Nat → gGo
  | 0 => fun _ _ _ _ _ _ => none
  | n + 1 => fun pc ls st a b w => match g_look l pc with
    | none => none
    | some ri => g_stp C mc ms Rc Rs ri (g_run C mc ms l Rc Rs n) ls st a b w
def g_T0 : List (Nat × pm_RI) := [(0, .aload_n 0, 1, 0, [], []), (1, .invokespecial 3, 4, 0, [999, 0], []), (4, .aload_n 0, 5, 0, [], []), (5, .bipush 10, 7, 10, [], []), (7, .newarray .int, 9, 0, [], []), (9, .putfield 9, 12, 0, [0, 0, 2], []), (12, .return_, 13, 0, [], [])]
def g_T4 : List (Nat × pm_RI) := [(0, .aload_n 0, 1, 0, [], []), (1, .invokespecial 3, 4, 0, [999, 0], []), (4, .aload_n 0, 5, 0, [], []), (5, .new 9, 8, 0, [7], []), (8, .dup, 9, 0, [], []), (9, .invokespecial 11, 12, 0, [99, 0], []), (12, .putfield 12, 15, 0, [1, 0, 2], []), (15, .aload_n 0, 16, 0, [], []), (16, .bipush 16, 18, 16, [], []), (18, .newarray .int, 20, 0, [], []), (20, .putfield 18, 23, 0, [1, 1, 2], []), (23, .aload_n 0, 24, 0, [], []), (24, .bipush 16, 26, 16, [], []), (26, .newarray .int, 28, 0, [], []), (28, .putfield 22, 31, 0, [1, 2, 2], []), (31, .aload_n 0, 32, 0, [], []), (32, .bipush 80, 34, 80, [], []), (34, .newarray .int, 36, 0, [], []), (36, .putfield 25, 39, 0, [1, 3, 2], []), (39, .aload_n 0, 40, 0, [], []), (40, .bipush 30, 42, 30, [], []), (42, .newarray .int, 44, 0, [], []), (44, .putfield 28, 47, 0, [1, 4, 2], []), (47, .aload_n 0, 48, 0, [], []), (48, .iconst 4, 49, 4, [], []), (49, .newarray .int, 51, 0, [], []), (51, .putfield 31, 54, 0, [1, 5, 2], []), (54, .aload_n 0, 55, 0, [], []), (55, .sipush 480, 58, 480, [], []), (58, .newarray .int, 60, 0, [], []), (60, .putfield 34, 63, 0, [1, 6, 2], []), (63, .aload_n 0, 64, 0, [], []), (64, .bipush 40, 66, 40, [], []), (66, .newarray .int, 68, 0, [], []), (68, .putfield 37, 71, 0, [1, 7, 2], []), (71, .aload_n 0, 72, 0, [], []), (72, .new 40, 75, 0, [3], []), (75, .dup, 76, 0, [], []), (76, .invokespecial 42, 79, 0, [44, 1], []), (79, .putfield 43, 82, 0, [1, 8, 2], []), (82, .aload_n 0, 83, 0, [], []), (83, .new 40, 86, 0, [3], []), (86, .dup, 87, 0, [], []), (87, .invokespecial 42, 90, 0, [44, 1], []), (90, .putfield 47, 93, 0, [1, 9, 2], []), (93, .aload_n 0, 94, 0, [], []), (94, .new 50, 97, 0, [6], []), (97, .dup, 98, 0, [], []), (98, .invokespecial 52, 101, 0, [96, 1], []), (101, .putfield 53, 104, 0, [1, 10, 2], []), (104, .aload_n 0, 105, 0, [], []), (105, .bipush 9, 107, 9, [], []), (107, .newarray .int, 109, 0, [], []), (109, .putfield 57, 112, 0, [1, 15, 2], []), (112, .aload_n 0, 113, 0, [], []), (113, .bipush 16, 115, 16, [], []), (115, .newarray .int, 117, 0, [], []), (117, .putfield 60, 120, 0, [1, 16, 2], []), (120, .return_, 121, 0, [], [])]
def g_T40 : List (Nat × pm_RI) := [(0, .aload_n 0, 1, 0, [], []), (1, .invokespecial 1, 4, 0, [999, 0], []), (4, .aload_n 0, 5, 0, [], []), (5, .bipush 6, 7, 6, [], []), (7, .anewarray 9, 10, 0, [], []), (10, .putfield 11, 13, 0, [2, 0, 2], []), (13, .iconst 0, 14, 0, [], []), (14, .istore_n 1, 15, 0, [], []), (15, .iload_n 1, 16, 0, [], []), (16, .bipush 6, 18, 6, [], []), (18, .if_icmp .ge 22, 21, 0, [40], []), (21, .aload_n 0, 22, 0, [], []), (22, .getfield 11, 25, 0, [2, 0, 2], []), (25, .iload_n 1, 26, 0, [], []), (26, .new 9, 29, 0, [7], []), (29, .dup, 30, 0, [], []), (30, .invokespecial 15, 33, 0, [99, 0], []), (33, .aastore, 34, 0, [], []), (34, .iinc 1 1, 37, 1, [1], []), (37, .goto (-22), 40, 0, [15], []), (40, .return_, 41, 0, [], [])]
def g_T44 : List (Nat × pm_RI) := [(0, .aload_n 0, 1, 0, [], []), (1, .invokespecial 3, 4, 0, [999, 0], []), (4, .aload_n 0, 5, 0, [], []), (5, .sipush 400, 8, 400, [], []), (8, .newarray .int, 10, 0, [], []), (10, .putfield 11, 13, 0, [3, 0, 2], []), (13, .aload_n 0, 14, 0, [], []), (14, .bipush 16, 16, 16, [], []), (16, .newarray .int, 18, 0, [], []), (18, .putfield 15, 21, 0, [3, 1, 2], []), (21, .aload_n 0, 22, 0, [], []), (22, .bipush 16, 24, 16, [], []), (24, .newarray .int, 26, 0, [], []), (26, .putfield 18, 29, 0, [3, 2, 2], []), (29, .aload_n 0, 30, 0, [], []), (30, .bipush 16, 32, 16, [], []), (32, .newarray .int, 34, 0, [], []), (34, .putfield 21, 37, 0, [3, 3, 2], []), (37, .aload_n 0, 38, 0, [], []), (38, .bipush 16, 40, 16, [], []), (40, .newarray .int, 42, 0, [], []), (42, .putfield 24, 45, 0, [3, 4, 2], []), (45, .aload_n 0, 46, 0, [], []), (46, .bipush 32, 48, 32, [], []), (48, .newarray .int, 50, 0, [], []), (50, .putfield 27, 53, 0, [3, 5, 2], []), (53, .return_, 54, 0, [], [])]
def g_T52 : List (Nat × pm_RI) := [(0, .aload_n 0, 1, 0, [], []), (1, .invokespecial 3, 4, 0, [999, 0], []), (4, .aload_n 0, 5, 0, [], []), (5, .bipush 6, 7, 6, [], []), (7, .newarray .int, 9, 0, [], []), (9, .putfield 9, 12, 0, [4, 4, 2], []), (12, .aload_n 0, 13, 0, [], []), (13, .bipush 6, 15, 6, [], []), (15, .newarray .int, 17, 0, [], []), (17, .putfield 15, 20, 0, [4, 7, 2], []), (20, .aload_n 0, 21, 0, [], []), (21, .bipush 96, 23, 96, [], []), (23, .newarray .int, 25, 0, [], []), (25, .putfield 18, 28, 0, [4, 8, 2], []), (28, .aload_n 0, 29, 0, [], []), (29, .sipush 576, 32, 576, [], []), (32, .newarray .int, 34, 0, [], []), (34, .putfield 21, 37, 0, [4, 9, 2], []), (37, .aload_n 0, 38, 0, [], []), (38, .bipush 7, 40, 7, [], []), (40, .bipush 6, 42, 6, [], []), (42, .multianewarray 24 2, 46, 0, [], []), (46, .putfield 26, 49, 0, [4, 10, 2], []), (49, .aload_n 0, 50, 0, [], []), (50, .bipush 6, 52, 6, [], []), (52, .newarray .int, 54, 0, [], []), (54, .putfield 29, 57, 0, [4, 11, 2], []), (57, .aload_n 0, 58, 0, [], []), (58, .bipush 6, 60, 6, [], []), (60, .newarray .int, 62, 0, [], []), (62, .putfield 32, 65, 0, [4, 12, 2], []), (65, .aload_n 0, 66, 0, [], []), (66, .bipush 6, 68, 6, [], []), (68, .newarray .int, 70, 0, [], []), (70, .putfield 35, 73, 0, [4, 14, 2], []), (73, .return_, 74, 0, [], [])]
def g_T73 : List (Nat × pm_RI) := [(0, .aload_n 0, 1, 0, [], []), (1, .invokespecial 3, 4, 0, [999, 0], []), (4, .aload_n 0, 5, 0, [], []), (5, .sipush 400, 8, 400, [], []), (8, .newarray .int, 10, 0, [], []), (10, .putfield 9, 13, 0, [5, 0, 2], []), (13, .aload_n 0, 14, 0, [], []), (14, .iconst (-1), 15, -1, [], []), (15, .putfield 15, 18, 0, [5, 3, 0], []), (18, .aload_n 0, 19, 0, [], []), (19, .new 19, 22, 0, [3], []), (22, .dup, 23, 0, [], []), (23, .invokespecial 21, 26, 0, [44, 1], []), (26, .putfield 22, 29, 0, [5, 4, 2], []), (29, .aload_n 0, 30, 0, [], []), (30, .new 26, 33, 0, [6], []), (33, .dup, 34, 0, [], []), (34, .invokespecial 28, 37, 0, [96, 1], []), (37, .putfield 29, 40, 0, [5, 5, 2], []), (40, .aload_n 0, 41, 0, [], []), (41, .sipush 401, 44, 401, [], []), (44, .newarray .int, 46, 0, [], []), (46, .putfield 33, 49, 0, [5, 6, 2], []), (49, .aload_n 0, 50, 0, [], []), (50, .sipush 401, 53, 401, [], []), (53, .newarray .int, 55, 0, [], []), (55, .putfield 36, 58, 0, [5, 7, 2], []), (58, .aload_n 0, 59, 0, [], []), (59, .sipush 401, 62, 401, [], []), (62, .newarray .int, 64, 0, [], []), (64, .putfield 39, 67, 0, [5, 8, 2], []), (67, .return_, 68, 0, [], [])]
def g_T96 : List (Nat × pm_RI) := [(0, .aload_n 0, 1, 0, [], []), (1, .invokespecial 3, 4, 0, [999, 0], []), (4, .aload_n 0, 5, 0, [], []), (5, .bipush 6, 7, 6, [], []), (7, .newarray .int, 9, 0, [], []), (9, .putfield 9, 12, 0, [6, 0, 2], []), (12, .aload_n 0, 13, 0, [], []), (13, .bipush 6, 15, 6, [], []), (15, .newarray .int, 17, 0, [], []), (17, .putfield 15, 20, 0, [6, 1, 2], []), (20, .aload_n 0, 21, 0, [], []), (21, .bipush 6, 23, 6, [], []), (23, .newarray .int, 25, 0, [], []), (25, .putfield 18, 28, 0, [6, 2, 2], []), (28, .aload_n 0, 29, 0, [], []), (29, .bipush 6, 31, 6, [], []), (31, .newarray .int, 33, 0, [], []), (33, .putfield 21, 36, 0, [6, 3, 2], []), (36, .return_, 37, 0, [], [])]
def g_T99 : List (Nat × pm_RI) := [(0, .aload_n 0, 1, 0, [], []), (1, .invokespecial 3, 4, 0, [999, 0], []), (4, .aload_n 0, 5, 0, [], []), (5, .bipush 16, 7, 16, [], []), (7, .newarray .int, 9, 0, [], []), (9, .putfield 9, 12, 0, [7, 0, 2], []), (12, .aload_n 0, 13, 0, [], []), (13, .bipush 16, 15, 16, [], []), (15, .newarray .int, 17, 0, [], []), (17, .putfield 15, 20, 0, [7, 1, 2], []), (20, .aload_n 0, 21, 0, [], []), (21, .bipush 16, 23, 16, [], []), (23, .newarray .int, 25, 0, [], []), (25, .putfield 18, 28, 0, [7, 2, 2], []), (28, .aload_n 0, 29, 0, [], []), (29, .bipush 16, 31, 16, [], []), (31, .newarray .int, 33, 0, [], []), (33, .putfield 21, 36, 0, [7, 3, 2], []), (36, .aload_n 0, 37, 0, [], []), (37, .bipush 16, 39, 16, [], []), (39, .newarray .int, 41, 0, [], []), (41, .putfield 24, 44, 0, [7, 4, 2], []), (44, .aload_n 0, 45, 0, [], []), (45, .bipush 16, 47, 16, [], []), (47, .newarray .int, 49, 0, [], []), (49, .putfield 27, 52, 0, [7, 5, 2], []), (52, .aload_n 0, 53, 0, [], []), (53, .bipush 16, 55, 16, [], []), (55, .newarray .int, 57, 0, [], []), (57, .putfield 30, 60, 0, [7, 6, 2], []), (60, .aload_n 0, 61, 0, [], []), (61, .bipush 80, 63, 80, [], []), (63, .newarray .int, 65, 0, [], []), (65, .putfield 33, 68, 0, [7, 7, 2], []), (68, .iconst 0, 69, 0, [], []), (69, .istore_n 1, 70, 0, [], []), (70, .iload_n 1, 71, 0, [], []), (71, .bipush 16, 73, 16, [], []), (73, .if_icmp .ge 30, 76, 0, [103], []), (76, .aload_n 0, 77, 0, [], []), (77, .getfield 21, 80, 0, [7, 3, 2], []), (80, .iload_n 1, 81, 0, [], []), (81, .iconst (-1), 82, -1, [], []), (82, .iastore, 83, 0, [], []), (83, .aload_n 0, 84, 0, [], []), (84, .getfield 24, 87, 0, [7, 4, 2], []), (87, .iload_n 1, 88, 0, [], []), (88, .iconst (-1), 89, -1, [], []), (89, .iastore, 90, 0, [], []), (90, .aload_n 0, 91, 0, [], []), (91, .getfield 27, 94, 0, [7, 5, 2], []), (94, .iload_n 1, 95, 0, [], []), (95, .iconst (-1), 96, -1, [], []), (96, .iastore, 97, 0, [], []), (97, .iinc 1 1, 100, 1, [1], []), (100, .goto (-30), 103, 0, [70], []), (103, .return_, 104, 0, [], [])]
def g_T101 : List (Nat × pm_RI) := [(0, .aload_n 0, 1, 0, [], []), (1, .invokespecial 3, 4, 0, [999, 0], []), (4, .aload_n 0, 5, 0, [], []), (5, .bipush 16, 7, 16, [], []), (7, .newarray .int, 9, 0, [], []), (9, .putfield 9, 12, 0, [8, 0, 2], []), (12, .return_, 13, 0, [], [])]
def g_T105 : List (Nat × pm_RI) := [(0, .aload_n 0, 1, 0, [], []), (1, .invokespecial 3, 4, 0, [999, 0], []), (4, .aload_n 0, 5, 0, [], []), (5, .new 9, 8, 0, [1], []), (8, .dup, 9, 0, [], []), (9, .invokespecial 11, 12, 0, [4, 1], []), (12, .putfield 12, 15, 0, [9, 0, 2], []), (15, .aload_n 0, 16, 0, [], []), (16, .new 9, 19, 0, [1], []), (19, .dup, 20, 0, [], []), (20, .invokespecial 11, 23, 0, [4, 1], []), (23, .putfield 16, 26, 0, [9, 1, 2], []), (26, .aload_n 0, 27, 0, [], []), (27, .new 19, 30, 0, [2], []), (30, .dup, 31, 0, [], []), (31, .invokespecial 21, 34, 0, [40, 0], []), (34, .putfield 22, 37, 0, [9, 2, 2], []), (37, .aload_n 0, 38, 0, [], []), (38, .new 26, 41, 0, [5], []), (41, .dup, 42, 0, [], []), (42, .invokespecial 28, 45, 0, [73, 1], []), (45, .putfield 29, 48, 0, [9, 3, 2], []), (48, .aload_n 0, 49, 0, [], []), (49, .new 33, 52, 0, [4], []), (52, .dup, 53, 0, [], []), (53, .invokespecial 35, 56, 0, [52, 1], []), (56, .putfield 36, 59, 0, [9, 4, 2], []), (59, .aload_n 0, 60, 0, [], []), (60, .new 40, 63, 0, [0], []), (63, .dup, 64, 0, [], []), (64, .invokespecial 42, 67, 0, [0, 1], []), (67, .putfield 43, 70, 0, [9, 5, 2], []), (70, .aload_n 0, 71, 0, [], []), (71, .new 47, 74, 0, [8], []), (74, .dup, 75, 0, [], []), (75, .invokespecial 49, 78, 0, [101, 1], []), (78, .putfield 50, 81, 0, [9, 6, 2], []), (81, .aload_n 0, 82, 0, [], []), (82, .iconst 0, 83, 0, [], []), (83, .putfield 54, 86, 0, [9, 7, 1], []), (86, .return_, 87, 0, [], [])]
def g_T156 : List (Nat × pm_RI) := [(0, .aload_n 0, 1, 0, [], []), (1, .invokespecial 1, 4, 0, [999, 0], []), (4, .aload_n 0, 5, 0, [], []), (5, .sipush 2684, 8, 2684, [], []), (8, .newarray .int, 10, 0, [], []), (10, .putfield 7, 13, 0, [10, 0, 2], []), (13, .aload_n 0, 14, 0, [], []), (14, .sipush 2684, 17, 2684, [], []), (17, .newarray .int, 19, 0, [], []), (19, .putfield 13, 22, 0, [10, 1, 2], []), (22, .aload_n 0, 23, 0, [], []), (23, .sipush 1944, 26, 1944, [], []), (26, .newarray .int, 28, 0, [], []), (28, .putfield 16, 31, 0, [10, 2, 2], []), (31, .aload_n 0, 32, 0, [], []), (32, .bipush 64, 34, 64, [], []), (34, .newarray .int, 36, 0, [], []), (36, .putfield 19, 39, 0, [10, 5, 2], []), (39, .aload_n 0, 40, 0, [], []), (40, .sipush 820, 43, 820, [], []), (43, .newarray .int, 45, 0, [], []), (45, .putfield 22, 48, 0, [10, 6, 2], []), (48, .aload_n 0, 49, 0, [], []), (49, .bipush 6, 51, 6, [], []), (51, .newarray .int, 53, 0, [], []), (53, .putfield 25, 56, 0, [10, 7, 2], []), (56, .aload_n 0, 57, 0, [], []), (57, .bipush 24, 59, 24, [], []), (59, .newarray .int, 61, 0, [], []), (61, .putfield 28, 64, 0, [10, 8, 2], []), (64, .aload_n 0, 65, 0, [], []), (65, .sipush 400, 68, 400, [], []), (68, .newarray .int, 70, 0, [], []), (70, .putfield 31, 73, 0, [10, 9, 2], []), (73, .aload_n 0, 74, 0, [], []), (74, .sipush 420, 77, 420, [], []), (77, .newarray .int, 79, 0, [], []), (79, .putfield 34, 82, 0, [10, 10, 2], []), (82, .aload_n 0, 83, 0, [], []), (83, .bipush 10, 85, 10, [], []), (85, .newarray .int, 87, 0, [], []), (87, .putfield 37, 90, 0, [10, 11, 2], []), (90, .aload_n 0, 91, 0, [], []), (91, .iconst (-1), 92, -1, [], []), (92, .putfield 40, 95, 0, [10, 27, 0], []), (95, .aload_n 0, 96, 0, [], []), (96, .bipush 8, 98, 8, [], []), (98, .newarray .int, 100, 0, [], []), (100, .putfield 44, 103, 0, [10, 29, 2], []), (103, .aload_n 0, 104, 0, [], []), (104, .bipush 8, 106, 8, [], []), (106, .newarray .int, 108, 0, [], []), (108, .putfield 47, 111, 0, [10, 30, 2], []), (111, .aload_n 0, 112, 0, [], []), (112, .bipush 9, 114, 9, [], []), (114, .newarray .int, 116, 0, [], []), (116, .putfield 50, 119, 0, [10, 31, 2], []), (119, .aload_n 0, 120, 0, [], []), (120, .iconst (-1), 121, -1, [], []), (121, .putfield 53, 124, 0, [10, 34, 0], []), (124, .aload_n 0, 125, 0, [], []), (125, .iconst (-1), 126, -1, [], []), (126, .putfield 56, 129, 0, [10, 35, 0], []), (129, .aload_n 0, 130, 0, [], []), (130, .bipush 16, 132, 16, [], []), (132, .newarray .int, 134, 0, [], []), (134, .putfield 59, 137, 0, [10, 36, 2], []), (137, .aload_n 0, 138, 0, [], []), (138, .bipush 16, 140, 16, [], []), (140, .newarray .int, 142, 0, [], []), (142, .putfield 62, 145, 0, [10, 37, 2], []), (145, .return_, 146, 0, [], [])]
def g_T (mj : Nat) : List (Nat × pm_RI) := bif Nat.beq mj 0 then g_T0 else bif Nat.beq mj 4 then g_T4 else bif Nat.beq mj 40 then g_T40 else bif Nat.beq mj 44 then g_T44 else bif Nat.beq mj 52 then g_T52 else bif Nat.beq mj 73 then g_T73 else bif Nat.beq mj 96 then g_T96 else bif Nat.beq mj 99 then g_T99 else bif Nat.beq mj 101 then g_T101 else bif Nat.beq mj 105 then g_T105 else bif Nat.beq mj 156 then g_T156 else []
def g_mc (mj : Nat) : Nat := bif Nat.beq mj 0 then 1 else bif Nat.beq mj 4 then 37 else bif Nat.beq mj 40 then 55 else bif Nat.beq mj 44 then 6 else bif Nat.beq mj 52 then 15 else bif Nat.beq mj 73 then 16 else bif Nat.beq mj 96 then 4 else bif Nat.beq mj 99 then 8 else bif Nat.beq mj 101 then 1 else bif Nat.beq mj 105 then 169 else bif Nat.beq mj 156 then 15 else 0
def g_ms (mj : Nat) : Nat := bif Nat.beq mj 0 then 10 else bif Nat.beq mj 4 then 1933 else bif Nat.beq mj 40 then 1230 else bif Nat.beq mj 44 then 496 else bif Nat.beq mj 52 then 751 else bif Nat.beq mj 73 then 2137 else bif Nat.beq mj 96 then 24 else bif Nat.beq mj 99 then 192 else bif Nat.beq mj 101 then 16 else bif Nat.beq mj 105 then 8081 else bif Nat.beq mj 156 then 9113 else 0
def g_C : Nat → Nat → Nat → Nat → gW → Option gW
  | 0, _ => fun _ _ _ => none
  | d + 1, n => fun mj k w => g_run (g_C d n) g_mc g_ms (g_T mj) (g_mc mj) (g_ms mj) n 0 (pm_pad (pm_m mj).2.2.1 [.ref k]) [] 0 0 w
def g_CK : List (Nat × Nat × Nat) := [(1, 9, 7), (1, 40, 3), (1, 50, 6), (2, 9, 7), (5, 19, 3), (5, 26, 6), (9, 9, 1), (9, 19, 2), (9, 26, 5), (9, 33, 4), (9, 40, 0), (9, 47, 8), (25, 7, 9), (25, 10, 10)]
theorem g_CK_ok : ∀ q ∈ g_CK, Cond.classLink (pm_cn q.1) q.2.1 (pm_cn q.2.2) ∈ pm_tb := List.forall_mem_cons.mpr ⟨pm_in 154 (by decide +kernel) rfl, List.forall_mem_cons.mpr ⟨pm_in 223 (by decide +kernel) rfl, List.forall_mem_cons.mpr ⟨pm_in 257 (by decide +kernel) rfl, List.forall_mem_cons.mpr ⟨pm_in 381 (by decide +kernel) rfl, List.forall_mem_cons.mpr ⟨pm_in 401 (by decide +kernel) rfl, List.forall_mem_cons.mpr ⟨pm_in 403 (by decide +kernel) rfl, List.forall_mem_cons.mpr ⟨pm_in 148 (by decide +kernel) rfl, List.forall_mem_cons.mpr ⟨pm_in 375 (by decide +kernel) rfl, List.forall_mem_cons.mpr ⟨pm_in 395 (by decide +kernel) rfl, List.forall_mem_cons.mpr ⟨pm_in 444 (by decide +kernel) rfl, List.forall_mem_cons.mpr ⟨pm_in 502 (by decide +kernel) rfl, List.forall_mem_cons.mpr ⟨pm_in 520 (by decide +kernel) rfl, List.forall_mem_cons.mpr ⟨pm_in 140 (by decide +kernel) rfl, List.forall_mem_cons.mpr ⟨pm_in 1309 (by decide +kernel) rfl, fun _ h => absurd h List.not_mem_nil⟩⟩⟩⟩⟩⟩⟩⟩⟩⟩⟩⟩⟩⟩
def g_OI : List (Nat × Nat) := [(0, 3), (1, 3), (2, 1), (3, 3), (4, 3), (5, 3), (6, 3), (7, 3), (8, 3), (9, 3), (10, 1)]
theorem g_OI_ok : ∀ q ∈ g_OI, Cond.methodLink (pm_cn q.1) q.2 Lib.objectInit ∈ pm_tb := List.forall_mem_cons.mpr ⟨pm_in 507 (by decide +kernel) rfl, List.forall_mem_cons.mpr ⟨pm_in 153 (by decide +kernel) rfl, List.forall_mem_cons.mpr ⟨pm_in 380 (by decide +kernel) rfl, List.forall_mem_cons.mpr ⟨pm_in 228 (by decide +kernel) rfl, List.forall_mem_cons.mpr ⟨pm_in 449 (by decide +kernel) rfl, List.forall_mem_cons.mpr ⟨pm_in 400 (by decide +kernel) rfl, List.forall_mem_cons.mpr ⟨pm_in 262 (by decide +kernel) rfl, List.forall_mem_cons.mpr ⟨pm_in 159 (by decide +kernel) rfl, List.forall_mem_cons.mpr ⟨pm_in 525 (by decide +kernel) rfl, List.forall_mem_cons.mpr ⟨pm_in 145 (by decide +kernel) rfl, List.forall_mem_cons.mpr ⟨pm_in 1314 (by decide +kernel) rfl, fun _ h => absurd h List.not_mem_nil⟩⟩⟩⟩⟩⟩⟩⟩⟩⟩⟩
def g_ML : List (Nat × Nat × Nat) := [(1, 11, 99), (2, 15, 99), (9, 21, 40), (25, 9, 105), (25, 12, 156)]
theorem g_ML_ok : ∀ q ∈ g_ML, Cond.methodLink (pm_cn q.1) q.2.1 (pm_m q.2.2).1 ∈ pm_tb := List.forall_mem_cons.mpr ⟨pm_in 156 (by decide +kernel) rfl, List.forall_mem_cons.mpr ⟨pm_in 383 (by decide +kernel) rfl, List.forall_mem_cons.mpr ⟨pm_in 377 (by decide +kernel) rfl, List.forall_mem_cons.mpr ⟨pm_in 142 (by decide +kernel) rfl, List.forall_mem_cons.mpr ⟨pm_in 1311 (by decide +kernel) rfl, fun _ h => absurd h List.not_mem_nil⟩⟩⟩⟩⟩
def g_NL : List (Nat × Nat × Nat) := [(1, 42, 44), (1, 52, 96), (5, 21, 44), (5, 28, 96), (9, 11, 4), (9, 28, 73), (9, 35, 52), (9, 42, 0), (9, 49, 101)]
theorem g_NL_ok : ∀ q ∈ g_NL, Cond.methodLinkNest (pm_cn q.1) q.2.1 (pm_m q.2.2).1 RX9 ∈ lw_tbl := List.forall_mem_cons.mpr ⟨List.mem_of_getElem? (i := 225) (by decide +kernel), List.forall_mem_cons.mpr ⟨List.mem_of_getElem? (i := 259) (by decide +kernel), List.forall_mem_cons.mpr ⟨List.mem_of_getElem? (i := 402) (by decide +kernel), List.forall_mem_cons.mpr ⟨List.mem_of_getElem? (i := 404) (by decide +kernel), List.forall_mem_cons.mpr ⟨List.mem_of_getElem? (i := 150) (by decide +kernel), List.forall_mem_cons.mpr ⟨List.mem_of_getElem? (i := 397) (by decide +kernel), List.forall_mem_cons.mpr ⟨List.mem_of_getElem? (i := 446) (by decide +kernel), List.forall_mem_cons.mpr ⟨List.mem_of_getElem? (i := 504) (by decide +kernel), List.forall_mem_cons.mpr ⟨List.mem_of_getElem? (i := 522) (by decide +kernel), fun _ h => absurd h List.not_mem_nil⟩⟩⟩⟩⟩⟩⟩⟩⟩
def g_IN : List (Nat × Nat) := [(0, 3), (1, 17), (2, 3), (3, 8), (4, 15), (5, 11), (6, 6), (7, 12), (8, 5), (9, 8), (10, 38)]
theorem g_IN_ok : ∀ q ∈ g_IN, Cond.instantiable (pm_cn q.1) q.2 ∈ pm_tb := List.forall_mem_cons.mpr ⟨pm_in 503 (by decide +kernel) rfl, List.forall_mem_cons.mpr ⟨pm_in 149 (by decide +kernel) rfl, List.forall_mem_cons.mpr ⟨pm_in 376 (by decide +kernel) rfl, List.forall_mem_cons.mpr ⟨pm_in 224 (by decide +kernel) rfl, List.forall_mem_cons.mpr ⟨pm_in 445 (by decide +kernel) rfl, List.forall_mem_cons.mpr ⟨pm_in 396 (by decide +kernel) rfl, List.forall_mem_cons.mpr ⟨pm_in 258 (by decide +kernel) rfl, List.forall_mem_cons.mpr ⟨pm_in 155 (by decide +kernel) rfl, List.forall_mem_cons.mpr ⟨pm_in 521 (by decide +kernel) rfl, List.forall_mem_cons.mpr ⟨pm_in 141 (by decide +kernel) rfl, List.forall_mem_cons.mpr ⟨pm_in 1310 (by decide +kernel) rfl, fun _ h => absurd h List.not_mem_nil⟩⟩⟩⟩⟩⟩⟩⟩⟩⟩⟩
theorem g_oin : Cond.instanceMethod Lib.objectInit ∈ pm_tb := pm_in 146 (by decide +kernel) rfl
theorem g_oco : Cond.code Lib.objectInit ⟨#[0xb1]⟩ 1 none ∈ pm_tb := pm_in 147 (by decide +kernel) rfl
theorem g_arI : Cond.arrayClass .int ∈ pm_tb := pm_in 222 (by decide +kernel) rfl
theorem g_clA : Cond.classLink (pm_cn 2) 9 RX7 ∈ pm_tb := g_CK_ok (2, 9, 7) (by decide)
theorem g_clG : Cond.classLink (pm_cn 4) 24 "[[I" ∈ pm_tb := pm_in 450 (by decide +kernel) rfl
def g_ok (oc pc len : Nat) (ri : pm_RI) : Bool := match ri with
  | (I, nx, c, xs, ks) => Nat.beq nx (pc + len) && (match I with
    | .new i => Nat.beq len 3 && (match xs with
      | [ci] => decide ((oc, i, ci) ∈ g_CK) && Nat.ble ci 10
      | _ => false)
    | .newarray _ => Nat.beq len 2
    | .anewarray i => Nat.beq len 3 && decide (oc = 2) && decide (i = 9)
    | .multianewarray i d => Nat.beq len 4 && decide (oc = 4) && decide (i = 24) && decide (d = 2)
    | .invokespecial i => Nat.beq len 3 && (match xs with
      | [mj, q] => bif Nat.beq mj 999 then decide ((oc, i) ∈ g_OI) else bif Nat.beq q 0 then decide ((oc, i, mj) ∈ g_ML) else decide ((oc, i, mj) ∈ g_NL)
      | _ => false)
    | .putfield _ => pm_ok oc none pc len (I, nx, c, xs, ks) && (match xs with
      | [ci, fk, ft] => (Nat.beq ft 2 && (pm_T ci fk).2.2.2 && decide ((pm_T ci fk).1 = pm_cn oc)) || (!(Nat.beq ft 2) && !(pm_T ci fk).2.2.2)
      | _ => false)
    | .aastore => Nat.beq len 1
    | _ => pm_ok oc none pc len (I, nx, c, xs, ks))
def g_good (oc : Nat) (cc : ByteArray) (l : List (Nat × pm_RI)) : Prop := ∀ (pc : Nat) (ri : pm_RI), g_look l pc = some ri → ∃ len, decode cc pc = .ok (ri.1, len) ∧ g_ok oc pc len ri = true
def g_ck (oc : Nat) (cc : ByteArray) (q : Nat × pm_RI) : Bool := match decode cc q.1 with
  | .ok z => decide (z.1 = q.2.1) && g_ok oc q.1 z.2 q.2
  | .error _ => false
theorem g_good_of {oc : Nat} {cc : ByteArray} : ∀ {l : List (Nat × pm_RI)}, l.all (g_ck oc cc) = true → g_good oc cc l
  | [], _, pc, ri, h => by cases h
  | q :: l, ha, pc, ri, h => by
    rw [List.all_cons, Bool.and_eq_true] at ha
    unfold g_look at h
    cases e : Nat.beq q.1 pc with
    | true =>
      rw [e, cond_true] at h
      have hq := Nat.eq_of_beq_eq_true e
      cases h
      subst hq
      have h1 := ha.1
      unfold g_ck at h1
      cases hd : decode cc q.1 with
      | error _ => rw [hd] at h1; cases h1
      | ok z =>
        rw [hd] at h1
        have h2 := Bool.and_eq_true_iff.mp h1
        refine ⟨z.2, ?_, h2.2⟩
        rw [← of_decide_eq_true h2.1]
    | false =>
      rw [e, cond_false] at h
      exact g_good_of ha.2 pc ri h
theorem g_G0 : g_good (pm_m 0).2.2.2.2.2.1 (pm_m 0).2.1 (g_T 0) := g_good_of (by decide +kernel)
theorem g_G4 : g_good (pm_m 4).2.2.2.2.2.1 (pm_m 4).2.1 (g_T 4) := g_good_of (by decide +kernel)
theorem g_G40 : g_good (pm_m 40).2.2.2.2.2.1 (pm_m 40).2.1 (g_T 40) := g_good_of (by decide +kernel)
theorem g_G44 : g_good (pm_m 44).2.2.2.2.2.1 (pm_m 44).2.1 (g_T 44) := g_good_of (by decide +kernel)
theorem g_G52 : g_good (pm_m 52).2.2.2.2.2.1 (pm_m 52).2.1 (g_T 52) := g_good_of (by decide +kernel)
theorem g_G73 : g_good (pm_m 73).2.2.2.2.2.1 (pm_m 73).2.1 (g_T 73) := g_good_of (by decide +kernel)
theorem g_G96 : g_good (pm_m 96).2.2.2.2.2.1 (pm_m 96).2.1 (g_T 96) := g_good_of (by decide +kernel)
theorem g_G99 : g_good (pm_m 99).2.2.2.2.2.1 (pm_m 99).2.1 (g_T 99) := g_good_of (by decide +kernel)
theorem g_G101 : g_good (pm_m 101).2.2.2.2.2.1 (pm_m 101).2.1 (g_T 101) := g_good_of (by decide +kernel)
theorem g_G105 : g_good (pm_m 105).2.2.2.2.2.1 (pm_m 105).2.1 (g_T 105) := g_good_of (by decide +kernel)
theorem g_G156 : g_good (pm_m 156).2.2.2.2.2.1 (pm_m 156).2.1 (g_T 156) := g_good_of (by decide +kernel)
def g_ctor (mj : Nat) : Prop := mj = 0 ∨ mj = 4 ∨ mj = 40 ∨ mj = 44 ∨ mj = 52 ∨ mj = 73 ∨ mj = 96 ∨ mj = 99 ∨ mj = 101 ∨ mj = 105 ∨ mj = 156
theorem g_Ga : ∀ mj, g_ctor mj → g_good (pm_m mj).2.2.2.2.2.1 (pm_m mj).2.1 (g_T mj) := by
  intro mj h
  rcases h with rfl | rfl | rfl | rfl | rfl | rfl | rfl | rfl | rfl | rfl | rfl
  · exact g_G0
  · exact g_G4
  · exact g_G40
  · exact g_G44
  · exact g_G52
  · exact g_G73
  · exact g_G96
  · exact g_G99
  · exact g_G101
  · exact g_G105
  · exact g_G156
def g_x1 : Option gW := g_C 4 400 105 0 [g_new 9 8]
def g_w1 : gW := g_x1.getD []
def g_x2 : Option gW := g_C 4 400 156 170 (g_w1 ++ [g_new 10 38])
def g_w2 : gW := g_x2.getD []
/-- the number of making of a pure id -/
def g_pi (k : Nat) : Nat := bif Nat.ble k 164 then k else bif Nat.beq k 185 then 165 else k + 1
theorem g_pi_lt : ∀ k, k < 186 → g_pi k < 186 := by decide +kernel
theorem g_pi_up {k : Nat} (h : k < 186) : (k ≤ 164 ∧ g_pi k = k) ∨ (k = 185 ∧ g_pi k = 165) ∨ (164 < k ∧ k < 185 ∧ g_pi k = k + 1) := (by decide +kernel : ∀ k, k < 186 → (k ≤ 164 ∧ g_pi k = k) ∨ (k = 185 ∧ g_pi k = 165) ∨ (164 < k ∧ k < 185 ∧ g_pi k = k + 1)) k h
theorem g_pi_in {i j : Nat} (hi : i < 186) (hj : j < 186) (h : g_pi i = g_pi j) : i = j := by
  have a := g_pi_up hi
  have b := g_pi_up hj
  omega
theorem g_s1 : g_x1.isSome = true := by decide +kernel
theorem g_n1 : g_w1.length = 170 := by decide +kernel
theorem g_s2 : g_x2.isSome = true := by decide +kernel
theorem g_n2 : g_w2.length = 186 := by decide +kernel
theorem g_k2 : ∀ k, k < 186 → (g_at g_w2 (g_pi k)).1 = (pm_ob k).1 ∧ (g_at g_w2 (g_pi k)).2.1 = (pm_ob k).2.1 := by decide +kernel
theorem g_r2 : ∀ k, k < 186 → ∀ j, j < (pm_ob k).2.1 → ((pm_ob k).1 = 12 ∨ (pm_ob k).1 = 13 ∨ ((pm_ob k).1 ≤ 10 ∧ (pm_ft (pm_ob k).1).getD j 0 = 2)) → (g_at g_w2 (g_pi k)).2.2.2 j = some (g_pi ((pm_ob k).2.2.getD j 0)) := by decide +kernel
