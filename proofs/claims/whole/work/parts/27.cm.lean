/-! A machine for the constructors: all in it is known, so the kernel runs it. -/
abbrev CV : Type := Int ⊕ Option Nat
abbrev CE : Type := (Nat × Nat × (Nat → Int)) ⊕ (Nat × Nat × (Nat → Option Nat)) ⊕ (Nat × List CV)
abbrev CR : Type := (Nat × List CV × List CV × List CE) ⊕ (Nat × List CV × Nat × List CV × List CV × List CE) ⊕ List CE ⊕ Unit
abbrev k_nx (pc : Nat) (ls st : List CV) (ws : List CE) : CR := .inl (pc, ls, st, ws)
abbrev k_no : CR := .inr (.inr (.inr ()))
def dflL : List (List CV) := [[.inr none, .inr none, .inr none, .inr none, .inr none, .inr none, .inl 0, .inl 0, .inl 0, .inl 0], [.inr none, .inr none, .inr none, .inr none, .inr none, .inr none, .inl 0, .inl 0, .inl 0], [.inr none, .inr none, .inr none, .inr none, .inr none, .inr none, .inr none, .inl 0, .inl 0, .inl 0], [.inr none, .inl 0, .inl 0, .inl 0, .inl 0, .inl 0], [.inr none, .inr none, .inr none, .inl 0, .inl 0], [.inl 0, .inl 0, .inr none, .inr none], [.inr none, .inr none, .inr none, .inr none, .inl 0], [.inr none, .inr none, .inr none, .inr none, .inr none, .inr none, .inl 0, .inl 0, .inr none, .inr none, .inr none, .inr none, .inr none, .inr none, .inl 0, .inr none, .inr none, .inr none, .inl 0, .inr none, .inr none, .inr none, .inl 0, .inr none, .inr none, .inr none, .inr none, .inl 0, .inl 0, .inl 0]]
def dfl (ci : Nat) : List CV := dflL.getD ci []
def fcdL : List (List Nat) := [[2, 2, 2, 2, 2, 2, 0, 0, 0, 0], [2, 2, 2, 2, 2, 2, 0, 0, 0], [2, 2, 2, 2, 2, 2, 2, 0, 0, 0], [2, 0, 0, 0, 0, 1], [2, 2, 2, 1, 1], [0, 0, 2, 2], [2, 2, 2, 2, 0], [2, 2, 2, 2, 2, 2, 0, 0, 2, 2, 2, 2, 2, 2, 0, 2, 2, 2, 0, 2, 2, 2, 0, 2, 2, 2, 2, 0, 0, 0]]
def fcd (ci k : Nat) : Nat := (fcdL.getD ci []).getD k 9
def fitC (c : Nat) (v : CV) : Bool := match c, v with
  | 0, .inl z => rb z
  | 1, .inl z => decide (z = 0 ∨ z = 1)
  | 2, .inr (some _) => true
  | _, _ => false
def stepC (I : Instr) (inf : List Nat) (pc len : Nat) (ls st : List CV) (ws : List CE) : CR := match I with
  | .iconst n => k_nx (pc + len) ls (.inl n :: st) ws
  | .bipush n => k_nx (pc + len) ls (.inl n :: st) ws
  | .sipush n => k_nx (pc + len) ls (.inl n :: st) ws
  | .aload_n k => match ls[k.val]? with
    | some (.inr (some q)) => k_nx (pc + len) ls (.inr (some q) :: st) ws
    | _ => k_no
  | .iload_n k => match ls[k.val]? with
    | some (.inl x) => k_nx (pc + len) ls (.inl x :: st) ws
    | _ => k_no
  | .istore_n k => match st with
    | .inl x :: st => k_nx (pc + len) (ls.set k.val (.inl x)) st ws
    | _ => k_no
  | .astore_n k => match st with
    | .inr (some q) :: st => k_nx (pc + len) (ls.set k.val (.inr (some q))) st ws
    | _ => k_no
  | .iinc k d => match ls[k]? with
    | some (.inl x) => match rb (x + d) with
      | true => k_nx (pc + len) (ls.set k (.inl (x + d))) st ws
      | false => k_no
    | _ => k_no
  | .dup => match st with
    | v :: st => k_nx (pc + len) ls (v :: v :: st) ws
    | _ => k_no
  | .goto o => k_nx (tgtOf pc o) ls st ws
  | .if_icmp .ge o => match st with
    | .inl b :: .inl a :: st => match rb a && rb b with
      | true => match decide (b ≤ a) with
        | true => k_nx (tgtOf pc o) ls st ws
        | false => k_nx (pc + len) ls st ws
      | false => k_no
    | _ => k_no
  | .new _ => match inf with
    | [ci] => k_nx (pc + len) ls (.inr (some ws.length) :: st) (ws ++ [.inr (.inr (ci, dfl ci))])
    | _ => k_no
  | .newarray t => match st with
    | .inl n :: st => match decide (0 ≤ n ∧ n ≤ 100000), t with
      | true, .int => k_nx (pc + len) ls (.inr (some ws.length) :: st) (ws ++ [.inl (0, n.toNat, fun _ => 0)])
      | true, .boolean => k_nx (pc + len) ls (.inr (some ws.length) :: st) (ws ++ [.inl (1, n.toNat, fun _ => 0)])
      | _, _ => k_no
    | _ => k_no
  | .anewarray _ => match st, inf with
    | .inl n :: st, [t] => match decide (0 ≤ n ∧ n ≤ 100000) with
      | true => k_nx (pc + len) ls (.inr (some ws.length) :: st) (ws ++ [.inr (.inl (t, n.toNat, fun _ => none))])
      | false => k_no
    | _, _ => k_no
  | .invokespecial _ => match inf with
    | [] => match st with
      | .inr (some _) :: st => match Nat.ble st.length 8 with
        | true => k_nx (pc + len) ls st ws
        | false => k_no
      | _ => k_no
    | [M, na, ml] => match Nat.ble na st.length && Nat.ble (st.drop na).length 8 && Nat.ble na ml with
      | true => .inr (.inl (M, (st.take na).reverse ++ List.replicate (ml - na) (.inr none), pc + len, ls, st.drop na, ws))
      | false => k_no
    | _ => k_no
  | .putfield _ => match inf, st with
    | [k, ci], v :: .inr (some q) :: st => match ws[q]? with
      | some (.inr (.inr (ci', fs))) => match Nat.beq ci ci' && Nat.blt k fs.length && fitC (fcd ci k) v with
        | true => k_nx (pc + len) ls st (ws.set q (.inr (.inr (ci, fs.set k v))))
        | false => k_no
      | _ => k_no
    | _, _ => k_no
  | .getfield _ => match inf, st with
    | [k, ci], .inr (some q) :: st => match ws[q]? with
      | some (.inr (.inr (ci', fs))) => match Nat.beq ci ci' with
        | true => match fs[k]? with
          | some (.inr (some v)) => k_nx (pc + len) ls (.inr (some v) :: st) ws
          | _ => k_no
        | false => k_no
      | _ => k_no
    | _, _ => k_no
  | .aastore => match st with
    | .inr (some v) :: .inl j :: .inr (some q) :: st => match ws[q]?, ws[v]? with
      | some (.inr (.inl (t, n, f))), some (.inr (.inr (ci, _))) => match decide (0 ≤ j ∧ j < (n : Int)) && rb j && ((Nat.beq t 2 && Nat.beq ci 5) || (Nat.beq t 3 && Nat.beq ci 4)) with
        | true => k_nx (pc + len) ls st (ws.set q (.inr (.inl (t, n, fun k => if k = j.toNat then some v else f k))))
        | false => k_no
      | _, _ => k_no
    | _ => k_no
  | .iastore => match st with
    | .inl v :: .inl j :: .inr (some q) :: st => match ws[q]? with
      | some (.inl (t, n, f)) => match decide (0 ≤ j ∧ j < (n : Int)) && rb j && rb v && Nat.beq t 0 with
        | true => k_nx (pc + len) ls st (ws.set q (.inl (0, n, fun k => if k = j.toNat then v else f k)))
        | false => k_no
      | _ => k_no
    | _ => k_no
  | .return_ => match st with
    | [] => .inr (.inr (.inl ws))
    | _ => k_no
  | _ => k_no
def kH_init : List Ent := [(0, .aload_n 0, 1, []), (1, .invokespecial 3, 3, []), (4, .aload_n 0, 1, []), (5, .bipush 8, 2, []), (7, .putfield 9, 3, [0, 5]), (10, .aload_n 0, 1, []), (11, .bipush 8, 2, []), (13, .putfield 15, 3, [1, 5]),
  (16, .aload_n 0, 1, []), (17, .bipush 40, 2, []), (19, .newarray .int, 2, []), (21, .putfield 18, 3, [2, 5]), (24, .aload_n 0, 1, []), (25, .bipush 100, 2, []), (27, .newarray .int, 2, []), (29, .putfield 22, 3, [3, 5]),
  (32, .return_, 1, [])]
def kP_init : List Ent := [(0, .aload_n 0, 1, []), (1, .invokespecial 3, 3, []), (4, .aload_n 0, 1, []), (5, .aload_n 1, 1, []), (6, .putfield 9, 3, [0, 2]), (9, .aload_n 0, 1, []), (10, .sipush 144, 3, []), (13, .newarray .boolean, 2, []),
  (15, .putfield 15, 3, [1, 2]), (18, .aload_n 0, 1, []), (19, .sipush 144, 3, []), (22, .newarray .int, 2, []), (24, .putfield 19, 3, [2, 2]), (27, .aload_n 0, 1, []), (28, .bipush 101, 2, []), (30, .newarray .int, 2, []),
  (32, .putfield 22, 3, [3, 2]), (35, .aload_n 0, 1, []), (36, .bipush 101, 2, []), (38, .newarray .int, 2, []), (40, .putfield 25, 3, [4, 2]), (43, .aload_n 0, 1, []), (44, .bipush 101, 2, []), (46, .newarray .int, 2, []),
  (48, .putfield 28, 3, [5, 2]), (51, .aload_n 0, 1, []), (52, .bipush 101, 2, []), (54, .newarray .int, 2, []), (56, .putfield 31, 3, [6, 2]), (59, .return_, 1, [])]
def kB_init : List Ent := [(0, .aload_n 0, 1, []), (1, .invokespecial 3, 3, []), (4, .aload_n 0, 1, []), (5, .aload_n 1, 1, []), (6, .putfield 9, 3, [0, 0]), (9, .aload_n 0, 1, []), (10, .bipush 100, 2, []), (12, .newarray .int, 2, []),
  (14, .putfield 15, 3, [1, 0]), (17, .aload_n 0, 1, []), (18, .bipush 100, 2, []), (20, .newarray .int, 2, []), (22, .putfield 19, 3, [2, 0]), (25, .aload_n 0, 1, []), (26, .sipush 144, 3, []), (29, .newarray .int, 2, []),
  (31, .putfield 22, 3, [3, 0]), (34, .aload_n 0, 1, []), (35, .sipush 144, 3, []), (38, .newarray .boolean, 2, []), (40, .putfield 25, 3, [4, 0]), (43, .aload_n 0, 1, []), (44, .bipush 101, 2, []), (46, .newarray .int, 2, []),
  (48, .putfield 29, 3, [5, 0]), (51, .return_, 1, [])]
def kK_init : List Ent := [(0, .aload_n 0, 1, []), (1, .invokespecial 3, 3, []), (4, .aload_n 0, 1, []), (5, .aload_n 1, 1, []), (6, .putfield 9, 3, [0, 1]), (9, .aload_n 0, 1, []), (10, .aload_n 2, 1, []), (11, .putfield 15, 3, [1, 1]),
  (14, .aload_n 0, 1, []), (15, .sipush 144, 3, []), (18, .newarray .int, 2, []), (20, .putfield 19, 3, [2, 1]), (23, .aload_n 0, 1, []), (24, .bipush 36, 2, []), (26, .newarray .int, 2, []), (28, .putfield 22, 3, [3, 1]),
  (31, .aload_n 0, 1, []), (32, .bipush 36, 2, []), (34, .newarray .boolean, 2, []), (36, .putfield 25, 3, [4, 1]), (39, .aload_n 0, 1, []), (40, .bipush 36, 2, []), (42, .newarray .int, 2, []), (44, .putfield 29, 3, [5, 1]),
  (47, .return_, 1, [])]
def kL_init : List Ent := [(0, .aload_n 0, 1, []), (1, .invokespecial 1, 3, []), (4, .aload_n 0, 1, []), (5, .new 7, 3, [2]), (8, .dup, 1, []), (9, .aload_n 1, 1, []), (10, .invokespecial 9, 3, [1, 2, 2]), (13, .putfield 12, 3, [0, 4]),
  (16, .aload_n 0, 1, []), (17, .new 18, 3, [0]), (20, .dup, 1, []), (21, .aload_n 0, 1, []), (22, .getfield 12, 3, [0, 4]), (25, .invokespecial 20, 3, [2, 2, 2]), (28, .putfield 23, 3, [1, 4]), (31, .aload_n 0, 1, []),
  (32, .new 27, 3, [1]), (35, .dup, 1, []), (36, .aload_n 0, 1, []), (37, .getfield 23, 3, [1, 4]), (40, .aload_n 1, 1, []), (41, .invokespecial 29, 3, [3, 3, 3]), (44, .putfield 32, 3, [2, 4]), (47, .aload_n 0, 1, []),
  (48, .iconst 0, 1, []), (49, .putfield 36, 3, [3, 4]), (52, .aload_n 0, 1, []), (53, .iconst 0, 1, []), (54, .putfield 40, 3, [4, 4]), (57, .return_, 1, [])]
def kI_init : List Ent := [(0, .aload_n 0, 1, []), (1, .invokespecial 3, 3, []), (4, .aload_n 0, 1, []), (5, .bipush 80, 2, []), (7, .newarray .int, 2, []), (9, .putfield 9, 3, [0, 3]), (12, .aload_n 0, 1, []), (13, .iconst 0, 1, []),
  (14, .putfield 15, 3, [5, 3]), (17, .return_, 1, [])]
def kS_init : List Ent := [(0, .aload_n 0, 1, []), (1, .invokespecial 3, 3, []), (4, .aload_n 0, 1, []), (5, .new 9, 3, [5]), (8, .dup, 1, []), (9, .invokespecial 11, 3, [0, 1, 1]), (12, .putfield 12, 3, [0, 6]), (15, .aload_n 0, 1, []),
  (16, .iconst 2, 1, []), (17, .anewarray 9, 3, [2]), (20, .putfield 16, 3, [1, 6]), (23, .iconst 0, 1, []), (24, .istore_n 1, 1, []), (25, .iload_n 1, 1, []), (26, .iconst 2, 1, []), (27, .if_icmp .ge 22, 3, []),
  (30, .aload_n 0, 1, []), (31, .getfield 16, 3, [1, 6]), (34, .iload_n 1, 1, []), (35, .new 9, 3, [5]), (38, .dup, 1, []), (39, .invokespecial 11, 3, [0, 1, 1]), (42, .aastore, 1, []), (43, .iinc 1 1, 3, []),
  (46, .goto (-21), 3, []), (49, .sipush 144, 3, []), (52, .newarray .int, 2, []), (54, .astore_n 1, 1, []), (55, .aload_n 0, 1, []), (56, .iconst 4, 1, []), (57, .anewarray 20, 3, [3]), (60, .putfield 22, 3, [2, 6]),
  (63, .iconst 0, 1, []), (64, .istore_n 2, 1, []), (65, .iload_n 2, 1, []), (66, .iconst 4, 1, []), (67, .if_icmp .ge 23, 3, []), (70, .aload_n 0, 1, []), (71, .getfield 22, 3, [2, 6]), (74, .iload_n 2, 1, []),
  (75, .new 20, 3, [4]), (78, .dup, 1, []), (79, .aload_n 1, 1, []), (80, .invokespecial 26, 3, [4, 2, 2]), (83, .aastore, 1, []), (84, .iinc 2 1, 3, []), (87, .goto (-22), 3, []), (90, .aload_n 0, 1, []),
  (91, .new 29, 3, [3]), (94, .dup, 1, []), (95, .invokespecial 31, 3, [5, 1, 1]), (98, .putfield 32, 3, [3, 6]), (101, .aload_n 0, 1, []), (102, .iconst 0, 1, []), (103, .putfield 36, 3, [4, 6]), (106, .return_, 1, [])]
def kM_init : List Ent := [(0, .aload_n 0, 1, []), (1, .invokespecial 1, 3, []), (4, .aload_n 0, 1, []), (5, .sipush 502, 3, []), (8, .newarray .int, 2, []), (10, .putfield 7, 3, [0, 7]), (13, .aload_n 0, 1, []), (14, .sipush 1004, 3, []),
  (17, .newarray .int, 2, []), (19, .putfield 13, 3, [1, 7]), (22, .aload_n 0, 1, []), (23, .iconst 2, 1, []), (24, .newarray .boolean, 2, []), (26, .putfield 16, 3, [2, 7]), (29, .aload_n 0, 1, []), (30, .bipush 100, 2, []),
  (32, .newarray .int, 2, []), (34, .putfield 20, 3, [3, 7]), (37, .aload_n 0, 1, []), (38, .bipush 100, 2, []), (40, .newarray .int, 2, []), (42, .putfield 23, 3, [4, 7]), (45, .aload_n 0, 1, []), (46, .bipush 100, 2, []),
  (48, .newarray .int, 2, []), (50, .putfield 26, 3, [5, 7]), (53, .aload_n 0, 1, []), (54, .bipush 100, 2, []), (56, .newarray .int, 2, []), (58, .putfield 29, 3, [8, 7]), (61, .aload_n 0, 1, []), (62, .bipush 100, 2, []),
  (64, .newarray .int, 2, []), (66, .putfield 32, 3, [9, 7]), (69, .aload_n 0, 1, []), (70, .bipush 100, 2, []), (72, .newarray .int, 2, []), (74, .putfield 35, 3, [10, 7]), (77, .aload_n 0, 1, []), (78, .bipush 100, 2, []),
  (80, .newarray .int, 2, []), (82, .putfield 38, 3, [11, 7]), (85, .aload_n 0, 1, []), (86, .bipush 100, 2, []), (88, .newarray .int, 2, []), (90, .putfield 41, 3, [12, 7]), (93, .aload_n 0, 1, []), (94, .bipush 100, 2, []),
  (96, .newarray .int, 2, []), (98, .putfield 44, 3, [13, 7]), (101, .aload_n 0, 1, []), (102, .bipush 101, 2, []), (104, .newarray .int, 2, []), (106, .putfield 47, 3, [15, 7]), (109, .aload_n 0, 1, []), (110, .bipush 100, 2, []),
  (112, .newarray .int, 2, []), (114, .putfield 50, 3, [16, 7]), (117, .aload_n 0, 1, []), (118, .bipush 100, 2, []), (120, .newarray .int, 2, []), (122, .putfield 53, 3, [17, 7]), (125, .aload_n 0, 1, []), (126, .bipush 100, 2, []),
  (128, .newarray .int, 2, []), (130, .putfield 56, 3, [19, 7]), (133, .aload_n 0, 1, []), (134, .sipush 400, 3, []), (137, .newarray .boolean, 2, []), (139, .putfield 59, 3, [20, 7]), (142, .aload_n 0, 1, []), (143, .bipush 121, 2, []),
  (145, .newarray .int, 2, []), (147, .putfield 62, 3, [21, 7]), (150, .aload_n 0, 1, []), (151, .bipush 121, 2, []), (153, .newarray .int, 2, []), (155, .putfield 65, 3, [23, 7]), (158, .aload_n 0, 1, []), (159, .bipush 121, 2, []),
  (161, .newarray .boolean, 2, []), (163, .putfield 68, 3, [24, 7]), (166, .aload_n 0, 1, []), (167, .bipush 121, 2, []), (169, .newarray .int, 2, []), (171, .putfield 71, 3, [25, 7]), (174, .aload_n 0, 1, []), (175, .bipush 121, 2, []),
  (177, .newarray .int, 2, []), (179, .putfield 74, 3, [26, 7]), (182, .aload_n 0, 1, []), (183, .getfield 7, 3, [0, 7]), (186, .sipush 500, 3, []), (189, .bipush 8, 2, []), (191, .iastore, 1, []), (192, .aload_n 0, 1, []),
  (193, .getfield 7, 3, [0, 7]), (196, .sipush 501, 3, []), (199, .bipush 8, 2, []), (201, .iastore, 1, []), (202, .return_, 1, [])]
def ktab : List (List Ent) := [kH_init, kP_init, kB_init, kK_init, kL_init, kI_init, kS_init, kM_init]
def kodeOf (M : Nat) : List Ent := (ktab[M]?).getD []
def krec : List MR := [(⟨"StencilCuts$Sheet", "<init>", "()V"⟩, prog_7_method_1_code, 1, none, 5, 1, 20),
  (⟨"StencilCuts$Parts", "<init>", "([I)V"⟩, prog_4_method_1_code, 2, none, 2, 1, 20),
  (⟨"StencilCuts$Bridges", "<init>", "(LStencilCuts$Parts;)V"⟩, prog_2_method_1_code, 2, none, 0, 1, 20),
  (⟨"StencilCuts$Knife", "<init>", "(LStencilCuts$Bridges;[I)V"⟩, prog_3_method_1_code, 3, none, 1, 1, 20),
  (⟨"StencilCuts$Plan", "<init>", "([I)V"⟩, prog_6_method_1_code, 2, none, 4, 2, 42),
  (⟨"StencilCuts$Picture", "<init>", "()V"⟩, prog_5_method_1_code, 1, none, 3, 1, 20),
  (⟨"StencilCuts", "<init>", "()V"⟩, prog_1_method_1_code, 3, none, 6, 3, 63),
  (⟨"StencilCutsModel", "<init>", "()V"⟩, prog_9_method_1_code, 1, none, 7, 1, 20)]
def cF : Nat → List Ent → Nat → List CV → List CV → List CE → Option (List CE)
  | 0, _, _, _, _, _ => none
  | n + 1, C, pc, ls, st, ws => match lkE C pc with
    | none => none
    | some (I, len, inf) => match stepC I inf pc len ls st ws with
      | .inl (pc', ls', st', ws') => cF n C pc' ls' st' ws'
      | .inr (.inl (M, a, pc', ls', st', ws')) => match cF n (kodeOf M) 0 a [] ws' with
        | some ws2 => cF n C pc' ls' st' ws2
        | none => none
      | .inr (.inr (.inl ws')) => some ws'
      | .inr (.inr (.inr _)) => none
def kcp : List (List (Nat × Nat × Nat)) := [[], [], [], [], [(9, 1, 0), (20, 2, 0), (29, 3, 0)], [], [(11, 0, 0), (26, 4, 0), (31, 5, 0)], [], [(9, 6, 0), (12, 7, 0)], [], [], []]
def ncp : List (List (Nat × Nat × Nat)) := [[], [], [], [], [(7, 2, 0), (18, 0, 0), (27, 1, 0)], [], [(9, 5, 0), (20, 4, 0), (29, 3, 0)], [], [(7, 6, 0), (10, 7, 0)], [], [], []]
def ocp : List (Nat × Nat × Nat) := [(0, 3, 0), (1, 3, 0), (2, 3, 0), (3, 3, 0), (4, 1, 0), (5, 3, 0), (6, 3, 0), (7, 1, 0)]
def fcp2 : List (List (Nat × Nat × Nat)) := [[(9, 0, 0), (15, 0, 1), (19, 0, 2), (22, 0, 3), (25, 0, 4), (29, 0, 5)], [(9, 1, 0), (15, 1, 1), (19, 1, 2), (22, 1, 3), (25, 1, 4), (29, 1, 5)], [(9, 2, 0), (15, 2, 1), (19, 2, 2), (22, 2, 3), (25, 2, 4), (28, 2, 5), (31, 2, 6)], [(9, 3, 0), (15, 3, 5)], [(12, 4, 0), (23, 4, 1), (32, 4, 2), (36, 4, 3), (40, 4, 4)], [(9, 5, 0), (15, 5, 1), (18, 5, 2), (22, 5, 3)], [(12, 6, 0), (16, 6, 1), (22, 6, 2), (32, 6, 3), (36, 6, 4)], [(7, 7, 0), (13, 7, 1), (16, 7, 2), (20, 7, 3), (23, 7, 4), (26, 7, 5), (29, 7, 8), (32, 7, 9), (35, 7, 10), (38, 7, 11), (41, 7, 12), (44, 7, 13), (47, 7, 15), (50, 7, 16), (53, 7, 17), (56, 7, 19), (59, 7, 20), (62, 7, 21), (65, 7, 23), (68, 7, 24), (71, 7, 25), (74, 7, 26)], [], [], [], []]
theorem kkF_7 : (fcp2.getD 7 []).map (fwd 7) = pkL [709, 710, 711, 712, 713, 714, 717, 718, 719, 720, 721, 722, 724, 725, 726, 728, 729, 730, 732, 733, 734, 735] := by decide +kernel
theorem kkF_6 : (fcp2.getD 6 []).map (fwd 6) = pkL [298, 299, 300, 301, 302] := by decide +kernel
theorem kkF_5 : (fcp2.getD 5 []).map (fwd 5) = pkL [96, 98, 100, 101] := by decide +kernel
theorem kkF_4 : (fcp2.getD 4 []).map (fwd 4) = pkL [251, 253, 255, 256, 257] := by decide +kernel
theorem kkF_3 : (fcp2.getD 3 []).map (fwd 3) = pkL [275, 283] := by decide +kernel
theorem kkF_2 : (fcp2.getD 2 []).map (fwd 2) = pkL [126, 127, 129, 130, 131, 133, 135] := by decide +kernel
theorem kkF_1 : (fcp2.getD 1 []).map (fwd 1) = pkL [218, 219, 220, 221, 223, 224] := by decide +kernel
theorem kkF_0 : (fcp2.getD 0 []).map (fwd 0) = pkL [172, 173, 174, 176, 178, 181] := by decide +kernel
def kyR (M : Nat) : MethodName := m_y (krec.getD M mr0)
def kwds (o : Nat) (x : Nat × Nat × Nat) : List Cond := [.initialized (kyR x.2.1).cls, .methodLink (ownN o) x.1 (kyR x.2.1), .instanceMethod (kyR x.2.1)]
def nwds (o : Nat) (x : Nat × Nat × Nat) : List Cond := [.classLink (ownN o) x.1 (ownN x.2.1), .initialized (ownN x.2.1), .instantiable (ownN x.2.1) (fcdL.getD x.2.1 []).length]
def owds (x : Nat × Nat × Nat) : Cond := .methodLink (ownN x.1) x.2.1 objectInit
theorem kkC_4 : (kcp.getD 4 []).flatMap (kwds 4) = pkL [73, 122, 123, 74, 168, 169, 75, 214, 215] := by decide +kernel
theorem kkN_4 : (ncp.getD 4 []).flatMap (nwds 4) = pkL [120, 73, 121, 166, 74, 167, 212, 75, 213] := by decide +kernel
theorem kkC_6 : (kcp.getD 6 []).flatMap (kwds 6) = pkL [71, 92, 93, 72, 116, 117, 76, 271, 272] := by decide +kernel
theorem kkN_6 : (ncp.getD 6 []).flatMap (nwds 6) = pkL [90, 71, 91, 113, 72, 115, 269, 76, 270] := by decide +kernel
theorem kkC_8 : (kcp.getD 8 []).flatMap (kwds 8) = pkL [70, 84, 85, 77, 705, 706] := by decide +kernel
theorem kkN_8 : (ncp.getD 8 []).flatMap (nwds 8) = pkL [82, 70, 83, 703, 77, 704] := by decide +kernel
theorem kkO : ocp.map owds = pkL [171, 217, 125, 274, 119, 95, 87, 708] := by decide +kernel
theorem kkM : krec.map mwd = pkL [94, 124, 170, 216, 118, 273, 86, 707] := by decide +kernel
theorem kkI : [Cond.instanceMethod objectInit, .code objectInit ⟨#[0xb1]⟩ 1 none, .arrayClass .int, .arrayClass .boolean] = pkL [88, 89, 111, 165] := by decide +kernel
theorem kkA : [Cond.arrayOver (.object RX5), Cond.arrayOver (.object RX4)] = pkL [112, 114] := by decide +kernel
theorem kkD : krec.map (fun r => (parseMethodDescriptor (m_y r).desc).map (fun d => d.parameters.length)) = [0, 1, 1, 2, 1, 0, 0, 0].map some := by decide +kernel
def knp : List Nat := [0, 1, 1, 2, 1, 0, 0, 0]
theorem kkY : krec.map (fun r => (m_y r).cls) = krec.map (fun r => ownN (m_o r)) := by decide +kernel
theorem kkY2 : krec.map (fun r => (m_y r).name) = krec.map (fun _ => "<init>") := by decide +kernel
def okK (r : MR) (pc : Nat) (I : Instr) (len : Nat) (inf : List Nat) : Bool := match I with
  | .iconst n => Nat.beq len 1 && rb n
  | .bipush n => Nat.beq len 2 && rb n && decide ((Int8.ofInt n).toInt32 = Int32.ofInt n)
  | .sipush n => Nat.beq len 3 && rb n && decide ((Int16.ofInt n).toInt32 = Int32.ofInt n)
  | .aload_n _ => Nat.beq len 1
  | .iload_n _ => Nat.beq len 1
  | .istore_n k => Nat.beq len 1 && Nat.blt k.val (m_l r)
  | .astore_n k => Nat.beq len 1 && Nat.blt k.val (m_l r)
  | .iinc k _ => Nat.beq len 3 && Nat.blt k (m_l r)
  | .dup => Nat.beq len 1
  | .goto o => Nat.beq len 3 && tg pc o
  | .if_icmp _ o => Nat.beq len 3 && tg pc o
  | .new i => Nat.beq len 3 && (match inf with
    | [ci] => el3 (i, ci, 0) (ncp.getD (m_o r) []) && Nat.blt ci 8
    | _ => false)
  | .newarray _ => Nat.beq len 2
  | .anewarray i => Nat.beq len 3 && (match inf with
    | [2] => el3 (i, 5, 0) (ncp.getD (m_o r) [])
    | [3] => el3 (i, 4, 0) (ncp.getD (m_o r) [])
    | _ => false)
  | .invokespecial i => Nat.beq len 3 && (match inf with
    | [] => el3 (m_o r, i, 0) ocp && Nat.ble 1 (m_F r) && Nat.ble 20 (m_L r)
    | [M, na, ml] => el3 (i, M, 0) (kcp.getD (m_o r) []) && (match krec[M]? with
      | some r' => Nat.beq ml (m_l r') && Nat.ble (m_F r' + 1) (m_F r) && Nat.ble (8 + (m_l r' + 11) + m_L r') (m_L r) && Nat.beq (knp.getD M 0 + 1) na
      | none => false)
    | _ => false)
  | .putfield i => Nat.beq len 3 && (match inf with
    | [k, ci] => el3 (i, ci, k) (fcp2.getD (m_o r) []) && Nat.beq ci (m_o r) && Nat.blt ci 8
    | _ => false)
  | .getfield i => Nat.beq len 3 && (match inf with
    | [k, ci] => el3 (i, ci, k) (fcp2.getD (m_o r) []) && Nat.blt ci 8
    | _ => false)
  | .aastore => Nat.beq len 1
  | .iastore => Nat.beq len 1
  | .return_ => Nat.beq len 1
  | _ => false
def okKE (r : MR) (e : Ent) : Bool := decide (decode (m_b r) e.1 = .ok (e.2.1, e.2.2.1)) && okK r e.1 e.2.1 e.2.2.1 e.2.2.2
def ckKE (M : Nat) : Bool := match krec[M]? with
  | some r => (kodeOf M).all (okKE r)
  | none => true
theorem kkE : (List.range 8).all ckKE = true := by decide +kernel
