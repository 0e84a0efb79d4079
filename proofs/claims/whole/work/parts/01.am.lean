/-! An abstract machine over whole numbers: the cells of the two objects are of fixed kinds, with instances; memory is a function of kind, instance and slot. -/
abbrev AV : Type := Int ⊕ (Nat × Int)
abbrev Mem : Type := Nat → Int → Int → Int
def Rng (z : Int) : Prop := -2147483648 ≤ z ∧ z ≤ 2147483647
/-- one slot of memory is set -/
def mset (m : Mem) (k : Nat) (i j v : Int) : Mem := fun k' => if k' = k then (fun i' j' => if i' = i ∧ j' = j then v else m k i' j') else m k'
/-- a stretch of one row is copied into another row -/
def mcpy (m : Mem) (k0 : Nat) (i0 sp : Int) (k1 : Nat) (i1 dp n : Int) : Mem := fun k' => if k' = k1 then (fun i' j' => if i' = i1 ∧ dp ≤ j' ∧ j' < dp + n then m k0 i0 (sp + (j' - dp)) else m k1 i' j') else m k'
def zAnd (a b : Int) : Int := (Int32.ofInt a &&& Int32.ofInt b).toInt
def zOr (a b : Int) : Int := (Int32.ofInt a ||| Int32.ofInt b).toInt
def zXor (a b : Int) : Int := (Int32.ofInt a ^^^ Int32.ofInt b).toInt
def zShl (a b : Int) : Int := (Int32.ofInt a <<< (Int32.ofInt b &&& 31)).toInt
def zShr (a b : Int) : Int := (Int32.ofInt a >>> (Int32.ofInt b &&& 31)).toInt
def zUshr (a b : Int) : Int := ((Int32.ofInt a).toUInt32 >>> ((Int32.ofInt b).toUInt32 &&& Int32.toUInt32 31)).toInt32.toInt
def zAbs (x : Int) : Int := if 0 ≤ x then x else -x
/-- what a kind of cell is: a row of ints or booleans (type, length); an object (class, fields); a row of references (length, kind, first instance, type); a constant row; else nothing known -/
abbrev Shp : Type := (Nat × Nat) ⊕ (Nat × List (Nat × Nat)) ⊕ (Nat × Nat × Nat × Nat) ⊕ List Int ⊕ Unit
abbrev SR : Type := (Nat × List AV × List AV × Mem) ⊕ (Prop × Nat × List AV × List AV × Mem) ⊕ (Prop × Nat × Nat × List AV × List AV × Mem) ⊕ (Int × List (Int × Nat) × Nat × List AV × List AV × Mem) ⊕ (Nat × List AV × Nat × Nat × List AV × List AV × Mem) ⊕ (AV × Mem) ⊕ (Prop × AV × Mem) ⊕ Unit
abbrev s_nx (pc : Nat) (ls st : List AV) (m : Mem) : SR := .inl (pc, ls, st, m)
abbrev s_ng (g : Prop) (pc : Nat) (ls st : List AV) (m : Mem) : SR := .inr (.inl (g, pc, ls, st, m))
abbrev s_br (c : Prop) (p1 p2 : Nat) (ls st : List AV) (m : Mem) : SR := .inr (.inr (.inl (c, p1, p2, ls, st, m)))
abbrev s_sw (x : Int) (l : List (Int × Nat)) (d : Nat) (ls st : List AV) (m : Mem) : SR := .inr (.inr (.inr (.inl (x, l, d, ls, st, m))))
abbrev s_cl (M : Nat) (a : List AV) (rk pc : Nat) (ls st : List AV) (m : Mem) : SR := .inr (.inr (.inr (.inr (.inl (M, a, rk, pc, ls, st, m)))))
abbrev s_rt (r : AV) (m : Mem) : SR := .inr (.inr (.inr (.inr (.inr (.inl (r, m))))))
abbrev s_rg (g : Prop) (r : AV) (m : Mem) : SR := .inr (.inr (.inr (.inr (.inr (.inr (.inl (g, r, m)))))))
abbrev s_no : SR := .inr (.inr (.inr (.inr (.inr (.inr (.inr ()))))))
abbrev uu : AV := .inr (999, 0)
def zc (c : ClassFile.Cond) (a b : Int) : Prop := match c with
  | .eq => a = b
  | .ne => ¬ a = b
  | .lt => a < b
  | .ge => b ≤ a
  | .gt => b < a
  | .le => a ≤ b
def tgtOf (pc : Nat) (off : Int) : Nat := Int.toNat ((pc : Int) + off)
def r_load (ls : List AV) (k pc : Nat) (st : List AV) (m : Mem) : SR := match ls[k]? with
  | some (.inl x) => s_nx pc ls (.inl x :: st) m
  | _ => s_no
def r_aload (ls : List AV) (k pc : Nat) (st : List AV) (m : Mem) : SR := match ls[k]? with
  | some (.inr (q, i)) => match Nat.blt q 900 with
    | true => s_nx pc ls (.inr (q, i) :: st) m
    | false => s_no
  | _ => s_no
def r_store (ls : List AV) (k pc : Nat) (st : List AV) (m : Mem) : SR := match st with
  | .inl x :: st => s_nx pc (ls.set k (.inl x)) st m
  | _ => s_no
def r_astore (ls : List AV) (k pc : Nat) (st : List AV) (m : Mem) : SR := match st with
  | .inr q :: st => s_nx pc (ls.set k (.inr q)) st m
  | _ => s_no
def r_iinc (ls : List AV) (k : Nat) (n : Int) (pc : Nat) (st : List AV) (m : Mem) : SR := match ls[k]? with
  | some (.inl x) => s_ng (Rng (x + n)) pc (ls.set k (.inl (x + n))) st m
  | _ => s_no
/-- a count by two numbers, with its condition -/
def r_op2g (f : Int → Int → Int) (g : Int → Int → Prop) (ls : List AV) (pc : Nat) (st : List AV) (m : Mem) : SR := match st with
  | .inl b :: .inl a :: st => s_ng (g a b) pc ls (.inl (f a b) :: st) m
  | _ => s_no
def r_op2 (f : Int → Int → Int) (ls : List AV) (pc : Nat) (st : List AV) (m : Mem) : SR := match st with
  | .inl b :: .inl a :: st => s_nx pc ls (.inl (f a b) :: st) m
  | _ => s_no
def r_get (S : Nat → Shp) (ci : Nat) (ls : List AV) (k pc : Nat) (st : List AV) (m : Mem) : SR := match st with
  | .inr (q, i) :: st => match S q with
    | .inr (.inl (ci', fs)) => match Nat.beq ci ci' with
      | true => match fs[k]? with
        | some (0, _) => s_nx pc ls (.inl (m q i (k : Int)) :: st) m
        | some (1, _) => s_nx pc ls (.inl (m q i (k : Int)) :: st) m
        | some (q' + 2, 0) => s_nx pc ls (.inr (q', i) :: st) m
        | some (q' + 2, _ + 1) => s_nx pc ls (.inr (q', 0) :: st) m
        | none => s_no
      | false => s_no
    | _ => s_no
  | _ => s_no
def r_put (S : Nat → Shp) (ci : Nat) (ls : List AV) (k pc : Nat) (st : List AV) (m : Mem) : SR := match st with
  | .inl v :: .inr (q, i) :: st => match S q with
    | .inr (.inl (ci', fs)) => match Nat.beq ci ci' with
      | true => match fs[k]? with
        | some (0, _) => s_nx pc ls st (mset m q i (k : Int) v)
        | some (1, _) => s_ng (v = 0 ∨ v = 1) pc ls st (mset m q i (k : Int) v)
        | _ => s_no
      | false => s_no
    | _ => s_no
  | _ => s_no
def r_ald (S : Nat → Shp) (t : Nat) (ls : List AV) (pc : Nat) (st : List AV) (m : Mem) : SR := match st with
  | .inl j :: .inr (q, i) :: st => match S q with
    | .inl (t', n) => match Nat.beq t t' with
      | true => s_ng (0 ≤ j ∧ j < (n : Int)) pc ls (.inl (m q i j) :: st) m
      | false => s_no
    | .inr (.inr (.inr (.inl vs))) => match Nat.beq t 0 with
      | true => s_ng (0 ≤ j ∧ j < (vs.length : Int)) pc ls (.inl (vs.getD j.toNat 0) :: st) m
      | false => s_no
    | .inr (.inr (.inr (.inr _))) => match Nat.beq t 0 && Nat.beq q 32 with
      | true => s_ng (0 ≤ j ∧ j < m 32 1 0) pc ls (.inl (m 32 0 j) :: st) m
      | false => s_no
    | _ => s_no
  | _ => s_no
def r_ast (S : Nat → Shp) (t : Nat) (ls : List AV) (pc : Nat) (st : List AV) (m : Mem) : SR := match st with
  | .inl v :: .inl j :: .inr (q, i) :: st => match S q with
    | .inl (t', n) => match Nat.beq t t' with
      | true => match t with
        | 0 => s_ng (0 ≤ j ∧ j < (n : Int)) pc ls st (mset m q i j v)
        | _ + 1 => s_ng ((0 ≤ j ∧ j < (n : Int)) ∧ (v = 0 ∨ v = 1)) pc ls st (mset m q i j v)
      | false => s_no
    | _ => s_no
  | _ => s_no
def r_aald (S : Nat → Shp) (ls : List AV) (pc : Nat) (st : List AV) (m : Mem) : SR := match st with
  | .inl j :: .inr (q, _) :: st => match S q with
    | .inr (.inr (.inl (n, q', o, _))) => s_ng (0 ≤ j ∧ j < (n : Int)) pc ls (.inr (q', (o : Int) + j) :: st) m
    | _ => s_no
  | _ => s_no
def r_alen (S : Nat → Shp) (ls : List AV) (pc : Nat) (st : List AV) (m : Mem) : SR := match st with
  | .inr (q, _) :: st => match S q with
    | .inl (_, n) => s_nx pc ls (.inl (n : Int) :: st) m
    | .inr (.inr (.inr (.inl vs))) => s_nx pc ls (.inl (vs.length : Int) :: st) m
    | .inr (.inr (.inr (.inr _))) => match Nat.beq q 32 with
      | true => s_nx pc ls (.inl (m 32 1 0) :: st) m
      | false => s_no
    | _ => s_no
  | _ => s_no
/-- the JDK's own copy of a stretch of a row -/
def r_copy (S : Nat → Shp) (ls : List AV) (pc : Nat) (st : List AV) (m : Mem) : SR := match st with
  | .inl n :: .inl dp :: .inr (q1, i1) :: .inl sp :: .inr (q0, i0) :: [] => match S q0, S q1 with
    | .inl (0, n0), .inl (0, n1) => s_ng (0 ≤ sp ∧ 0 ≤ dp ∧ 0 ≤ n ∧ sp + n ≤ (n0 : Int) ∧ dp + n ≤ (n1 : Int)) pc ls [] (mcpy m q0 i0 sp q1 i1 dp n)
    | .inl (1, n0), .inl (1, n1) => s_ng ((0 ≤ sp ∧ 0 ≤ dp ∧ 0 ≤ n ∧ sp + n ≤ (n0 : Int) ∧ dp + n ≤ (n1 : Int)) ∧ ∀ j : Int, sp ≤ j → j < sp + n → m q0 i0 j = 0 ∨ m q0 i0 j = 1) pc ls [] (mcpy m q0 i0 sp q1 i1 dp n)
    | _, _ => s_no
  | _ => s_no
/-- the JDK's absolute value -/
def r_abs (ls : List AV) (pc : Nat) (st : List AV) (m : Mem) : SR := match st with
  | .inl x :: st => match Nat.ble st.length 8 with
    | true => s_ng (Rng (-x)) pc ls (.inl (zAbs x) :: st) m
    | false => s_no
  | _ => s_no
/-- a call: which method, how many words it takes, how many locals it has, what it answers -/
def r_call (inf : List Nat) (ls : List AV) (pc : Nat) (st : List AV) (m : Mem) : SR := match inf with
  | [M, na, ml, rk] => match Nat.ble na st.length && Nat.ble (st.drop na).length 8 with
    | true => s_cl M ((st.take na).reverse ++ List.replicate (ml - na) uu) rk pc ls (st.drop na) m
    | false => s_no
  | _ => s_no
/-- a call of an object's method: its class is the named one -/
def r_callV (S : Nat → Shp) (inf : List Nat) (ls : List AV) (pc : Nat) (st : List AV) (m : Mem) : SR := match inf with
  | [M, na + 1, ml, rk, ci] => match st[na]? with
    | some (.inr (q, _)) => match S q with
      | .inr (.inl (ci', _)) => match Nat.beq ci ci' with
        | true => r_call [M, na + 1, ml, rk] ls pc st m
        | false => s_no
      | _ => s_no
    | _ => s_no
  | _ => s_no
def swL (pc : Nat) : Int → List Int → List (Int × Nat)
  | _, [] => []
  | lo, o :: r => (lo, tgtOf pc o) :: swL pc (lo + 1) r
/-- an instruction's step -/
def stepR (S : Nat → Shp) (I : Instr) (inf : List Nat) (pc len : Nat) (ls st : List AV) (m : Mem) : SR := match I with
  | .iconst n => s_nx (pc + len) ls (.inl n :: st) m
  | .bipush n => s_nx (pc + len) ls (.inl n :: st) m
  | .sipush n => s_nx (pc + len) ls (.inl n :: st) m
  | .ldc_w _ => match inf with
    | [v] => s_nx (pc + len) ls (.inl (v : Int) :: st) m
    | _ => s_no
  | .iload_n k => r_load ls k.val (pc + len) st m
  | .iload k => r_load ls k (pc + len) st m
  | .aload_n k => r_aload ls k.val (pc + len) st m
  | .aload k => r_aload ls k (pc + len) st m
  | .istore_n k => r_store ls k.val (pc + len) st m
  | .istore k => r_store ls k (pc + len) st m
  | .astore_n k => r_astore ls k.val (pc + len) st m
  | .astore k => r_astore ls k (pc + len) st m
  | .iinc k n => r_iinc ls k n (pc + len) st m
  | .iadd => r_op2g (fun a b => a + b) (fun a b => Rng (a + b)) ls (pc + len) st m
  | .isub => r_op2g (fun a b => a - b) (fun a b => Rng (a - b)) ls (pc + len) st m
  | .imul => r_op2g (fun a b => a * b) (fun a b => Rng (a * b)) ls (pc + len) st m
  | .idiv => r_op2g (fun a b => a / b) (fun a b => 0 ≤ a ∧ 0 < b) ls (pc + len) st m
  | .irem => r_op2g (fun a b => a % b) (fun a b => 0 ≤ a ∧ 0 < b) ls (pc + len) st m
  | .ineg => match st with
    | .inl a :: st => s_ng (Rng (-a)) (pc + len) ls (.inl (-a) :: st) m
    | _ => s_no
  | .iand => r_op2 zAnd ls (pc + len) st m
  | .ior => r_op2 zOr ls (pc + len) st m
  | .ixor => r_op2 zXor ls (pc + len) st m
  | .ishl => r_op2 zShl ls (pc + len) st m
  | .ishr => r_op2 zShr ls (pc + len) st m
  | .iushr => r_op2 zUshr ls (pc + len) st m
  | .dup => match st with
    | v :: st => s_nx (pc + len) ls (v :: v :: st) m
    | _ => s_no
  | .dup2 => match st with
    | v :: w :: st => s_nx (pc + len) ls (v :: w :: v :: w :: st) m
    | _ => s_no
  | .pop => match st with
    | _ :: st => s_nx (pc + len) ls st m
    | _ => s_no
  | .goto o => s_nx (tgtOf pc o) ls st m
  | .ifCond c o => match st with
    | .inl a :: st => s_br (zc c a 0) (tgtOf pc o) (pc + len) ls st m
    | _ => s_no
  | .if_icmp c o => match st with
    | .inl b :: .inl a :: st => s_br (zc c a b) (tgtOf pc o) (pc + len) ls st m
    | _ => s_no
  | .tableswitch d lo _ os => match st with
    | .inl x :: st => s_sw x (swL pc lo os.toList) (tgtOf pc d) ls st m
    | _ => s_no
  | .lookupswitch d ps => match st with
    | .inl x :: st => s_sw x (ps.toList.map (fun p => (p.1, tgtOf pc p.2))) (tgtOf pc d) ls st m
    | _ => s_no
  | .getfield _ => match inf with
    | [k, ci] => r_get S ci ls k (pc + len) st m
    | _ => s_no
  | .putfield _ => match inf with
    | [k, ci] => r_put S ci ls k (pc + len) st m
    | _ => s_no
  | .getstatic _ => match inf with
    | [q] => s_nx (pc + len) ls (.inr (q, 0) :: st) m
    | _ => s_no
  | .iaload => r_ald S 0 ls (pc + len) st m
  | .baload => r_ald S 1 ls (pc + len) st m
  | .iastore => r_ast S 0 ls (pc + len) st m
  | .bastore => r_ast S 1 ls (pc + len) st m
  | .aaload => r_aald S ls (pc + len) st m
  | .arraylength => r_alen S ls (pc + len) st m
  | .invokestatic _ => match inf with
    | [_] => r_copy S ls (pc + len) st m
    | [_, _] => r_abs ls (pc + len) st m
    | _ => r_call inf ls (pc + len) st m
  | .invokevirtual _ => r_callV S inf ls (pc + len) st m
  | .ireturn => match st with
    | [.inl v] => match inf with
      | [0] => s_rt (.inl v) m
      | _ => s_rg (v = 0 ∨ v = 1) (.inl v) m
    | _ => s_no
  | .areturn => match st with
    | [.inr q] => s_rt (.inr q) m
    | _ => s_no
  | .return_ => match st with
    | [] => s_rt (.inl 0) m
    | _ => s_no
  | _ => s_no
abbrev Ent : Type := Nat × Instr × Nat × List Nat
/-- the instruction at a place -/
def lkE : List Ent → Nat → Option (Instr × Nat × List Nat)
  | [], _ => none
  | e :: r, pc => match Nat.beq e.1 pc with
    | true => some e.2
    | false => lkE r pc
def runSw (x : Int) (nx : Nat → Prop) (d : Nat) : List (Int × Nat) → Prop
  | [] => nx d
  | (k, t) :: r => (x = k → nx t) ∧ (¬ x = k → runSw x nx d r)
/-- what comes back from a call goes on the stack -/
def backR (rk : Nat) (r : AV) (k : List AV → Prop) : Prop := match rk with
  | 0 => k []
  | 1 => ∃ x : Int, r = .inl x ∧ k [.inl x]
  | q + 2 => ∃ i : Int, r = .inr (q, i) ∧ k [.inr (q, i)]
def runSR (r : SR) (nx : Nat → List AV → List AV → Mem → Prop) (cl : Nat → List AV → Mem → (AV → Mem → Prop) → Prop) (rt : AV → Mem → Prop) : Prop := match r with
  | .inl (pc, ls, st, m) => nx pc ls st m
  | .inr (.inl (g, pc, ls, st, m)) => g ∧ nx pc ls st m
  | .inr (.inr (.inl (c, p1, p2, ls, st, m))) => (c → nx p1 ls st m) ∧ (¬ c → nx p2 ls st m)
  | .inr (.inr (.inr (.inl (x, l, d, ls, st, m)))) => runSw x (fun p => nx p ls st m) d l
  | .inr (.inr (.inr (.inr (.inl (M, a, rk, pc, ls, st, m))))) => cl M a m (fun r m' => backR rk r (fun v => nx pc ls (v ++ st) m'))
  | .inr (.inr (.inr (.inr (.inr (.inl (r, m)))))) => rt r m
  | .inr (.inr (.inr (.inr (.inr (.inr (.inl (g, r, m))))))) => g ∧ rt r m
  | .inr (.inr (.inr (.inr (.inr (.inr (.inr _)))))) => False
