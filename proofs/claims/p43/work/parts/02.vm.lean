/-! THE SMALL MACHINE: values, stacks, locals. A value is an int, a long, or a reference (kind, number): kind 0 null, 1 nothing known, 2 a text constant, 3 the script, 4 an array of ints of a length that lies at 200000 + its cell, 5 the law's KINDS, 10 + c an object of the c-th class, 100 + 8 n + s an array of n of sort s (0 int, 1 boolean, 2 long, 3 .. 5 references). -/
abbrev AV : Type := Int32 ⊕ (Int64 ⊕ (Nat × Nat))
abbrev vi (x : Int32) : AV := Sum.inl x
abbrev vl (x : Int64) : AV := Sum.inr (Sum.inl x)
abbrev vr (t k : Nat) : AV := Sum.inr (Sum.inr (t, k))
abbrev un : AV := vr 1 0
abbrev nul : AV := vr 0 0
abbrev MI : Type := Nat → Nat → Int32
abbrev ML : Type := Nat → Nat → Int64
/-- n cells; their kinds; references in them; how many cells, slots may still be made -/
abbrev DS : Type := Nat × (Nat → Nat) × (Nat → Nat → AV) × Nat × Nat
abbrev DS.n (S : DS) : Nat := S.1
abbrev DS.kd (S : DS) : Nat → Nat := S.2.1
abbrev DS.rf (S : DS) : Nat → Nat → AV := S.2.2.1
abbrev DS.bc (S : DS) : Nat := S.2.2.2.1
abbrev DS.bs (S : DS) : Nat := S.2.2.2.2
def sI (I : MI) (k j : Nat) (v : Int32) : MI := fun a b => if a = k then (if b = j then v else I a b) else I a b
def sL (L : ML) (k j : Nat) (v : Int64) : ML := fun a b => if a = k then (if b = j then v else L a b) else L a b
def sR (R : Nat → Nat → AV) (k j : Nat) (v : AV) : Nat → Nat → AV := fun a b => if a = k then (if b = j then v else R a b) else R a b
def aI (I : MI) (k : Nat) (f : Nat → Int32) : MI := fun a => if a = k then f else I a
def aL (L : ML) (k : Nat) (f : Nat → Int64) : ML := fun a => if a = k then f else L a
def aR (R : Nat → Nat → AV) (k : Nat) (f : Nat → AV) : Nat → Nat → AV := fun a => if a = k then f else R a
def aK (f : Nat → Nat) (k t : Nat) : Nat → Nat := fun a => if a = k then t else f a
def tS (t : Nat) : Nat := match Nat.ble 100 t with
  | true => (t - 100) % 8
  | false => 7
def tN (t : Nat) : Nat := (t - 100) / 8
def gt : List AV → Nat → AV
  | [], _ => un
  | a :: _, 0 => a
  | _ :: l, n + 1 => gt l n
def kl : AV → AV
  | .inr (.inl _) => un
  | a => a
def setL : List AV → Nat → AV → List AV
  | [], _, _ => []
  | _ :: l, 0, v => v :: l
  | a :: l, n + 1, v => (match n with
    | 0 => kl a
    | _ + 1 => a) :: setL l n v
def msk : List Bool → List AV → List AV
  | true :: m, a :: l => a :: msk m l
  | false :: m, _ :: l => un :: msk m l
  | [], l => l
  | _, [] => []
def entL : List AV → List AV
  | [] => []
  | .inl v :: l => .inl v :: entL l
  | .inr (.inl w) :: l => .inr (.inl w) :: un :: entL l
  | .inr (.inr r) :: l => .inr (.inr r) :: entL l
def padL : Nat → List AV → List AV
  | 0, _ => []
  | n + 1, [] => un :: padL n []
  | n + 1, a :: l => a :: padL n l
/-- the top n of a stack, in the order in which they were laid, before acc; and the rest -/
def popN : Nat → List AV → List AV → Option (List AV × List AV)
  | 0, st, acc => some (acc, st)
  | _ + 1, [], _ => none
  | n + 1, a :: st, acc => popN n st (a :: acc)
/-- instructions that touch neither memory nor the way: constants, locals, stack, arithmetic -/
def pureOp (ins : Instr) (c : Int32) (w : Int64) (ls st : List AV) : Option (List AV × List AV) :=
  match ins with
  | .iconst _ => some (ls, .inl c :: st)
  | .bipush _ => some (ls, .inl c :: st)
  | .sipush _ => some (ls, .inl c :: st)
  | .ldc _ => some (ls, .inl c :: st)
  | .ldc_w _ => some (ls, .inl c :: st)
  | .lconst _ => some (ls, .inr (.inl w) :: st)
  | .ldc2_w _ => some (ls, .inr (.inl w) :: st)
  | .aconst_null => some (ls, nul :: st)
  | .iload i => match gt ls i with
    | .inl v => some (ls, .inl v :: st)
    | _ => none
  | .iload_n i => match gt ls i.val with
    | .inl v => some (ls, .inl v :: st)
    | _ => none
  | .lload i => match gt ls i with
    | .inr (.inl v) => some (ls, .inr (.inl v) :: st)
    | _ => none
  | .lload_n i => match gt ls i.val with
    | .inr (.inl v) => some (ls, .inr (.inl v) :: st)
    | _ => none
  | .aload i => match gt ls i with
    | .inr (.inr (t, k)) => match Nat.beq t 1 with
      | true => none
      | false => some (ls, .inr (.inr (t, k)) :: st)
    | _ => none
  | .aload_n i => match gt ls i.val with
    | .inr (.inr (t, k)) => match Nat.beq t 1 with
      | true => none
      | false => some (ls, .inr (.inr (t, k)) :: st)
    | _ => none
  | .istore i => match st with
    | .inl v :: st => some (setL ls i (.inl v), st)
    | _ => none
  | .istore_n i => match st with
    | .inl v :: st => some (setL ls i.val (.inl v), st)
    | _ => none
  | .lstore i => match st with
    | .inr (.inl v) :: st => some (setL (setL ls (i + 1) un) i (.inr (.inl v)), st)
    | _ => none
  | .lstore_n i => match st with
    | .inr (.inl v) :: st => some (setL (setL ls (i.val + 1) un) i.val (.inr (.inl v)), st)
    | _ => none
  | .astore i => match st with
    | .inr (.inr (t, k)) :: st => match Nat.beq t 0 with
      | true => none
      | false => some (setL ls i (.inr (.inr (t, k))), st)
    | _ => none
  | .astore_n i => match st with
    | .inr (.inr (t, k)) :: st => match Nat.beq t 0 with
      | true => none
      | false => some (setL ls i.val (.inr (.inr (t, k))), st)
    | _ => none
  | .iinc i _ => match gt ls i with
    | .inl v => some (setL ls i (.inl (v + c)), st)
    | _ => none
  | .iadd => match st with
    | .inl y :: .inl x :: st => some (ls, .inl (x + y) :: st)
    | _ => none
  | .isub => match st with
    | .inl y :: .inl x :: st => some (ls, .inl (x - y) :: st)
    | _ => none
  | .imul => match st with
    | .inl y :: .inl x :: st => some (ls, .inl (x * y) :: st)
    | _ => none
  | .iand => match st with
    | .inl y :: .inl x :: st => some (ls, .inl (x &&& y) :: st)
    | _ => none
  | .ior => match st with
    | .inl y :: .inl x :: st => some (ls, .inl (x ||| y) :: st)
    | _ => none
  | .ixor => match st with
    | .inl y :: .inl x :: st => some (ls, .inl (x ^^^ y) :: st)
    | _ => none
  | .ishl => match st with
    | .inl y :: .inl x :: st => some (ls, .inl (x <<< (y &&& 31)) :: st)
    | _ => none
  | .ishr => match st with
    | .inl y :: .inl x :: st => some (ls, .inl (x >>> (y &&& 31)) :: st)
    | _ => none
  | .iushr => match st with
    | .inl y :: .inl x :: st => some (ls, .inl (x.toUInt32 >>> (y.toUInt32 &&& Int32.toUInt32 31)).toInt32 :: st)
    | _ => none
  | .ineg => match st with
    | .inl x :: st => some (ls, .inl (-x) :: st)
    | _ => none
  | .ladd => match st with
    | .inr (.inl y) :: .inr (.inl x) :: st => some (ls, .inr (.inl (x + y)) :: st)
    | _ => none
  | .lsub => match st with
    | .inr (.inl y) :: .inr (.inl x) :: st => some (ls, .inr (.inl (x - y)) :: st)
    | _ => none
  | .lmul => match st with
    | .inr (.inl y) :: .inr (.inl x) :: st => some (ls, .inr (.inl (x * y)) :: st)
    | _ => none
  | .land => match st with
    | .inr (.inl y) :: .inr (.inl x) :: st => some (ls, .inr (.inl (x &&& y)) :: st)
    | _ => none
  | .lor => match st with
    | .inr (.inl y) :: .inr (.inl x) :: st => some (ls, .inr (.inl (x ||| y)) :: st)
    | _ => none
  | .lxor => match st with
    | .inr (.inl y) :: .inr (.inl x) :: st => some (ls, .inr (.inl (x ^^^ y)) :: st)
    | _ => none
  | .lneg => match st with
    | .inr (.inl x) :: st => some (ls, .inr (.inl (-x)) :: st)
    | _ => none
  | .lshl => match st with
    | .inl y :: .inr (.inl x) :: st => some (ls, .inr (.inl (x <<< (y.toInt64 &&& 63))) :: st)
    | _ => none
  | .lshr => match st with
    | .inl y :: .inr (.inl x) :: st => some (ls, .inr (.inl (x >>> (y.toInt64 &&& 63))) :: st)
    | _ => none
  | .lushr => match st with
    | .inl y :: .inr (.inl x) :: st => some (ls, .inr (.inl (x.toUInt64 >>> (y.toInt64.toUInt64 &&& Int64.toUInt64 63)).toInt64) :: st)
    | _ => none
  | .lcmp => match st with
    | .inr (.inl y) :: .inr (.inl x) :: st => some (ls, .inl (lg_cmp x y) :: st)
    | _ => none
  | .i2l => match st with
    | .inl x :: st => some (ls, .inr (.inl x.toInt64) :: st)
    | _ => none
  | .l2i => match st with
    | .inr (.inl x) :: st => some (ls, .inl x.toInt32 :: st)
    | _ => none
  | .dup => match st with
    | .inl x :: st => some (ls, .inl x :: .inl x :: st)
    | .inr (.inr r) :: st => some (ls, .inr (.inr r) :: .inr (.inr r) :: st)
    | _ => none
  | .pop => match st with
    | .inl _ :: st => some (ls, st)
    | .inr (.inr _) :: st => some (ls, st)
    | _ => none
  | .dup_x1 => match st with
    | .inl a :: .inr (.inr r) :: st => some (ls, .inl a :: .inr (.inr r) :: .inl a :: st)
    | _ => none
  | .dup2 => match st with
    | .inl a :: .inr (.inr r) :: st => some (ls, .inl a :: .inr (.inr r) :: .inl a :: .inr (.inr r) :: st)
    | _ => none
  | _ => none
/-- a branch: on what it is taken, and the stack behind it -/
def brOp (ins : Instr) (st : List AV) : Option (Prop × List AV) :=
  match ins with
  | .ifCond .eq _ => match st with
    | .inl x :: st => some (x = 0, st)
    | _ => none
  | .ifCond .ne _ => match st with
    | .inl x :: st => some (¬ x = 0, st)
    | _ => none
  | .ifCond .lt _ => match st with
    | .inl x :: st => some (x < 0, st)
    | _ => none
  | .ifCond .ge _ => match st with
    | .inl x :: st => some (0 ≤ x, st)
    | _ => none
  | .ifCond .gt _ => match st with
    | .inl x :: st => some (0 < x, st)
    | _ => none
  | .ifCond .le _ => match st with
    | .inl x :: st => some (x ≤ 0, st)
    | _ => none
  | .if_icmp .eq _ => match st with
    | .inl y :: .inl x :: st => some (x = y, st)
    | _ => none
  | .if_icmp .ne _ => match st with
    | .inl y :: .inl x :: st => some (¬ x = y, st)
    | _ => none
  | .if_icmp .lt _ => match st with
    | .inl y :: .inl x :: st => some (x < y, st)
    | _ => none
  | .if_icmp .ge _ => match st with
    | .inl y :: .inl x :: st => some (y ≤ x, st)
    | _ => none
  | .if_icmp .gt _ => match st with
    | .inl y :: .inl x :: st => some (y < x, st)
    | _ => none
  | .if_icmp .le _ => match st with
    | .inl y :: .inl x :: st => some (x ≤ y, st)
    | _ => none
  | .ifnull _ => match st with
    | .inr (.inr (t, _)) :: st => some (t = 0, st)
    | _ => none
  | _ => none
/-- an instruction: its family, itself, its length, three numbers, an int, a long, a table of ways -/
abbrev AI : Type := Nat × Instr × Nat × Nat × Nat × Nat × Int32 × Int64 × List (Int32 × Nat)
abbrev q0 (i : Instr) (n : Nat) : AI := (0, i, n, 0, 0, 0, 0, 0, [])
abbrev qc (i : Instr) (n : Nat) (c : Int32) : AI := (0, i, n, 0, 0, 0, c, 0, [])
abbrev qw (i : Instr) (n : Nat) (w : Int64) : AI := (0, i, n, 0, 0, 0, 0, w, [])
abbrev qb (i : Instr) (x : Nat) : AI := (1, i, 3, x, 0, 0, 0, 0, [])
abbrev qn (f : Nat) (i : Instr) (n x z u : Nat) : AI := (f, i, n, x, z, u, 0, 0, [])
def fnd (pc : Nat) : List (Nat × AI) → Option AI
  | [] => none
  | q :: l => match Nat.beq q.1 pc with
    | true => some q.2
    | false => fnd pc l
/-- pieces of a method's code, each with the pc behind it -/
def fndC (pc : Nat) : List (Nat × List (Nat × AI)) → Option AI
  | [] => none
  | q :: l => match Nat.ble q.1 pc with
    | true => fndC pc l
    | false => fnd pc q.2
def swP (P : Nat → Prop) (d : Nat) (x : Int32) : List (Int32 × Nat) → Prop
  | [] => P d
  | q :: l => (x = q.1 → P q.2) ∧ (¬ x = q.1 → swP P d x l)
