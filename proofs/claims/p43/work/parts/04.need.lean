/-! WHAT THE CODE NEEDS OF THE WORDS, checked by the kernel piece by piece (written by wip/p43/gencheck.py) -/
def cT (ci : Nat) : u_T := (nth ("", (fun _ => ("", "", "", false)), 0) vwCl ci).2.1
def cN (ci : Nat) : String := (nth ("", (fun _ => ("", "", "", false)), 0) vwCl ci).1
def cF (ci : Nat) : Nat := (nth ("", (fun _ => ("", "", "", false)), 0) vwCl ci).2.2
def nestW : List Cond := [.methodLinkNest "SaidBack$Book" 25 ⟨"SaidBack$Tape", "<init>", "()V"⟩ "SaidBack", .methodLinkNest "SaidBack$Book" 34 ⟨"SaidBack$Village", "<init>", "()V"⟩ "SaidBack", .methodLinkNest "SaidBack$Book" 35 ⟨"SaidBack$Telling", "<init>", "()V"⟩ "SaidBack", .methodLinkNest "SaidBack" 26 ⟨"SaidBack$Reader", "<init>", "()V"⟩ "SaidBack", .methodLinkNest "SaidBack$Reader" 11 ⟨"SaidBack$Village", "<init>", "()V"⟩ "SaidBack", .methodLinkNest "SaidBack$Reader" 20 ⟨"SaidBack$Telling", "<init>", "()V"⟩ "SaidBack", .methodLinkNest "SaidBack" 33 ⟨"SaidBack$Run", "<init>", "()V"⟩ "SaidBack", .methodLinkNest "SaidBack$Run" 11 ⟨"SaidBack$Village", "<init>", "()V"⟩ "SaidBack", .methodLinkNest "SaidBack$Run" 20 ⟨"SaidBack$Given", "<init>", "()V"⟩ "SaidBack", .methodLinkNest "SaidBack$Run" 27 ⟨"SaidBack$Days", "<init>", "()V"⟩ "SaidBack", .methodLinkNest "SaidBack$Days" 11 ⟨"SaidBack$Side", "<init>", "()V"⟩ "SaidBack", .methodLinkNest "SaidBack" 54 ⟨"SaidBack$Ways", "<init>", "()V"⟩ "SaidBack"]
def bStrLen : ByteArray := prog_18_method_54_code
def bStrAt : ByteArray := prog_18_method_56_code
/-- the class of the references in an array of a sort -/
def aC : Nat → Nat
  | 3 => 9
  | 4 => 8
  | 5 => 0
  | _ => 99
def strB : List (List Int32) := [[112, 101, 111, 112, 108, 101], [102, 105, 114, 115, 116], [108, 97, 115, 116], [109, 111, 115, 116], [116, 105, 108, 108], [98, 111, 116, 104], [111, 110, 99, 101], [100, 111, 117, 98, 116], [116, 105, 101], [115, 108, 111, 119], [116, 105, 114, 101, 115], [119, 111, 114, 100], [100, 101, 110, 121], [119, 97, 108, 108]]
def strW : List (Nat × String) := [(168, "people"), (169, "first"), (171, "last"), (173, "most"), (175, "till"), (177, "both"), (179, "once"), (181, "doubt"), (182, "tie"), (184, "slow"), (185, "tires"), (187, "word"), (189, "deny"), (191, "wall")]
def need (y : Nat) (a : AI) : List Cond :=
  match a with
  | (0, .ldc i, _, _, _, _, c, _, _) => [.constant (mC y) i c]
  | (0, .ldc_w i, _, _, _, _, c, _, _) => [.constant (mC y) i c]
  | (0, .ldc2_w i, _, _, _, _, _, w, _) => [.constantLong (mC y) i w]
  | (3, .getfield i, _, x, z, _, _, _, _) => [.fieldLink (mC y) i (cT z x).1 (cT z x).2.1 (cT z x).2.2.1]
  | (4, .putfield i, _, x, z, _, _, _, _) => [.fieldLink (mC y) i (cT z x).1 (cT z x).2.1 (cT z x).2.2.1]
  | (14, .getfield i, _, x, z, _, _, _, _) => [.fieldLink (mC y) i (cT z x).1 (cT z x).2.1 (cT z x).2.2.1]
  | (15, .putfield i, _, x, z, _, _, _, _) => [.fieldLink (mC y) i (cT z x).1 (cT z x).2.1 (cT z x).2.2.1]
  | (13, .invokevirtual i, _, x, _, _, _, _, _) => [.methodLink (mC y) i (mN x), .instanceMethod (mN x), .selects (mC x) (mN x) (mN x), .initialized (mC x), .code (mN x) (mB x) (mL x) (mR x)]
  | (13, .invokestatic i, _, x, _, _, _, _, _) => [.methodLink (mC y) i (mN x), .static (mN x), .initialized (mC x), .code (mN x) (mB x) (mL x) (mR x)]
  | (13, .invokespecial i, _, x, _, _, c, _, _) => if c = 1 then [.instanceMethod (mN x), .initialized (mC x), .code (mN x) (mB x) (mL x) (mR x)] else [.methodLink (mC y) i (mN x), .instanceMethod (mN x), .initialized (mC x), .code (mN x) (mB x) (mL x) (mR x)]
  | (8, .invokestatic i, _, 0, _, _, _, _, _) => [.methodLink (mC y) i Lib.Math.max.name, .static Lib.Math.max.name, .initialized "java/lang/Math", .code Lib.Math.max.name Lib.Math.max.code 2 (some .int)]
  | (8, .invokestatic i, _, 1, _, _, _, _, _) => [.methodLink (mC y) i Lib.Math.min.name, .static Lib.Math.min.name, .initialized "java/lang/Math", .code Lib.Math.min.name Lib.Math.min.code 2 (some .int)]
  | (8, .invokevirtual i, _, 2, _, _, _, _, _) => [.methodLink (mC y) i yStrLen, .instanceMethod yStrLen, .selects "java/lang/String" yStrLen yStrLen, .initialized "java/lang/String", .code yStrLen bStrLen 1 (some .int)]
  | (8, .invokevirtual i, _, 3, _, _, _, _, _) => [.methodLink (mC y) i yStrAt, .instanceMethod yStrAt, .selects "java/lang/String" yStrAt yStrAt, .initialized "java/lang/String", .code yStrAt bStrAt 2 (some .char)]
  | (8, .invokestatic i, _, 4, _, _, _, _, _) => [.methodLink (mC y) i arraycopyName, .static arraycopyName, .initialized "java/lang/System", .native arraycopyName]
  | (8, .invokespecial i, _, 5, _, _, _, _, _) => [.methodLink (mC y) i Lib.objectInit, .instanceMethod Lib.objectInit, .code Lib.objectInit ⟨#[0xb1]⟩ 1 none]
  | (18, .new i, _, x, z, _, _, _, _) => [.classLink (mC y) i (cN x), .instantiable (cN x) z, .initialized (cN x)]
  | (19, .newarray t, _, _, _, _, _, _, _) => [.arrayClass (newarray.typeOf t)]
  | (20, .anewarray i, _, _, z, _, _, _, _) => [.classLink (mC y) i (cN (aC z))]
  | (21, .newarray t, _, _, _, _, _, _, _) => [.arrayClass (newarray.typeOf t)]
  | (11, .getstatic i, _, _, _, _, _, _, _) => [.fieldLink (mC y) i "SaidBackLaw" "KINDS" "[J"]
  | _ => []
/-- the words in their pieces -/
def tb : Nat → List Cond
  | 1 => tables_1_1
  | 2 => tables_1_2
  | 3 => tables_1_3
  | 4 => tables_1_4
  | 5 => tables_1_5
  | 11 => k2_sels lw_privs_1
  | 12 => k2_sels lw_privs_2
  | _ => []
theorem tb_in : ∀ (k : Nat) (w : Cond), w ∈ tb k → w ∈ lw_tbl := by
  have hs : ∀ w, w ∈ tables_1 → w ∈ lw_tbl := fun w h => List.mem_append_right _ h
  have hp : ∀ l, (∀ q ∈ l, q ∈ lw_privs) → ∀ w, w ∈ k2_sels l → w ∈ lw_tbl := by
    intro l hl w h
    obtain ⟨q, hq, rfl⟩ := List.mem_map.mp h
    exact List.mem_append_left _ (List.mem_map.mpr ⟨q, hl q hq, rfl⟩)
  intro k w h
  unfold tb at h
  split at h
  · exact hs w (by unfold tables_1; simp only [List.mem_append]; exact Or.inl h)
  · exact hs w (by unfold tables_1; simp only [List.mem_append]; exact Or.inr (Or.inl h))
  · exact hs w (by unfold tables_1; simp only [List.mem_append]; exact Or.inr (Or.inr (Or.inl h)))
  · exact hs w (by unfold tables_1; simp only [List.mem_append]; exact Or.inr (Or.inr (Or.inr (Or.inl h))))
  · exact hs w (by unfold tables_1; simp only [List.mem_append]; exact Or.inr (Or.inr (Or.inr (Or.inr h))))
  · exact hp _ (fun q hq => by unfold lw_privs; simp only [List.mem_append]; exact Or.inl hq) w h
  · exact hp _ (fun q hq => by unfold lw_privs; simp only [List.mem_append]; exact Or.inr hq) w h
  · cases h
def nd : List Cond → List Nat → Bool
  | [], [] => true
  | w :: l, i :: r => decide ((tb (i / 1000))[i % 1000]? = some w) && (goodWord w && nd l r)
  | _, _ => false
def fU : FieldType → Nat
  | .int => 0
  | .long => 1
  | .boolean => 3
  | .object _ => 2
  | .array _ => 2
  | _ => 9
def swOK (pc : Nat) (lo : Int) : List Int → List (Int32 × Nat) → Bool
  | [], [] => true
  | o :: os, q :: qs => decide (q.1.toInt = lo) && (decide ((pc : Int) + o = (q.2 : Int)) && swOK pc (lo + 1) os qs)
  | _, _ => false
def callOK (y x : Nat) : Bool := decide (mH x + 1 ≤ mH y) && (decide (8 + (mL x + 11) + mW x ≤ mW y) && (decide (mC x ≠ "java/lang/invoke/MethodHandle") && (decide (mC x ≠ "java/lang/invoke/VarHandle") && decide (plainName (mC x) = true))))
def parN (x : Nat) : Option Nat := (parseMethodDescriptor (mN x).desc).map (fun d => d.parameters.length)
/-- that the numbers beside an instruction are what its operands say -/
def sok (y pc : Nat) (a : AI) : Bool :=
  match a with
  | (0, .iconst i, n, _, _, _, c, _, _) => decide (Int32.ofInt i = c) && decide (n = 1)
  | (0, .bipush i, n, _, _, _, c, _, _) => decide ((Int8.ofInt i).toInt32 = c) && decide (n = 2)
  | (0, .sipush i, n, _, _, _, c, _, _) => decide ((Int16.ofInt i).toInt32 = c) && decide (n = 3)
  | (0, .ldc _, n, _, _, _, _, _, _) => decide (n = 2)
  | (0, .ldc_w _, n, _, _, _, _, _, _) => decide (n = 3)
  | (0, .lconst i, n, _, _, _, _, w, _) => decide (Int64.ofNat (i : Nat) = w) && decide (n = 1)
  | (0, .ldc2_w _, n, _, _, _, _, _, _) => decide (n = 3)
  | (0, .iload _, n, _, _, _, _, _, _) => decide (n = 2)
  | (0, .lload _, n, _, _, _, _, _, _) => decide (n = 2)
  | (0, .aload _, n, _, _, _, _, _, _) => decide (n = 2)
  | (0, .istore i, n, _, _, _, _, _, _) => decide (n = 2) && decide (i < mL y)
  | (0, .lstore i, n, _, _, _, _, _, _) => decide (n = 2) && decide (i + 1 < mL y)
  | (0, .astore i, n, _, _, _, _, _, _) => decide (n = 2) && decide (i < mL y)
  | (0, .istore_n i, n, _, _, _, _, _, _) => decide (n = 1) && decide (i.val < mL y)
  | (0, .lstore_n i, n, _, _, _, _, _, _) => decide (n = 1) && decide (i.val + 1 < mL y)
  | (0, .astore_n i, n, _, _, _, _, _, _) => decide (n = 1) && decide (i.val < mL y)
  | (0, .iinc i d, n, _, _, _, c, _, _) => decide (n = 3) && (decide (i < mL y) && decide (Int32.ofInt d = c))
  | (0, _, n, _, _, _, _, _, _) => decide (n = 1)
  | (1, .ifCond _ o, n, x, _, _, _, _, _) => decide ((pc : Int) + o = (x : Int)) && decide (n = 3)
  | (1, .if_icmp _ o, n, x, _, _, _, _, _) => decide ((pc : Int) + o = (x : Int)) && decide (n = 3)
  | (1, .ifnull o, n, x, _, _, _, _, _) => decide ((pc : Int) + o = (x : Int)) && decide (n = 3)
  | (2, .goto o, n, x, _, _, _, _, _) => decide ((pc : Int) + o = (x : Int)) && decide (n = 3)
  | (3, .getfield _, n, x, z, u, _, _, _) => decide (n = 3) && (decide (z < 12) && (decide (x < cF z) && (match parseFieldDescriptor (cT z x).2.2.1 with
    | some t => decide (u = fU t % 3) && decide (u < 2)
    | none => false)))
  | (4, .putfield _, n, x, z, u, _, _, _) => decide (n = 3) && (decide (z < 12) && (decide (x < cF z) && ((match parseFieldDescriptor (cT z x).2.2.1 with
    | some t => decide (u = fU t) && decide (u ≠ 2)
    | none => false) && (!(cT z x).2.2.2 || decide ((mN y).name = "<init>") && decide ((cT z x).1 = mC y)))))
  | (14, .getfield _, n, x, z, u, _, _, _) => decide (n = 3) && (decide (z < 12) && (decide (x < cF z) && (match parseFieldDescriptor (cT z x).2.2.1 with
    | some t => decide (2 = fU t % 3)
    | none => false)))
  | (15, .putfield _, n, x, z, u, _, _, _) => decide (n = 3) && (decide (z < 12) && (decide (x < cF z) && ((match parseFieldDescriptor (cT z x).2.2.1 with
    | some t => decide (2 = fU t)
    | none => false) && (!(cT z x).2.2.2 || decide ((mN y).name = "<init>") && decide ((cT z x).1 = mC y)))))
  | (5, _, n, _, _, _, _, _, _) => decide (n = 1)
  | (6, _, n, _, _, _, _, _, _) => decide (n = 1)
  | (7, .arraylength, n, _, _, _, _, _, _) => decide (n = 1)
  | (16, .aaload, n, _, _, _, _, _, _) => decide (n = 1)
  | (17, .aastore, n, _, _, _, _, _, _) => decide (n = 1)
  | (13, .invokevirtual _, n, x, _, _, _, _, _) => decide (n = 3) && (callOK y x && (decide (0 < mA x) && (decide (parN x = some (mA x - 1)) && (decide (cN (mK x) = mC x) && decide (mK x < 12)))))
  | (13, .invokestatic _, n, x, _, _, _, _, _) => decide (n = 3) && (callOK y x && decide (parN x = some (mA x)))
  | (13, .invokespecial i, n, x, _, _, c, _, _) => decide (n = 3) && (callOK y x && (decide (0 < mA x) && (decide (parN x = some (mA x - 1)) && (decide ((mN x).name = "<init>") && (decide (mR x = none) && (decide (mS x = 0) && (decide (c = 0) || decide (c = 1) && decide (Cond.methodLinkNest (mC y) i (mN x) "SaidBack" ∈ nestW))))))))
  | (8, .invokestatic _, n, 0, _, _, _, _, _) => decide (n = 3) && (decide (1 ≤ mH y) && decide (21 ≤ mW y))
  | (8, .invokestatic _, n, 1, _, _, _, _, _) => decide (n = 3) && (decide (1 ≤ mH y) && decide (21 ≤ mW y))
  | (8, .invokevirtual _, n, 2, _, _, _, _, _) => decide (n = 3) && (decide (3 ≤ mH y) && decide (60 ≤ mW y))
  | (8, .invokevirtual _, n, 3, _, _, _, _, _) => decide (n = 3) && (decide (5 ≤ mH y) && decide (100 ≤ mW y))
  | (8, .invokestatic _, n, 4, _, _, _, _, _) => decide (n = 3) && (decide (1 ≤ mH y) && decide (26 ≤ mW y))
  | (8, .invokespecial _, n, 5, _, _, _, _, _) => decide (n = 3) && (decide (1 ≤ mH y) && decide (20 ≤ mW y))
  | (12, .ireturn, n, _, z, _, _, _, _) => decide (n = 1) && (decide (z = 1) && decide (mR y = some .int) || decide (z = 2) && decide (mR y = some .boolean))
  | (12, .lreturn, n, _, z, _, _, _, _) => decide (n = 1) && (decide (z = 3) && decide (mR y = some .long))
  | (12, .areturn, n, _, z, _, _, _, _) => decide (n = 1) && (decide (z = 4) && (match mR y with
    | some (.object _) => true
    | some (.array _) => true
    | _ => false))
  | (12, .return_, n, _, z, _, _, _, _) => decide (n = 1) && (decide (z = 0) && decide (mR y = none))
  | (9, .tableswitch d lo hi os, _, x, _, _, _, _, sw) => decide ((pc : Int) + d = (x : Int)) && (decide ((sw.length : Int) = hi - lo + 1) && swOK pc lo os.toList sw)
  | (10, .irem, n, _, _, _, _, _, _) => decide (n = 1)
  | (10, .ldiv, n, _, _, _, _, _, _) => decide (n = 1)
  | (10, .idiv, n, _, _, _, _, _, _) => decide (n = 1)
  | (10, .lrem, n, _, _, _, _, _, _) => decide (n = 1)
  | (21, .newarray t, n, _, _, _, _, _, _) => decide (n = 2) && decide (newarray.typeOf t = .int)
  | (11, .getstatic _, n, _, _, _, _, _, _) => decide (n = 3) && decide (mC y = "SaidBackLaw")
  | (18, .new _, n, x, z, _, _, _, _) => decide (n = 3) && (decide (x < 12) && decide (z = cF x))
  | (19, .newarray t, n, x, z, _, c, _, _) => decide (n = 2) && (decide (newarray.typeOf t = (if z = 0 then .int else if z = 1 then .boolean else .long)) && (decide (z < 3) && (decide (¬ c < 0) && (decide (c.toNatClampNeg = x) && decide (x < 1000000)))))
  | (20, .anewarray _, n, x, z, _, c, _, _) => decide (n = 3) && (decide (2 < z) && (decide (z < 6) && (decide (¬ c < 0) && (decide (c.toNatClampNeg = x) && decide (x < 1000000)))))
  | (11, .ldc i, n, x, _, _, _, _, _) => decide (n = 2) && (decide (mC y = "SaidBack$Reader") && (decide (x < 14) && decide ((nth (0, "") strW x).1 = i)))
  | _ => false
def chk1 (y : Nat) (q : Nat × AI) (ix : List Nat) : Bool := decide (decode (mB y) q.1 = .ok (q.2.2.1, q.2.2.2.1)) && (sok y q.1 q.2 && nd (need y q.2) ix)
def chk (y : Nat) : List (Nat × AI) → List (List Nat) → Bool
  | [], [] => true
  | q :: l, i :: r => chk1 y q i && chk y l r
  | _, _ => false
