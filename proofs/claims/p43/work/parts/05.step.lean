/-! STEPS OF THE SMALL MACHINE: what must hold next, so that a method ends as K says. -/
def kndL : List Int64 := [439855772532, 1818325876, 1836020596, 1953066092, 1651471464, 1869505381]
def knd (j : Nat) : Int64 := kndL.getD j 0
def slen (k : Nat) : Nat := (nth [] strB k).length
def sch (k j : Nat) : Int32 := (nth [] strB k).getD j 0
/-- a next place: pc, locals, stack, memory -/
abbrev SC : Type := Nat × List AV × List AV × MI × ML
abbrev one (s : SC) : Option (Option Prop × (SC ⊕ (Prop × SC × SC))) := some (none, .inl s)
abbrev onc (P : Prop) (s : SC) : Option (Option Prop × (SC ⊕ (Prop × SC × SC))) := some (some P, .inl s)
/-- the instructions that read and write numbers: what must hold, and what comes next -/
def comR (pc : Nat) (ls st : List AV) (I : MI) (L : ML) (fam : Nat) (ins : Instr) (n x z u : Nat) (c : Int32) (w : Int64) : Option (Option Prop × (SC ⊕ (Prop × SC × SC))) :=
  match fam with
  | 0 => match pureOp ins c w ls st with
    | some r => one (pc + n, r.1, r.2, I, L)
    | none => none
  | 1 => match brOp ins st with
    | some r => some (none, .inr (r.1, (x, ls, r.2, I, L), (pc + n, ls, r.2, I, L)))
    | none => none
  | 2 => one (x, ls, st, I, L)
  | 3 => match st with
    | .inr (.inr (t, r)) :: st => match Nat.beq t (10 + z) with
      | true => match u with
        | 0 => one (pc + n, ls, .inl (I r x) :: st, I, L)
        | _ => one (pc + n, ls, .inr (.inl (L r x)) :: st, I, L)
      | false => none
    | _ => none
  | 4 => match st with
    | .inl v :: .inr (.inr (t, r)) :: st => match Nat.beq t (10 + z) with
      | true => match u with
        | 0 => one (pc + n, ls, st, sI I r x v, L)
        | 3 => onc (v = 0 ∨ v = 1) (pc + n, ls, st, sI I r x v, L)
        | _ => none
      | false => none
    | .inr (.inl v) :: .inr (.inr (t, r)) :: st => match Nat.beq t (10 + z) with
      | true => match u with
        | 1 => one (pc + n, ls, st, I, sL L r x v)
        | _ => none
      | false => none
    | _ => none
  | 5 => match st with
    | .inl i :: .inr (.inr (t, k)) :: st => match ins with
      | .iaload => match Nat.beq t 3 with
        | true => onc (vp_in i (I 100001 0).toNatClampNeg) (pc + n, ls, .inl (I 100000 i.toNatClampNeg) :: st, I, L)
        | false => match Nat.beq t 4 with
          | true => onc (vp_in i (I (200000 + k) 0).toNatClampNeg) (pc + n, ls, .inl (I k i.toNatClampNeg) :: st, I, L)
          | false => match Nat.beq (tS t) 0 with
            | true => onc (vp_in i (tN t)) (pc + n, ls, .inl (I k i.toNatClampNeg) :: st, I, L)
            | false => none
      | .baload => match Nat.beq (tS t) 1 with
        | true => onc (vp_in i (tN t)) (pc + n, ls, .inl (I k i.toNatClampNeg) :: st, I, L)
        | false => none
      | .laload => match Nat.beq t 5 with
        | true => onc (vp_in i 6) (pc + n, ls, .inr (.inl (knd i.toNatClampNeg)) :: st, I, L)
        | false => match Nat.beq (tS t) 2 with
          | true => onc (vp_in i (tN t)) (pc + n, ls, .inr (.inl (L k i.toNatClampNeg)) :: st, I, L)
          | false => none
      | _ => none
    | _ => none
  | 6 => match st with
    | .inl v :: .inl i :: .inr (.inr (t, k)) :: st => match ins with
      | .iastore => match Nat.beq t 4 with
        | true => onc (vp_in i (I (200000 + k) 0).toNatClampNeg) (pc + n, ls, st, sI I k i.toNatClampNeg v, L)
        | false => match Nat.beq (tS t) 0 with
          | true => onc (vp_in i (tN t)) (pc + n, ls, st, sI I k i.toNatClampNeg v, L)
          | false => none
      | .bastore => match Nat.beq (tS t) 1 with
        | true => onc (vp_in i (tN t) ∧ (v = 0 ∨ v = 1)) (pc + n, ls, st, sI I k i.toNatClampNeg v, L)
        | false => none
      | _ => none
    | .inr (.inl v) :: .inl i :: .inr (.inr (t, k)) :: st => match ins with
      | .lastore => match Nat.beq (tS t) 2 with
        | true => onc (vp_in i (tN t)) (pc + n, ls, st, I, sL L k i.toNatClampNeg v)
        | false => none
      | _ => none
    | _ => none
  | 7 => match st with
    | .inr (.inr (t, k)) :: st => match Nat.beq t 3 with
      | true => one (pc + n, ls, .inl (I 100001 0) :: st, I, L)
      | false => match Nat.beq t 4 with
       | true => one (pc + n, ls, .inl (I (200000 + k) 0) :: st, I, L)
       | false => match Nat.ble 100 t && Nat.ble (tS t) 5 with
        | true => one (pc + n, ls, .inl (Int32.ofNat (tN t)) :: st, I, L)
        | false => none
    | _ => none
  | 8 => match x with
    | 0 => match st with
      | .inl b :: .inl a :: st => match Nat.ble st.length 4 with
        | true => one (pc + n, ls, .inl (if a < b then b else a) :: st, I, L)
        | false => none
      | _ => none
    | 1 => match st with
      | .inl b :: .inl a :: st => match Nat.ble st.length 4 with
        | true => one (pc + n, ls, .inl (if b < a then b else a) :: st, I, L)
        | false => none
      | _ => none
    | 2 => match st with
      | .inr (.inr (t, k)) :: st => match Nat.beq t 2 && Nat.ble st.length 4 with
        | true => one (pc + n, ls, .inl (Int32.ofNat (slen k)) :: st, I, L)
        | false => none
      | _ => none
    | 3 => match st with
      | .inl i :: .inr (.inr (t, k)) :: st => match Nat.beq t 2 && Nat.ble st.length 4 with
        | true => onc (vp_in i (slen k)) (pc + n, ls, .inl (sch k i.toNatClampNeg) :: st, I, L)
        | false => none
      | _ => none
    | 4 => match st with
      | .inl m :: .inl dp :: .inr (.inr (t1, k1)) :: .inl sp :: .inr (.inr (t0, k0)) :: st => match Nat.beq (tS t0) 0 && (Nat.beq (tS t1) 0 && Nat.ble st.length 4) with
        | true => onc (¬ sp < 0 ∧ ¬ dp < 0 ∧ ¬ m < 0 ∧ sp.toNatClampNeg + m.toNatClampNeg ≤ tN t0 ∧ dp.toNatClampNeg + m.toNatClampNeg ≤ tN t1) (pc + n, ls, st, aI I k1 (va_cpy (I k0) (I k1) sp.toNatClampNeg dp.toNatClampNeg m.toNatClampNeg), L)
        | false => none
      | _ => none
    | 5 => match st with
      | .inr (.inr (t, _)) :: st => match Nat.ble 10 t && Nat.ble st.length 4 with
        | true => one (pc + n, ls, st, I, L)
        | false => none
      | _ => none
    | _ => none
  | 10 => match ins with
    | .irem => match st with
      | .inl b :: .inl a :: st => onc (¬ b = 0) (pc + n, ls, .inl (a - a / b * b) :: st, I, L)
      | _ => none
    | .ldiv => match st with
      | .inr (.inl b) :: .inr (.inl a) :: st => onc (¬ b = 0) (pc + n, ls, .inr (.inl (a / b)) :: st, I, L)
      | _ => none
    | .idiv => match st with
      | .inl b :: .inl a :: st => onc (¬ b = 0) (pc + n, ls, .inl (a / b) :: st, I, L)
      | _ => none
    | .lrem => match st with
      | .inr (.inl b) :: .inr (.inl a) :: st => onc (¬ b = 0) (pc + n, ls, .inr (.inl (a - a / b * b)) :: st, I, L)
      | _ => none
    | _ => none
  | 11 => match ins with
    | .getstatic _ => one (pc + n, ls, vr 5 0 :: st, I, L)
    | _ => one (pc + n, ls, vr 2 x :: st, I, L)
  | _ => none
def fin (N : Nat → List AV → List AV → MI → ML → Prop) : SC ⊕ (Prop × SC × SC) → Prop
  | .inl (p, l, s, I, L) => N p l s I L
  | .inr (c, (p, l, s, I, L), (p', l', s', I', L')) => (c → N p l s I L) ∧ (¬ c → N p' l' s' I' L')
def obl (N : Nat → List AV → List AV → MI → ML → Prop) : Option Prop × (SC ⊕ (Prop × SC × SC)) → Prop
  | (none, r) => fin N r
  | (some P, r) => P ∧ fin N r
def com (N : Nat → List AV → List AV → MI → ML → Prop) (pc : Nat) (ls st : List AV) (I : MI) (L : ML) (fam : Nat) (ins : Instr) (n x z u : Nat) (c : Int32) (w : Int64) (sw : List (Int32 × Nat)) : Prop :=
  match Nat.beq fam 9 with
  | true => match st with
    | .inl v :: st => swP (fun t => N t ls st I L) x v sw
    | _ => False
  | false => match comR pc ls st I L fam ins n x z u c w with
    | some r => obl N r
    | none => False
theorem swP_mono {P P' : Nat → Prop} (h : ∀ t, P t → P' t) (d : Nat) (x : Int32) : ∀ l, swP P d x l → swP P' d x l
  | [], k => h d k
  | _ :: l, k => ⟨fun e => h _ (k.1 e), fun e => swP_mono h d x l (k.2 e)⟩
theorem obl_mono {N N' : Nat → List AV → List AV → MI → ML → Prop} (h : ∀ pc ls st I L, N pc ls st I L → N' pc ls st I L) {r : Option Prop × (SC ⊕ (Prop × SC × SC))} (k : obl N r) : obl N' r := by
  have hf : ∀ r, fin N r → fin N' r := by
    intro r
    rcases r with ⟨p, l, s, I, L⟩ | ⟨c, ⟨p, l, s, I, L⟩, ⟨p', l', s', I', L'⟩⟩
    · exact h _ _ _ _ _
    · exact fun q => ⟨fun e => h _ _ _ _ _ (q.1 e), fun e => h _ _ _ _ _ (q.2 e)⟩
  obtain ⟨o, r⟩ := r
  cases o with
  | none => exact hf r k
  | some P => exact ⟨k.1, hf r k.2⟩
theorem com_mono {N N' : Nat → List AV → List AV → MI → ML → Prop} (h : ∀ pc ls st I L, N pc ls st I L → N' pc ls st I L) {pc : Nat} {ls st : List AV} {I : MI} {L : ML} {fam : Nat} {ins : Instr} {n x z u : Nat} {c : Int32} {w : Int64} {sw : List (Int32 × Nat)} : com N pc ls st I L fam ins n x z u c w sw → com N' pc ls st I L fam ins n x z u c w sw := by
  unfold com
  cases Nat.beq fam 9 with
  | true =>
    rcases st with _ | ⟨v | v, st⟩
    · exact id
    · exact swP_mono (fun t q => h _ _ _ _ _ q) _ _ _
    · exact id
  | false =>
    cases comR pc ls st I L fam ins n x z u c w with
    | none => exact id
    | some r => exact obl_mono h
abbrev KD : Type := AV → DS → MI → ML → Prop
abbrev XD : Type := Nat → Nat → List AV → List AV → DS → MI → ML → KD → Prop
def pushR : Nat → AV → List AV → List AV
  | 0, _, st => st
  | _ + 1, r, st => r :: st
def rcvOK (ins : Instr) (x : Nat) (args : List AV) : Bool := match ins with
  | .invokestatic _ => true
  | _ => match args with
    | .inr (.inr (t, _)) :: _ => Nat.beq t (10 + mK x)
    | _ => false
/-- an answer, as the return instruction gives it -/
def retR (ins : Instr) (z : Nat) (st : List AV) : Option (Option Prop × AV) := match ins with
  | .return_ => match st with
    | [] => some (none, un)
    | _ => none
  | .ireturn => match st with
    | [.inl v] => match z with
      | 1 => some (none, .inl v)
      | _ => some (some (v = 0 ∨ v = 1), .inl v)
    | _ => none
  | .lreturn => match st with
    | [.inr (.inl v)] => some (none, .inr (.inl v))
    | _ => none
  | .areturn => match st with
    | [.inr (.inr (t, k))] => match Nat.beq t 1 with
      | true => none
      | false => some (none, .inr (.inr (t, k)))
    | _ => none
  | _ => none
def retP (ins : Instr) (z : Nat) (st : List AV) (K : AV → Prop) : Prop := match retR ins z st with
  | some (none, r) => K r
  | some (some P, r) => P ∧ K r
  | none => False
theorem retP_mono {ins : Instr} {z : Nat} {st : List AV} {K K' : AV → Prop} (h : ∀ r, K r → K' r) : retP ins z st K → retP ins z st K' := by
  unfold retP
  cases retR ins z st with
  | none => exact id
  | some r =>
    obtain ⟨o, r⟩ := r
    cases o with
    | none => exact h r
    | some P => exact fun k => ⟨k.1, h r k.2⟩
abbrev SD : Type := Nat × List AV × List AV × DS × MI × ML
/-- the instructions on references, and those that make: what must hold, what may be taken as given, what comes next -/
def refR (pc : Nat) (ls st : List AV) (S : DS) (I : MI) (L : ML) (fam n x z : Nat) (c : Int32) : Option (Option Prop × Option Prop × SD) :=
  match fam with
  | 14 => match st with
    | .inr (.inr (t, r)) :: st => match Nat.beq t (10 + z) with
      | true => some (none, some (S.kd r = 10 + z ∧ r < S.n), (pc + n, ls, S.rf r x :: st, S, I, L))
      | false => none
    | _ => none
  | 15 => match st with
    | .inr (.inr (t2, k2)) :: .inr (.inr (t, r)) :: st => match Nat.beq t (10 + z) && !(Nat.beq t2 1) with
      | true => some (none, some (S.kd r = 10 + z ∧ r < S.n), (pc + n, ls, st, (S.n, S.kd, sR S.rf r x (.inr (.inr (t2, k2))), S.bc, S.bs), I, L))
      | false => none
    | _ => none
  | 16 => match st with
    | .inl i :: .inr (.inr (t, k)) :: st => match Nat.beq (tS t / 3) 1 with
      | true => some (some (vp_in i (tN t)), some (S.kd k = t ∧ k < S.n), (pc + n, ls, S.rf k i.toNatClampNeg :: st, S, I, L))
      | false => none
    | _ => none
  | 17 => match st with
    | .inr (.inr (t2, k2)) :: .inl i :: .inr (.inr (t, k)) :: st => match Nat.beq (tS t / 3) 1 && Nat.beq t2 (10 + aC (tS t)) with
      | true => some (some (vp_in i (tN t)), none, (pc + n, ls, st, (S.n, S.kd, sR S.rf k i.toNatClampNeg (.inr (.inr (t2, k2))), S.bc, S.bs), I, L))
      | false => none
    | _ => none
  | 18 => some (some (1 ≤ S.bc ∧ z ≤ S.bs), none, (pc + n, ls, vr (10 + x) S.n :: st, (S.n + 1, aK S.kd S.n (10 + x), aR S.rf S.n (fun _ => nul), S.bc - 1, S.bs - z), aI I S.n (fun _ => 0), aL L S.n (fun _ => 0)))
  | 19 => match st with
    | .inl v :: st => some (some (v = c ∧ 1 ≤ S.bc ∧ x ≤ S.bs), none, (pc + n, ls, vr (100 + 8 * x + z) S.n :: st, (S.n + 1, aK S.kd S.n (100 + 8 * x + z), aR S.rf S.n (fun _ => nul), S.bc - 1, S.bs - x), aI I S.n (fun _ => 0), aL L S.n (fun _ => 0)))
    | _ => none
  | 20 => match st with
    | .inl v :: st => some (some (v = c ∧ 1 ≤ S.bc ∧ x ≤ S.bs), none, (pc + n, ls, vr (100 + 8 * x + z) S.n :: st, (S.n + 1, aK S.kd S.n (100 + 8 * x + z), aR S.rf S.n (fun _ => nul), S.bc - 1, S.bs - x), aI I S.n (fun _ => 0), aL L S.n (fun _ => 0)))
    | _ => none
  | 21 => match st with
    | .inl v :: st => some (some (¬ v < 0 ∧ v.toNatClampNeg < 1000000 ∧ 1 ≤ S.bc ∧ v.toNatClampNeg ≤ S.bs), none, (pc + n, ls, vr 4 S.n :: st, (S.n + 1, aK S.kd S.n (100 + 8 * v.toNatClampNeg + 6), aR S.rf S.n (fun _ => nul), S.bc - 1, S.bs - v.toNatClampNeg), sI (aI I S.n (fun _ => 0)) (200000 + S.n) 0 v, aL L S.n (fun _ => 0)))
    | _ => none
  | _ => none
def oblD (N : SD → Prop) : Option Prop × Option Prop × SD → Prop
  | (none, none, s) => N s
  | (none, some G, s) => G → N s
  | (some P, none, s) => P ∧ N s
  | (some P, some G, s) => P ∧ (G → N s)
theorem oblD_mono {N N' : SD → Prop} (h : ∀ s, N s → N' s) {r : Option Prop × Option Prop × SD} (k : oblD N r) : oblD N' r := by
  obtain ⟨o, g, s⟩ := r
  cases o <;> cases g
  · exact h _ k
  · exact fun e => h _ (k e)
  · exact ⟨k.1, h _ k.2⟩
  · exact ⟨k.1, fun e => h _ (k.2 e)⟩
/-- how many words a stack has -/
def catL : List AV → Nat
  | [] => 0
  | .inl _ :: l => catL l + 1
  | .inr (.inl _) :: l => catL l + 2
  | .inr (.inr _) :: l => catL l + 1
/-- a call: its arguments, the stack behind them -/
def callR (st : List AV) (ins : Instr) (x : Nat) : Option (List AV × List AV) := match popN (mA x) st [] with
  | some r => match rcvOK ins x r.1 && (Nat.ble (catL r.2) 8 && Nat.ble (entL r.1).length (mL x)) with
    | true => some r
    | false => none
  | none => none
def dyn (X : XD) (y pc : Nat) (ls st : List AV) (S : DS) (I : MI) (L : ML) (K : KD) (fam : Nat) (ins : Instr) (n x z u : Nat) (c : Int32) : Prop :=
  match fam with
  | 12 => retP ins z st (fun r => K r S I L)
  | 13 => match callR st ins x with
    | some r => z ≤ S.bc ∧ u ≤ S.bs ∧ ∃ P : KD, X x 0 (padL (mL x) (entL r.1)) [] (S.n, S.kd, S.rf, z, u) I L P ∧ ∀ v S' I' L', P v S' I' L' → X y (pc + n) ls (pushR (mS x) v r.2) (S'.n, S'.kd, S'.rf, S.bc - z, S.bs - u) I' L' K
    | none => False
  | _ => match refR pc ls st S I L fam n x z c with
    | some r => oblD (fun s => X y s.1 s.2.1 s.2.2.1 s.2.2.2.1 s.2.2.2.2.1 s.2.2.2.2.2 K) r
    | none => False
theorem dyn_12 {X : XD} {y pc : Nat} {ls st : List AV} {S : DS} {I : MI} {L : ML} {K : KD} {ins : Instr} {n x z u : Nat} {c : Int32} : dyn X y pc ls st S I L K 12 ins n x z u c = retP ins z st (fun r => K r S I L) := rfl
theorem dyn_13 {X : XD} {y pc : Nat} {ls st : List AV} {S : DS} {I : MI} {L : ML} {K : KD} {ins : Instr} {n x z u : Nat} {c : Int32} : dyn X y pc ls st S I L K 13 ins n x z u c = (match callR st ins x with
    | some r => z ≤ S.bc ∧ u ≤ S.bs ∧ ∃ P : KD, X x 0 (padL (mL x) (entL r.1)) [] (S.n, S.kd, S.rf, z, u) I L P ∧ ∀ v S' I' L', P v S' I' L' → X y (pc + n) ls (pushR (mS x) v r.2) (S'.n, S'.kd, S'.rf, S.bc - z, S.bs - u) I' L' K
    | none => False) := rfl
theorem dyn_o {X : XD} {y pc : Nat} {ls st : List AV} {S : DS} {I : MI} {L : ML} {K : KD} {fam : Nat} {ins : Instr} {n x z u : Nat} {c : Int32} (h1 : fam ≠ 12) (h2 : fam ≠ 13) : dyn X y pc ls st S I L K fam ins n x z u c = (match refR pc ls st S I L fam n x z c with
    | some r => oblD (fun s => X y s.1 s.2.1 s.2.2.1 s.2.2.2.1 s.2.2.2.2.1 s.2.2.2.2.2 K) r
    | none => False) := by
  unfold dyn
  split
  · exact absurd rfl h1
  · exact absurd rfl h2
  · rfl
def stD (X : XD) (y pc : Nat) (ls st : List AV) (S : DS) (I : MI) (L : ML) (K : KD) (a : AI) : Prop := match Nat.ble a.1 11 with
  | true => com (fun pc ls st I L => X y pc ls st S I L K) pc ls st I L a.1 a.2.1 a.2.2.1 a.2.2.2.1 a.2.2.2.2.1 a.2.2.2.2.2.1 a.2.2.2.2.2.2.1 a.2.2.2.2.2.2.2.1 a.2.2.2.2.2.2.2.2
  | false => dyn X y pc ls st S I L K a.1 a.2.1 a.2.2.1 a.2.2.2.1 a.2.2.2.2.1 a.2.2.2.2.2.1 a.2.2.2.2.2.2.1
/-- from one family of aims to another: the places of this method by hN, the callee's by hC -/
theorem stD_to {X X' : XD} {K K' : KD} {y pc : Nat} {ls st : List AV} {S : DS} {I : MI} {L : ML} {a : AI} (hK : ∀ r S I L, K r S I L → K' r S I L) (hN : ∀ pc ls st S I L, X y pc ls st S I L K → X' y pc ls st S I L K') (hC : ∀ x ls S I L P, X x 0 ls [] S I L P → X' x 0 ls [] S I L P) : stD X y pc ls st S I L K a → stD X' y pc ls st S I L K' a := by
  unfold stD
  cases Nat.ble a.1 11 with
  | true => exact com_mono (fun _ _ _ _ _ => hN _ _ _ _ _ _)
  | false =>
    dsimp only
    by_cases h1 : a.1 = 12
    · rw [h1, dyn_12, dyn_12]
      exact retP_mono (fun r => hK r _ _ _)
    · by_cases h2 : a.1 = 13
      · rw [h2, dyn_13, dyn_13]
        cases callR st a.2.1 a.2.2.2.1 with
        | none => exact id
        | some r => exact fun ⟨k1, k2, P, k3, k4⟩ => ⟨k1, k2, P, hC _ _ _ _ _ _ k3, fun v S' I' L' q => hN _ _ _ _ _ _ (k4 v S' I' L' q)⟩
      · rw [dyn_o h1 h2, dyn_o h1 h2]
        cases refR pc ls st S I L a.1 a.2.2.1 a.2.2.2.1 a.2.2.2.2.1 a.2.2.2.2.2.2.1 with
        | none => exact id
        | some r => exact oblD_mono (fun _ => hN _ _ _ _ _ _)
theorem stD_mono {X X' : XD} (h : ∀ y pc ls st S I L K, X y pc ls st S I L K → X' y pc ls st S I L K) {y pc : Nat} {ls st : List AV} {S : DS} {I : MI} {L : ML} {K : KD} {a : AI} (k : stD X y pc ls st S I L K a) : stD X' y pc ls st S I L K a := stD_to (fun _ _ _ _ q => q) (fun _ _ _ _ _ _ => h _ _ _ _ _ _ _ _) (fun _ _ _ _ _ _ => h _ _ _ _ _ _ _ _) k
/-- fewer locals known -/
def leL (l' l : List AV) : Prop := l'.length = l.length ∧ ∀ i, gt l' i = un ∨ gt l' i = gt l i
def ClD (X : XD) : Prop := (∀ y pc ls st S I L K a, fetch y pc = some a → stD X y pc ls st S I L K a → X y pc ls st S I L K) ∧ (∀ y pc ls ls' st S I L K, leL ls' ls → X y pc ls' st S I L K → X y pc ls st S I L K)
/-- from here the method y comes to its end, as K says -/
def DW : XD := fun y pc ls st S I L K => ∀ X, ClD X → X y pc ls st S I L K
theorem DW_step {y pc : Nat} {ls st : List AV} {S : DS} {I : MI} {L : ML} {K : KD} {a : AI} (hf : fetch y pc = some a) (k : stD DW y pc ls st S I L K a) : DW y pc ls st S I L K := fun X hX => hX.1 _ _ _ _ _ _ _ _ a hf (stD_mono (fun _ _ _ _ _ _ _ _ q => q X hX) k)
theorem DW_forget {y pc : Nat} {ls ls' st : List AV} {S : DS} {I : MI} {L : ML} {K : KD} (hl : leL ls' ls) (k : DW y pc ls' st S I L K) : DW y pc ls st S I L K := fun X hX => hX.2 _ _ _ _ _ _ _ _ _ hl (k X hX)
theorem DW_mono {y pc : Nat} {ls st : List AV} {S : DS} {I : MI} {L : ML} {K K' : KD} (h : ∀ r S I L, K r S I L → K' r S I L) (k : DW y pc ls st S I L K) : DW y pc ls st S I L K' := by
  refine k (fun y pc ls st S I L K => ∀ K' : KD, (∀ r S I L, K r S I L → K' r S I L) → DW y pc ls st S I L K') ⟨?_, ?_⟩ K' h
  · intro y pc ls st S I L K a hf q K' hK
    exact DW_step hf (stD_to hK (fun _ _ _ _ _ _ p => p K' hK) (fun _ _ _ _ _ P p => p P (fun _ _ _ _ z => z)) q)
  · intro y pc ls ls' st S I L K hl q K' hK
    exact DW_forget hl (q K' hK)
theorem msk_le : ∀ (m : List Bool) (l : List AV), leL (msk m l) l
  | [], l => by cases l <;> exact ⟨rfl, fun _ => Or.inr rfl⟩
  | b :: m, [] => by cases b <;> exact ⟨rfl, fun _ => Or.inr rfl⟩
  | true :: m, a :: l => ⟨by show (msk m l).length + 1 = l.length + 1; rw [(msk_le m l).1], fun i => by
      cases i with
      | zero => exact Or.inr rfl
      | succ i => exact (msk_le m l).2 i⟩
  | false :: m, a :: l => ⟨by show (msk m l).length + 1 = l.length + 1; rw [(msk_le m l).1], fun i => by
      cases i with
      | zero => exact Or.inl rfl
      | succ i => exact (msk_le m l).2 i⟩
