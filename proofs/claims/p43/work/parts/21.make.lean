/-! THE MAKING, run: where nothing depends on what the memory holds. Writes are kept in a list, the newest first: (0, k, j, v) a number, (1, k, ..) a fresh cell. -/
abbrev OP : Type := Nat × Nat × Nat × Int32
def apI : List OP → MI → MI
  | [], I => I
  | (0, k, j, v) :: l, I => sI (apI l I) k j v
  | (_ + 1, k, _, _) :: l, I => aI (apI l I) k (fun _ => 0)
def apL : List OP → ML → ML
  | [], L => L
  | (0, _, _, _) :: l, L => apL l L
  | (_ + 1, k, _, _) :: l, L => aL (apL l L) k (fun _ => 0)
abbrev CS : Type := Nat × List AV × List AV × DS × List OP
def inB (i : Int32) (n : Nat) : Bool := !(decide (i < 0)) && decide (i.toNatClampNeg < n)
theorem inB_t {i : Int32} {n : Nat} (h : inB i n = true) : vp_in i n := by
  obtain ⟨h1, h2⟩ := and2 h
  have h2 := of_decide_eq_true h2
  have h1 : ¬ i < 0 := by
    intro q
    rw [decide_eq_true q] at h1
    cases h1
  exact fun q => q.elim h1 (fun q => absurd h2 (Nat.not_lt.mpr q))
def mkR (pc : Nat) (ls st : List AV) (S : DS) (O : List OP) (fam : Nat) (ins : Instr) (n x z u : Nat) (c : Int32) (w : Int64) : Option CS :=
  match fam with
  | 0 => match pureOp ins c w ls st with
    | some r => some (pc + n, r.1, r.2, S, O)
    | none => none
  | 1 => match ins, st with
    | .if_icmp .ge _, .inl b :: .inl a :: st => if b ≤ a then some (x, ls, st, S, O) else some (pc + n, ls, st, S, O)
    | _, _ => none
  | 2 => some (x, ls, st, S, O)
  | 4 => match u, st with
    | 0, .inl v :: .inr (.inr (t, r)) :: st => if Nat.beq t (10 + z) = true then some (pc + n, ls, st, S, (0, r, x, v) :: O) else none
    | _, _ => none
  | 6 => match ins, st with
    | .iastore, .inl v :: .inl i :: .inr (.inr (t, k)) :: st => if (Nat.beq (tS t) 0 && inB i (tN t)) = true then some (pc + n, ls, st, S, (0, k, i.toNatClampNeg, v) :: O) else none
    | _, _ => none
  | 8 => match x, st with
    | 5, .inr (.inr (t, _)) :: st => if (Nat.ble 10 t && Nat.ble st.length 4) = true then some (pc + n, ls, st, S, O) else none
    | _, _ => none
  | 14 => match st with
    | .inr (.inr (t, r)) :: st => if Nat.beq t (10 + z) = true then some (pc + n, ls, S.rf r x :: st, S, O) else none
    | _ => none
  | 15 => match st with
    | .inr (.inr (t2, k2)) :: .inr (.inr (t, r)) :: st => if (Nat.beq t (10 + z) && !(Nat.beq t2 1)) = true then some (pc + n, ls, st, (S.n, S.kd, sR S.rf r x (.inr (.inr (t2, k2))), S.bc, S.bs), O) else none
    | _ => none
  | 17 => match st with
    | .inr (.inr (t2, k2)) :: .inl i :: .inr (.inr (t, k)) :: st => if ((Nat.beq (tS t / 3) 1 && Nat.beq t2 (10 + aC (tS t))) && inB i (tN t)) = true then some (pc + n, ls, st, (S.n, S.kd, sR S.rf k i.toNatClampNeg (.inr (.inr (t2, k2))), S.bc, S.bs), O) else none
    | _ => none
  | 18 => if (Nat.ble 1 S.bc && Nat.ble z S.bs) = true then some (pc + n, ls, vr (10 + x) S.n :: st, (S.n + 1, aK S.kd S.n (10 + x), aR S.rf S.n (fun _ => nul), S.bc - 1, S.bs - z), (1, S.n, 0, 0) :: O) else none
  | 19 => match st with
    | .inl v :: st => if (decide (v = c) && (Nat.ble 1 S.bc && Nat.ble x S.bs)) = true then some (pc + n, ls, vr (100 + 8 * x + z) S.n :: st, (S.n + 1, aK S.kd S.n (100 + 8 * x + z), aR S.rf S.n (fun _ => nul), S.bc - 1, S.bs - x), (1, S.n, 0, 0) :: O) else none
    | _ => none
  | 20 => match st with
    | .inl v :: st => if (decide (v = c) && (Nat.ble 1 S.bc && Nat.ble x S.bs)) = true then some (pc + n, ls, vr (100 + 8 * x + z) S.n :: st, (S.n + 1, aK S.kd S.n (100 + 8 * x + z), aR S.rf S.n (fun _ => nul), S.bc - 1, S.bs - x), (1, S.n, 0, 0) :: O) else none
    | _ => none
  | _ => none
theorem mkR_sound {X : XD} {y pc : Nat} {ls st : List AV} {S : DS} {O : List OP} {I : MI} {L : ML} {K : KD} {fam n x z u : Nat} {ins : Instr} {c : Int32} {w : Int64} {sw : List (Int32 × Nat)} {s : CS} (h : mkR pc ls st S O fam ins n x z u c w = some s) (k : X y s.1 s.2.1 s.2.2.1 s.2.2.2.1 (apI s.2.2.2.2 I) (apL s.2.2.2.2 L) K) : stD X y pc ls st S (apI O I) (apL O L) K (fam, ins, n, x, z, u, c, w, sw) := by
  unfold mkR at h
  split at h
  · unfold stD com comR
    dsimp only
    cases hp : pureOp ins c w ls st with
    | none => rw [hp] at h; cases h
    | some r => rw [hp] at h; cases h; exact k
  · split at h
    · rename_i b a st
      unfold stD com comR brOp
      dsimp only
      show (b ≤ a → _) ∧ (¬ b ≤ a → _)
      split at h
      · rename_i q
        cases h
        exact ⟨fun _ => k, fun q' => absurd q q'⟩
      · rename_i q
        cases h
        exact ⟨fun q' => absurd q' q, fun _ => k⟩
    · cases h
  · cases h
    exact k
  · split at h
    · split at h
      · rename_i q
        cases h
        unfold stD com comR
        dsimp only
        rw [q]
        exact k
      · cases h
    · cases h
  · split at h
    · split at h
      · rename_i q
        cases h
        obtain ⟨q1, q2⟩ := and2 q
        have q4 : ∀ t, Nat.beq (tS t) 0 = true → Nat.beq t 4 = false := by
          intro t h0
          cases hb : Nat.beq t 4 with
          | false => rfl
          | true =>
            rw [beq_t hb] at h0
            exact absurd h0 (by decide)
        unfold stD com comR
        dsimp only
        rw [q4 _ q1, q1]
        exact ⟨inB_t q2, k⟩
      · cases h
    · cases h
  · split at h
    · split at h
      · rename_i q
        cases h
        unfold stD com comR
        dsimp only
        rw [q]
        exact k
      · cases h
    · cases h
  · split at h
    · split at h
      · rename_i q
        cases h
        unfold stD
        dsimp only
        rw [dyn_o (by decide) (by decide)]
        unfold refR
        dsimp only
        rw [q]
        exact fun _ => k
      · cases h
    · cases h
  · split at h
    · split at h
      · rename_i q
        cases h
        unfold stD
        dsimp only
        rw [dyn_o (by decide) (by decide)]
        unfold refR
        dsimp only
        rw [q]
        exact fun _ => k
      · cases h
    · cases h
  · split at h
    · split at h
      · rename_i q
        cases h
        obtain ⟨q1, q2⟩ := and2 q
        unfold stD
        dsimp only
        rw [dyn_o (by decide) (by decide)]
        unfold refR
        dsimp only
        rw [q1]
        exact ⟨inB_t q2, k⟩
      · cases h
    · cases h
  · split at h
    · rename_i q
      cases h
      obtain ⟨q1, q2⟩ := and2 q
      unfold stD
      dsimp only
      rw [dyn_o (by decide) (by decide)]
      exact ⟨⟨Nat.le_of_ble_eq_true q1, Nat.le_of_ble_eq_true q2⟩, k⟩
    · cases h
  · split at h
    · split at h
      · rename_i q
        cases h
        obtain ⟨q1, q2⟩ := and2 q
        obtain ⟨q2, q3⟩ := and2 q2
        unfold stD
        dsimp only
        rw [dyn_o (by decide) (by decide)]
        exact ⟨⟨of_decide_eq_true q1, Nat.le_of_ble_eq_true q2, Nat.le_of_ble_eq_true q3⟩, k⟩
      · cases h
    · cases h
  · split at h
    · split at h
      · rename_i q
        cases h
        obtain ⟨q1, q2⟩ := and2 q
        obtain ⟨q2, q3⟩ := and2 q2
        unfold stD
        dsimp only
        rw [dyn_o (by decide) (by decide)]
        exact ⟨⟨of_decide_eq_true q1, Nat.le_of_ble_eq_true q2, Nat.le_of_ble_eq_true q3⟩, k⟩
      · cases h
    · cases h
  · cases h
/-- a method that answers nothing, to its end -/
def mkN : Nat → Nat → Nat → List AV → List AV → DS → List OP → Option (DS × List OP)
  | 0, _, _, _, _, _, _ => none
  | f + 1, y, pc, ls, st, S, O => match fetch y pc with
    | none => none
    | some (12, ins, _, _, _, _, _, _, _) => match ins, st with
      | .return_, [] => some (S, O)
      | _, _ => none
    | some (13, ins, n, x, z, u, _, _, _) => match callR st ins x with
      | none => none
      | some r => if (Nat.ble z S.bc && (Nat.ble u S.bs && Nat.beq (mS x) 0)) = true then (match mkN f x 0 (padL (mL x) (entL r.1)) [] (S.n, S.kd, S.rf, z, u) O with
        | none => none
        | some (S', O') => mkN f y (pc + n) ls r.2 (S'.n, S'.kd, S'.rf, S.bc - z, S.bs - u) O') else none
    | some (fam, ins, n, x, z, u, c, w, _) => match mkR pc ls st S O fam ins n x z u c w with
      | none => none
      | some s => mkN f y s.1 s.2.1 s.2.2.1 s.2.2.2.1 s.2.2.2.2
theorem mkN_sound (I : MI) (L : ML) : ∀ (f y pc : Nat) (ls st : List AV) (S : DS) (O : List OP) (S' : DS) (O' : List OP), mkN f y pc ls st S O = some (S', O') → DW y pc ls st S (apI O I) (apL O L) (fun _ S0 I0 L0 => S0 = S' ∧ I0 = apI O' I ∧ L0 = apL O' L)
  | 0, _, _, _, _, _, _, _, _, h => by cases h
  | f + 1, y, pc, ls, st, S, O, S', O', h => by
    unfold mkN at h
    split at h
    · cases h
    · rename_i hf
      split at h
      · cases h
        refine DW_step hf ?_
        unfold stD
        dsimp only
        rw [dyn_12]
        exact ⟨rfl, rfl, rfl⟩
      · cases h
    · rename_i hf
      cases hr : callR st _ _ with
      | none => rw [hr] at h; cases h
      | some r =>
        rw [hr] at h
        dsimp only at h
        split at h
        · rename_i q
          obtain ⟨q1, q2⟩ := and2 q
          obtain ⟨q2, q3⟩ := and2 q2
          split at h
          · cases h
          · rename_i hN
            refine DW_step hf ?_
            unfold stD
            dsimp only
            rw [dyn_13, hr]
            refine ⟨Nat.le_of_ble_eq_true q1, Nat.le_of_ble_eq_true q2, _, mkN_sound I L f _ _ _ _ _ _ _ _ hN, ?_⟩
            rintro v S1 I1 L1 ⟨rfl, rfl, rfl⟩
            rw [beq_t q3]
            exact mkN_sound I L f _ _ _ _ _ _ _ _ h
        · cases h
    · rename_i hf
      split at h
      · cases h
      · rename_i hs
        exact DW_step hf (mkR_sound hs (mkN_sound I L f _ _ _ _ _ _ _ _ h))
