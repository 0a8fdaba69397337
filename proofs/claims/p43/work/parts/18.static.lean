/-! AFTER THE MAKING: which cell is what is fixed (written by wip/p43/gen18b.py). Cells: 0 the class's object, 1 its book, 35 its images, 139 its reader, 153 its run, 181 its search, 183 its ways, 186 the reference. -/
def kdT : List Nat := [21, 10, 119, 128, 17, 4900, 19, 228, 228, 428, 428, 428, 428, 19, 228, 228, 428, 428, 428, 428, 18, 340, 340, 340, 340, 18, 340, 340, 340, 340, 18, 340, 340, 340, 340, 129, 10, 119, 128, 17, 4900, 19, 228, 228, 428, 428, 428, 428, 19, 228, 228, 428, 428, 428, 428, 18, 340, 340, 340, 340, 18, 340, 340, 340, 340, 18, 340, 340, 340, 340, 10, 119, 128, 17, 4900, 19, 228, 228, 428, 428, 428, 428, 19, 228, 228, 428, 428, 428, 428, 18, 340, 340, 340, 340, 18, 340, 340, 340, 340, 18, 340, 340, 340, 340, 10, 119, 128, 17, 4900, 19, 228, 228, 428, 428, 428, 428, 19, 228, 228, 428, 428, 428, 428, 18, 340, 340, 340, 340, 18, 340, 340, 340, 340, 18, 340, 340, 340, 340, 125, 13, 19, 228, 228, 428, 428, 428, 428, 18, 340, 340, 340, 340, 132, 14, 19, 228, 228, 428, 428, 428, 428, 12, 12900, 12900, 902, 11, 16, 1708, 1708, 1710, 25828, 25828, 16, 1708, 1708, 1710, 25828, 25828, 25828, 1710, 228, 15, 1708, 20, 228, 228]
def kd0 (k : Nat) : Nat := nth 1 kdT k
/-- a reference field: 1 so far behind its object, 2 always there, 3 the reader's tape -/
def layT : List (List (Nat × Nat × Nat)) := [[(1, 119, 1), (1, 128, 2), (1, 17, 3), (0, 0, 0), (0, 0, 0), (0, 0, 0), (0, 0, 0)], [(2, 16, 166), (2, 16, 172), (2, 25828, 178), (2, 1710, 179), (0, 0, 0), (0, 0, 0), (0, 0, 0)], [(2, 12900, 162), (2, 12900, 163), (2, 902, 164), (0, 0, 0), (0, 0, 0), (0, 0, 0), (0, 0, 0), (0, 0, 0), (0, 0, 0), (0, 0, 0), (0, 0, 0), (0, 0, 0), (0, 0, 0), (0, 0, 0), (0, 0, 0)], [(2, 19, 140), (2, 18, 147), (0, 0, 0), (0, 0, 0), (3, 17, 4), (0, 0, 0), (0, 0, 0), (0, 0, 0), (0, 0, 0), (0, 0, 0), (2, 132, 152)], [(2, 19, 154), (2, 12, 161), (2, 11, 165), (2, 228, 180)], [(2, 14, 153), (2, 19, 154), (2, 12, 161), (2, 11, 165), (2, 1708, 182)], [(1, 1708, 1), (1, 1708, 2), (1, 1710, 3), (1, 25828, 4), (1, 25828, 5)], [(1, 4900, 1), (0, 0, 0)], [(0, 0, 0), (1, 340, 1), (1, 340, 2), (1, 340, 3), (1, 340, 4)], [(0, 0, 0), (1, 228, 1), (1, 228, 2), (0, 0, 0), (1, 428, 3), (1, 428, 4), (1, 428, 5), (1, 428, 6), (0, 0, 0), (0, 0, 0), (0, 0, 0)], [(2, 228, 184), (2, 228, 185), (0, 0, 0)], [(2, 10, 1), (2, 129, 35), (2, 125, 138), (2, 13, 139), (2, 15, 181), (2, 14, 153), (2, 11, 165), (2, 20, 183)]]
def lay (z x : Nat) : Nat × Nat × Nat := nth (0, 0, 0) (nth [] layT z) x
/-- what an array of references holds: kind, so far behind the array, so far apart -/
def layA : Nat → Nat × Nat × Nat
  | 3 => (19, 4, 7)
  | 4 => (18, 17, 5)
  | _ => (10, 1, 34)
def N0 : Nat := 186
def LayOK (b : Bool) (S : DS) : Prop :=
  N0 ≤ S.n ∧ (∀ k, k < N0 → S.kd k = kd0 k) ∧
  (∀ k, k < N0 → ∀ z x t o, kd0 k = 10 + z → lay z x = (1, t, o) → S.rf k x = vr t (k + o)) ∧
  (∀ k, k < N0 → ∀ z x t o, kd0 k = 10 + z → lay z x = (2, t, o) → S.rf k x = vr t o) ∧
  (∀ k, k < N0 → ∀ i, tS (kd0 k) / 3 = 1 → i < tN (kd0 k) → S.rf k i = vr (layA (tS (kd0 k))).1 (k + (layA (tS (kd0 k))).2.1 + (layA (tS (kd0 k))).2.2 * i)) ∧
  (b = true → S.rf 139 4 = vr 17 4) ∧ (∀ k, N0 ≤ k → k < S.n → 100 ≤ S.kd k ∧ (tS (S.kd k) = 0 ∨ tS (S.kd k) = 6))
theorem nth_ou {α : Type} {d : α} : ∀ (l : List α) (i : Nat), l.length ≤ i → nth d l i = d
  | [], _, _ => rfl
  | _ :: _, 0, h => absurd h (by simp)
  | _ :: l, i + 1, h => nth_ou l i (Nat.le_of_succ_le_succ h)
theorem lay_90 (z x : Nat) (h : 90 ≤ z) : lay z x = (0, 0, 0) := by
  unfold lay
  rw [nth_ou layT z (Nat.le_trans (by decide) h)]
  rfl
abbrev KS : Type := AV → Bool → MI → ML → Prop
abbrev XS : Type := Nat → Nat → List AV → List AV → Bool → MI → ML → KS → Prop
abbrev NS : Type := Nat → List AV → List AV → Bool → MI → ML → Prop
def kV (f : Bool → MI → ML → Prop) : KS := fun _ b I L => f b I L
def kI (f : Int32 → Bool → MI → ML → Prop) : KS := fun r b I L => match r with
  | .inl v => f v b I L
  | _ => False
def kL (f : Int64 → Bool → MI → ML → Prop) : KS := fun r b I L => match r with
  | .inr (.inl v) => f v b I L
  | _ => False
/-- a reference of any kind -/
def kR (f : Nat → Nat → Bool → MI → ML → Prop) : KS := fun r b I L => match r with
  | .inr (.inr (t, k)) => f t k b I L
  | _ => False
/-- a reference of a known kind -/
def kT (t : Nat) (f : Nat → Bool → MI → ML → Prop) : KS := fun r b I L => match r with
  | .inr (.inr (t', k)) => t' = t ∧ f k b I L
  | _ => False
def rT (x : Nat) : Nat := match Nat.beq x m_Days_side with
  | true => 16
  | false => match Nat.beq x m_Reader_spelling with
    | true => 2
    | false => 0
def kSr (t : Nat) (f : AV → Bool → MI → ML → Prop) : KS := match t with
  | 0 => kR (fun t k => f (vr t k))
  | t + 1 => kT (t + 1) (fun k => f (vr (t + 1) k))
def kSm (m t : Nat) (f : AV → Bool → MI → ML → Prop) : KS := match m with
  | 0 => kV (f un)
  | 1 => kI (fun v => f (.inl v))
  | 2 => kI (fun v => f (.inl v))
  | 3 => kL (fun v => f (.inr (.inl v)))
  | _ + 4 => kSr t f
def kS (x : Nat) (f : AV → Bool → MI → ML → Prop) : KS := kSm (mS x) (rT x) f
theorem kSr_elim {t : Nat} {f : AV → Bool → MI → ML → Prop} {r : AV} {b : Bool} {I : MI} {L : ML} : kSr t f r b I L → f r b I L := by
  rcases t with _ | t
  · rcases r with v | v | r
    · exact fun k => k.elim
    · exact fun k => k.elim
    · exact id
  · rcases r with v | v | ⟨t', k⟩
    · exact fun k => k.elim
    · exact fun k => k.elim
    · rintro ⟨h, k⟩
      rw [h]
      exact k
theorem kSm_elim {m t : Nat} {f : AV → Bool → MI → ML → Prop} {r : AV} {b : Bool} {I : MI} {L : ML} : kSm m t f r b I L → (m = 0 ∧ f un b I L) ∨ f r b I L := by
  rcases m with _ | _ | _ | _ | m
  · exact fun k => Or.inl ⟨rfl, k⟩
  · rcases r with v | v | r
    · exact Or.inr
    · exact fun k => k.elim
    · exact fun k => k.elim
  · rcases r with v | v | r
    · exact Or.inr
    · exact fun k => k.elim
    · exact fun k => k.elim
  · rcases r with v | v | r
    · exact fun k => k.elim
    · exact Or.inr
    · exact fun k => k.elim
  · exact fun k => Or.inr (kSr_elim k)
theorem kS_elim {x : Nat} {f : AV → Bool → MI → ML → Prop} {r : AV} {b : Bool} {I : MI} {L : ML} : kS x f r b I L → (mS x = 0 ∧ f un b I L) ∨ f r b I L := kSm_elim
theorem kSr_mono {t : Nat} {f g : AV → Bool → MI → ML → Prop} (h : ∀ r b I L, f r b I L → g r b I L) {r : AV} {b : Bool} {I : MI} {L : ML} : kSr t f r b I L → kSr t g r b I L := by
  rcases t with _ | t
  · rcases r with v | v | r
    · exact id
    · exact id
    · exact h _ _ _ _
  · rcases r with v | v | ⟨t', k⟩
    · exact id
    · exact id
    · exact fun ⟨e, k⟩ => ⟨e, h _ _ _ _ k⟩
theorem kSm_mono {m t : Nat} {f g : AV → Bool → MI → ML → Prop} (h : ∀ r b I L, f r b I L → g r b I L) {r : AV} {b : Bool} {I : MI} {L : ML} : kSm m t f r b I L → kSm m t g r b I L := by
  rcases m with _ | _ | _ | _ | m
  · exact h _ _ _ _
  · rcases r with v | v | r
    · exact h _ _ _ _
    · exact id
    · exact id
  · rcases r with v | v | r
    · exact h _ _ _ _
    · exact id
    · exact id
  · rcases r with v | v | r
    · exact id
    · exact h _ _ _ _
    · exact id
  · exact kSr_mono h
theorem kS_mono {x : Nat} {f g : AV → Bool → MI → ML → Prop} (h : ∀ r b I L, f r b I L → g r b I L) {r : AV} {b : Bool} {I : MI} {L : ML} : kS x f r b I L → kS x g r b I L := kSm_mono h
/-- the rest of the instructions, with the references as they lie -/
def sta (X : XS) (N : NS) (pc : Nat) (ls st : List AV) (b : Bool) (I : MI) (L : ML) (K : KS) (fam : Nat) (ins : Instr) (n x z u : Nat) : Prop :=
  match fam with
  | 12 => retP ins z st (fun r => K r b I L)
  | 13 => match callR st ins x with
    | some r => match Nat.beq (z + u) 0 with
      | true => X x 0 (padL (mL x) (entL r.1)) [] b I L (kS x (fun v b I L => N (pc + n) ls (pushR (mS x) v r.2) b I L))
      | false => False
    | none => False
  | 14 => match st with
    | .inr (.inr (t, r)) :: st => match Nat.beq t (10 + z) with
      | true => match lay z x with
        | (1, t, o) => N (pc + n) ls (vr t (r + o) :: st) b I L
        | (2, t, o) => N (pc + n) ls (vr t o :: st) b I L
        | (3, _, _) => match Nat.beq r 139 with
          | true => b = true ∧ N (pc + n) ls (vr 17 4 :: st) b I L
          | false => False
        | _ => False
      | false => False
    | _ => False
  | 15 => match st with
    | .inr (.inr (t2, k2)) :: .inr (.inr (t, r)) :: st => match Nat.beq t 13 && (Nat.beq t2 17 && (Nat.beq z 3 && (Nat.beq x 4 && (Nat.beq k2 4 && Nat.beq r 139)))) with
      | true => N (pc + n) ls st true I L
      | false => False
    | _ => False
  | 16 => match st with
    | .inl i :: .inr (.inr (t, k)) :: st => match Nat.beq (tS t / 3) 1 with
      | true => vp_in i (tN t) ∧ N (pc + n) ls (vr (layA (tS t)).1 (k + (layA (tS t)).2.1 + (layA (tS t)).2.2 * i.toNatClampNeg) :: st) b I L
      | false => False
    | _ => False
  | _ => False
def stS (X : XS) (N : NS) (pc : Nat) (ls st : List AV) (b : Bool) (I : MI) (L : ML) (K : KS) (a : AI) : Prop := match Nat.ble a.1 11 with
  | true => com (fun pc ls st I L => N pc ls st b I L) pc ls st I L a.1 a.2.1 a.2.2.1 a.2.2.2.1 a.2.2.2.2.1 a.2.2.2.2.2.1 a.2.2.2.2.2.2.1 a.2.2.2.2.2.2.2.1 a.2.2.2.2.2.2.2.2
  | false => sta X N pc ls st b I L K a.1 a.2.1 a.2.2.1 a.2.2.2.1 a.2.2.2.2.1 a.2.2.2.2.2.1
def SW : XS := fun y pc ls st b I L K => ∀ S, LayOK b S → DW y pc ls st S I L (fun r S' I' L' => ∃ b', LayOK b' S' ∧ S'.n = S.n ∧ K r b' I' L')
theorem SW_mono {y pc : Nat} {ls st : List AV} {b : Bool} {I : MI} {L : ML} {K K' : KS} (h : ∀ r b I L, K r b I L → K' r b I L) (k : SW y pc ls st b I L K) : SW y pc ls st b I L K' := fun S hS => DW_mono (fun r S I L ⟨b', h1, h2, h3⟩ => ⟨b', h1, h2, h r b' I L h3⟩) (k S hS)
theorem SW_forget {y pc : Nat} {ls ls' st : List AV} {b : Bool} {I : MI} {L : ML} {K : KS} (hl : leL ls' ls) (k : SW y pc ls' st b I L K) : SW y pc ls st b I L K := fun S hS => DW_forget hl (k S hS)
/-- where cells may be made: n cells so far, bc and bs left; K gets how many cells there are behind it -/
abbrev KN : Type := AV → Bool → Nat → MI → ML → Prop
def NW (n bc bs y pc : Nat) (ls st : List AV) (b : Bool) (I : MI) (L : ML) (K : KN) : Prop := ∀ S, LayOK b S → S.n = n → bc ≤ S.bc → bs ≤ S.bs → DW y pc ls st S I L (fun r S' I' L' => ∃ b', LayOK b' S' ∧ K r b' S'.n I' L')
theorem NW_mono {n bc bs y pc : Nat} {ls st : List AV} {b : Bool} {I : MI} {L : ML} {K K' : KN} (h : ∀ r b n I L, K r b n I L → K' r b n I L) (k : NW n bc bs y pc ls st b I L K) : NW n bc bs y pc ls st b I L K' := fun S hS h1 h2 h3 => DW_mono (fun r S I L ⟨b', h1, h3⟩ => ⟨b', h1, h r b' _ I L h3⟩) (k S hS h1 h2 h3)
theorem NW_forget {n bc bs y pc : Nat} {ls ls' st : List AV} {b : Bool} {I : MI} {L : ML} {K : KN} (hl : leL ls' ls) (k : NW n bc bs y pc ls' st b I L K) : NW n bc bs y pc ls st b I L K := fun S hS h1 h2 h3 => DW_forget hl (k S hS h1 h2 h3)
theorem NW_of {n bc bs y pc : Nat} {ls st : List AV} {b : Bool} {I : MI} {L : ML} {K : KN} (k : SW y pc ls st b I L (fun r b I L => K r b n I L)) : NW n bc bs y pc ls st b I L K := fun S hS h1 _ _ => DW_mono (fun r S' I L ⟨b', g1, g2, g3⟩ => ⟨b', g1, by rw [g2, h1]; exact g3⟩) (k S hS)
theorem sta_mono {N N' : NS} (h : ∀ pc ls st b I L, N pc ls st b I L → N' pc ls st b I L) {pc : Nat} {ls st : List AV} {b : Bool} {I : MI} {L : ML} {K : KS} {fam : Nat} {ins : Instr} {n x z u : Nat} : sta SW N pc ls st b I L K fam ins n x z u → sta SW N' pc ls st b I L K fam ins n x z u := by
  unfold sta
  split
  · exact id
  · cases callR st ins x with
    | none => exact id
    | some r =>
      dsimp only
      cases Nat.beq (z + u) 0 with
      | true => exact SW_mono (fun r b I L => kS_mono (fun r b I L => h _ _ _ _ _ _))
      | false => exact id
  · rcases st with _ | ⟨v | v | ⟨t, r⟩, st⟩
    · exact id
    · exact id
    · exact id
    · dsimp only
      cases Nat.beq t (10 + z) with
      | true =>
        dsimp only
        split
        · exact h _ _ _ _ _ _
        · exact h _ _ _ _ _ _
        · cases Nat.beq r 139 with
          | true => exact fun k => ⟨k.1, h _ _ _ _ _ _ k.2⟩
          | false => exact id
        · exact id
      | false => exact id
  · rcases st with _ | ⟨v | v | ⟨t2, k2⟩, _ | ⟨v | v | ⟨t, r⟩, st⟩⟩
    · exact id
    · exact id
    · exact id
    · exact id
    · exact id
    · exact id
    · exact id
    · exact id
    · exact id
    · exact id
    · exact id
    · exact id
    · dsimp only
      cases Nat.beq t 13 && (Nat.beq t2 17 && (Nat.beq z 3 && (Nat.beq x 4 && (Nat.beq k2 4 && Nat.beq r 139)))) with
      | true => exact h _ _ _ _ _ _
      | false => exact id
  · rcases st with _ | ⟨v | v | ⟨t2, k2⟩, _ | ⟨v | v | ⟨t, r⟩, st⟩⟩
    · exact id
    · exact id
    · exact id
    · exact id
    · dsimp only
      cases Nat.beq (tS t / 3) 1 with
      | true => exact fun k => ⟨k.1, h _ _ _ _ _ _ k.2⟩
      | false => exact id
    · exact id
    · exact id
    · exact id
    · exact id
    · exact id
    · exact id
    · exact id
    · exact id
  · exact id
theorem stS_mono {N N' : NS} (h : ∀ pc ls st b I L, N pc ls st b I L → N' pc ls st b I L) {pc : Nat} {ls st : List AV} {b : Bool} {I : MI} {L : ML} {K : KS} {a : AI} : stS SW N pc ls st b I L K a → stS SW N' pc ls st b I L K a := by
  unfold stS
  cases Nat.ble a.1 11 with
  | true => exact com_mono (fun _ _ _ _ _ => h _ _ _ _ _ _)
  | false => exact sta_mono h
theorem LayOK.sub {b : Bool} {S : DS} {bc bs : Nat} (h : LayOK b S) : LayOK b (S.n, S.kd, S.rf, bc, bs) := h
theorem sta_dyn {y pc : Nat} {ls st : List AV} {b : Bool} {I : MI} {L : ML} {N : NS} {K : KS} {F : KD} {fam : Nat} {ins : Instr} {n x z u : Nat} {c : Int32} {S : DS} (hS : LayOK b S) (hN : ∀ pc ls st b I L S', LayOK b S' → S'.n = S.n → S.bc ≤ S'.bc → S.bs ≤ S'.bs → N pc ls st b I L → DW y pc ls st S' I L F) (hK : ∀ r, K r b I L → F r S I L) : sta SW N pc ls st b I L K fam ins n x z u → dyn DW y pc ls st S I L F fam ins n x z u c := by
  have hlt : ∀ r z x, S.kd r = 10 + z → r < S.n → lay z x ≠ (0, 0, 0) → r < N0 := by
    intro r z x h1 h2 h3
    refine Nat.not_le.mp fun q => h3 (lay_90 z x ?_)
    have := (hS.2.2.2.2.2.2 r q h2).1
    omega
  unfold sta
  split
  · rw [dyn_12]
    exact retP_mono (fun r k => hK r k)
  · rw [dyn_13]
    cases callR st ins x with
    | none => exact id
    | some r =>
      dsimp only
      cases hz : Nat.beq (z + u) 0 with
      | true =>
        dsimp only
        intro k
        have hz := beq_t hz
        have h1 : z = 0 := by omega
        have h2 : u = 0 := by omega
        subst h1
        subst h2
        refine ⟨Nat.zero_le _, Nat.zero_le _, _, k (S.n, S.kd, S.rf, 0, 0) hS, ?_⟩
        rintro v S' I' L' ⟨b', g1, g0, g2⟩
        rcases kS_elim g2 with ⟨g3, g4⟩ | g4
        · have e : pushR (mS x) un r.2 = pushR (mS x) v r.2 := by rw [g3]; rfl
          rw [← e]
          exact hN _ _ _ _ _ _ (S'.n, S'.kd, S'.rf, S.bc - 0, S.bs - 0) g1 g0 (Nat.le_refl _) (Nat.le_refl _) g4
        · exact hN _ _ _ _ _ _ (S'.n, S'.kd, S'.rf, S.bc - 0, S.bs - 0) g1 g0 (Nat.le_refl _) (Nat.le_refl _) g4
      | false => exact fun k => k.elim
  · rw [dyn_o (by decide) (by decide)]
    rcases st with _ | ⟨v | v | ⟨t, r⟩, st⟩
    · exact id
    · exact id
    · exact id
    · dsimp only
      unfold refR
      dsimp only
      cases ht : Nat.beq t (10 + z) with
      | false => exact id
      | true =>
        dsimp only
        intro k
        show S.kd r = 10 + z ∧ r < S.n → DW y (pc + n) ls (S.rf r x :: st) S I L _
        rintro ⟨g1, g2⟩
        split at k
        · rename_i t o hl
          have g2 := hlt r z x g1 g2 (by rw [hl]; intro q; cases q)
          rw [hS.2.1 r g2] at g1
          rw [hS.2.2.1 r g2 z x t o g1 hl]
          exact hN _ _ _ _ _ _ S hS rfl (Nat.le_refl _) (Nat.le_refl _) k
        · rename_i t o hl
          have g2 := hlt r z x g1 g2 (by rw [hl]; intro q; cases q)
          rw [hS.2.1 r g2] at g1
          rw [hS.2.2.2.1 r g2 z x t o g1 hl]
          exact hN _ _ _ _ _ _ S hS rfl (Nat.le_refl _) (Nat.le_refl _) k
        · rename_i t o hl
          have g2 := hlt r z x g1 g2 (by rw [hl]; intro q; cases q)
          rw [hS.2.1 r g2] at g1
          cases hb : Nat.beq r 139 with
          | false => rw [hb] at k; exact k.elim
          | true =>
            rw [hb] at k
            dsimp only at k
            obtain ⟨h1, k⟩ := k
            obtain rfl := beq_t hb
            have hz : z = 3 := by
              have : kd0 139 = 13 := rfl
              omega
            subst hz
            have hx : x = 4 := by
              have hlx : lay 3 x = (3, t, o) := hl
              rcases Nat.lt_or_ge x 11 with q | q
              · revert hlx
                rcases (show x = 0 ∨ x = 1 ∨ x = 2 ∨ x = 3 ∨ x = 4 ∨ x = 5 ∨ x = 6 ∨ x = 7 ∨ x = 8 ∨ x = 9 ∨ x = 10 by omega) with rfl | rfl | rfl | rfl | rfl | rfl | rfl | rfl | rfl | rfl | rfl <;> first | (intro _; rfl) | (intro h; cases h)
              · obtain ⟨q', rfl⟩ : ∃ q', x = q' + 11 := ⟨x - 11, by omega⟩
                cases hlx
            subst hx
            rw [hS.2.2.2.2.2.1 h1]
            exact hN _ _ _ _ _ _ S hS rfl (Nat.le_refl _) (Nat.le_refl _) k
        · exact k.elim
  · rw [dyn_o (by decide) (by decide)]
    rcases st with _ | ⟨v | v | ⟨t2, k2⟩, _ | ⟨v | v | ⟨t, r⟩, st⟩⟩
    · exact id
    · exact id
    · exact id
    · exact id
    · exact id
    · exact id
    · exact id
    · exact id
    · exact id
    · exact id
    · exact id
    · exact id
    · dsimp only
      cases hc : Nat.beq t 13 && (Nat.beq t2 17 && (Nat.beq z 3 && (Nat.beq x 4 && (Nat.beq k2 4 && Nat.beq r 139)))) with
      | false => exact fun k => k.elim
      | true =>
        dsimp only
        intro k
        obtain ⟨h1, hc⟩ := and2 hc
        obtain ⟨h2, hc⟩ := and2 hc
        obtain ⟨h3, hc⟩ := and2 hc
        obtain ⟨h4, hc⟩ := and2 hc
        obtain ⟨h5, h6⟩ := and2 hc
        obtain rfl := beq_t h1
        obtain rfl := beq_t h2
        obtain rfl := beq_t h3
        obtain rfl := beq_t h4
        obtain rfl := beq_t h5
        obtain rfl := beq_t h6
        show S.kd 139 = 10 + 3 ∧ 139 < S.n → DW y (pc + n) ls st (S.n, S.kd, sR S.rf 139 4 (vr 17 4), S.bc, S.bs) I L _
        intro _
        refine hN _ _ _ _ _ _ (S.n, S.kd, sR S.rf 139 4 (vr 17 4), S.bc, S.bs) ⟨hS.1, hS.2.1, fun k hk z x t o hz hl => ?_, fun k hk z x t o hz hl => ?_, fun k hk i hs hi => ?_, fun _ => rfl, hS.2.2.2.2.2.2⟩ rfl (Nat.le_refl _) (Nat.le_refl _) k
        · show sR S.rf 139 4 (vr 17 4) k x = vr t (k + o)
          unfold sR
          split
          · rename_i h
            subst h
            split
            · rename_i h
              subst h
              have hz3 : z = 3 := by
                have : kd0 139 = 13 := rfl
                omega
              subst hz3
              cases hl
            · exact hS.2.2.1 _ hk z x t o hz hl
          · exact hS.2.2.1 k hk z x t o hz hl
        · show sR S.rf 139 4 (vr 17 4) k x = vr t o
          unfold sR
          split
          · rename_i h
            subst h
            split
            · rename_i h
              subst h
              have hz3 : z = 3 := by
                have : kd0 139 = 13 := rfl
                omega
              subst hz3
              cases hl
            · exact hS.2.2.2.1 _ hk z x t o hz hl
          · exact hS.2.2.2.1 k hk z x t o hz hl
        · show sR S.rf 139 4 (vr 17 4) k i = _
          have hk139 : k ≠ 139 := by
            rintro rfl
            exact absurd hs (by decide)
          unfold sR
          rw [if_neg hk139]
          exact hS.2.2.2.2.1 k hk i hs hi
  · rw [dyn_o (by decide) (by decide)]
    rcases st with _ | ⟨v | v | ⟨t2, k2⟩, _ | ⟨v | v | ⟨t, r⟩, st⟩⟩
    · exact id
    · exact id
    · exact id
    · exact id
    · dsimp only
      unfold refR
      dsimp only
      cases hb : Nat.beq (tS t / 3) 1 with
      | false => exact id
      | true =>
        dsimp only
        intro k
        refine ⟨k.1, ?_⟩
        rintro ⟨g1, g2⟩
        show DW y (pc + n) ls (S.rf r v.toNatClampNeg :: st) S I L _
        have g2 : r < N0 := by
          refine Nat.not_le.mp fun q => ?_
          have h1 := (hS.2.2.2.2.2.2 r q g2).2
          have h2 := beq_t hb
          rw [g1] at h1
          rcases h1 with h1 | h1 <;> rw [h1] at h2 <;> exact absurd h2 (by decide)
        rw [hS.2.1 r g2] at g1
        subst g1
        have hlt : v.toNatClampNeg < tN (kd0 r) := Nat.not_le.mp fun q => k.1 (Or.inr q)
        rw [hS.2.2.2.2.1 r g2 v.toNatClampNeg (beq_t hb) hlt]
        exact hN _ _ _ _ _ _ S hS rfl (Nat.le_refl _) (Nat.le_refl _) k.2
    · exact id
    · exact id
    · exact id
    · exact id
    · exact id
    · exact id
    · exact id
    · exact id
  · exact fun k => k.elim
theorem SW_step {y pc : Nat} {ls st : List AV} {b : Bool} {I : MI} {L : ML} {K : KS} {a : AI} (hf : fetch y pc = some a) (k : stS SW (fun pc ls st b I L => SW y pc ls st b I L K) pc ls st b I L K a) : SW y pc ls st b I L K := by
  intro S hS
  refine DW_step hf ?_
  revert k
  unfold stS stD
  cases Nat.ble a.1 11 with
  | true => exact com_mono (fun _ _ _ _ _ q => q S hS)
  | false =>
    refine sta_dyn hS (fun pc ls st b I L S' h1 h2 _ _ q => DW_mono (fun r S1 I1 L1 ⟨b', g1, g2, g3⟩ => ⟨b', g1, ?_, g3⟩) (q S' h1)) (fun r q => ⟨b, hS, rfl, q⟩)
    rw [g2, h2]
theorem NW_step {m bc bs y pc : Nat} {ls st : List AV} {b : Bool} {I : MI} {L : ML} {K : KN} {a : AI} (hf : fetch y pc = some a) (k : stS SW (fun pc ls st b I L => NW m bc bs y pc ls st b I L K) pc ls st b I L (fun r b I L => K r b m I L) a) : NW m bc bs y pc ls st b I L K := by
  intro S hS h1 h2 h3
  refine DW_step hf ?_
  revert k
  unfold stS stD
  cases Nat.ble a.1 11 with
  | true => exact com_mono (fun _ _ _ _ _ q => q S hS h1 h2 h3)
  | false => exact sta_dyn hS (fun pc ls st b I L S' g1 g2 g3 g4 q => q S' g1 (g2.trans h1) (Nat.le_trans h2 g3) (Nat.le_trans h3 g4)) (fun r q => ⟨b, hS, by rw [h1]; exact q⟩)
theorem LayOK.push {b : Bool} {S : DS} {t bc bs : Nat} (h : LayOK b S) (ht : 100 ≤ t ∧ (tS t = 0 ∨ tS t = 6)) : LayOK b (S.n + 1, aK S.kd S.n t, aR S.rf S.n (fun _ => nul), bc, bs) := by
  obtain ⟨h1, h2, h3, h4, h5, h6, h7⟩ := h
  have ek : ∀ k, k < N0 → aK S.kd S.n t k = S.kd k := fun k hk => by unfold aK; rw [if_neg (by omega)]
  have er : ∀ k, k < N0 → aR S.rf S.n (fun _ => nul) k = S.rf k := fun k hk => by unfold aR; rw [if_neg (by omega)]
  refine ⟨Nat.le_succ_of_le h1, fun k hk => (ek k hk).trans (h2 k hk), fun k hk z x t o hz hl => ?_, fun k hk z x t o hz hl => ?_, fun k hk i hs hi => ?_, fun hb => ?_, fun k hk1 hk2 => ?_⟩
  · show aR S.rf S.n (fun _ => nul) k x = _
    rw [er k hk]
    exact h3 k hk z x t o hz hl
  · show aR S.rf S.n (fun _ => nul) k x = _
    rw [er k hk]
    exact h4 k hk z x t o hz hl
  · show aR S.rf S.n (fun _ => nul) k i = _
    rw [er k hk]
    exact h5 k hk i hs hi
  · show aR S.rf S.n (fun _ => nul) 139 _ = _
    rw [er 139 (by decide)]
    exact h6 hb
  · show 100 ≤ aK S.kd S.n t k ∧ (tS (aK S.kd S.n t k) = 0 ∨ tS (aK S.kd S.n t k) = 6)
    unfold aK
    split
    · exact ht
    · rename_i hne
      have hk2 : k < S.n + 1 := hk2
      exact h7 k hk1 (by omega)
/-- an array of ints of a written length -/
theorem NW_newa {m bc bs y pc q x : Nat} {ins : Instr} {c : Int32} {w : Int64} {sw : List (Int32 × Nat)} {ls st : List AV} {b : Bool} {I : MI} {L : ML} {K : KN} (hf : fetch y pc = some (19, ins, q, x, 0, 0, c, w, sw)) (h1 : 1 ≤ bc) (h2 : x ≤ bs) (k : NW (m + 1) (bc - 1) (bs - x) y (pc + q) ls (vr (100 + 8 * x + 0) m :: st) b (aI I m (fun _ => 0)) (aL L m (fun _ => 0)) K) : NW m bc bs y pc ls (vi c :: st) b I L K := by
  intro S hS hn g1 g2
  subst hn
  refine DW_step hf ?_
  unfold stD
  dsimp only
  rw [dyn_o (by decide) (by decide)]
  exact ⟨⟨rfl, by omega, by omega⟩, k _ (hS.push ⟨by omega, Or.inl (tS_mk (by decide)).1⟩) rfl (show bc - 1 ≤ S.bc - 1 by omega) (show bs - x ≤ S.bs - x by omega)⟩
/-- an array of ints of any length -/
theorem NW_newd {m bc bs y pc q x z u : Nat} {ins : Instr} {c v : Int32} {w : Int64} {sw : List (Int32 × Nat)} {ls st : List AV} {b : Bool} {I : MI} {L : ML} {K : KN} (hf : fetch y pc = some (21, ins, q, x, z, u, c, w, sw)) (h0 : ¬ v < 0 ∧ v.toNatClampNeg < 1000000) (h1 : 1 ≤ bc) (h2 : v.toNatClampNeg ≤ bs) (k : NW (m + 1) (bc - 1) (bs - v.toNatClampNeg) y (pc + q) ls (vr 4 m :: st) b (sI (aI I m (fun _ => 0)) (200000 + m) 0 v) (aL L m (fun _ => 0)) K) : NW m bc bs y pc ls (vi v :: st) b I L K := by
  intro S hS hn g1 g2
  subst hn
  refine DW_step hf ?_
  unfold stD
  dsimp only
  rw [dyn_o (by decide) (by decide)]
  exact ⟨⟨h0.1, h0.2, by omega, by omega⟩, k _ (hS.push ⟨by omega, Or.inr (tS_mk6 _).1⟩) rfl (show bc - 1 ≤ S.bc - 1 by omega) (show bs - v.toNatClampNeg ≤ S.bs - v.toNatClampNeg by omega)⟩
/-- a call that makes -/
theorem NW_call {m bc bs y pc q x z u : Nat} {ins : Instr} {c : Int32} {w : Int64} {sw : List (Int32 × Nat)} {ls st : List AV} {b : Bool} {I : MI} {L : ML} {K P : KN} {r : List AV × List AV} (hf : fetch y pc = some (13, ins, q, x, z, u, c, w, sw)) (hr : callR st ins x = some r) (h1 : z ≤ bc) (h2 : u ≤ bs) (k1 : NW m z u x 0 (padL (mL x) (entL r.1)) [] b I L P) (k2 : ∀ v b' m' I' L', P v b' m' I' L' → NW m' (bc - z) (bs - u) y (pc + q) ls (pushR (mS x) v r.2) b' I' L' K) : NW m bc bs y pc ls st b I L K := by
  intro S hS hn g1 g2
  subst hn
  refine DW_step hf ?_
  unfold stD
  dsimp only
  rw [dyn_13, hr]
  refine ⟨by omega, by omega, _, k1 (S.n, S.kd, S.rf, z, u) hS rfl (Nat.le_refl _) (Nat.le_refl _), ?_⟩
  rintro v S' I' L' ⟨b', e1, e2⟩
  exact k2 _ _ _ _ _ e2 (S'.n, S'.kd, S'.rf, S.bc - z, S.bs - u) e1 rfl (show bc - z ≤ S.bc - z by omega) (show bs - u ≤ S.bs - u by omega)
/-- places at which to stop, with the locals that are kept -/
def cutF (pc : Nat) : List (Nat × List Bool) → Option (List Bool)
  | [] => none
  | q :: l => match Nat.beq q.1 pc with
    | true => some q.2
    | false => cutF pc l
noncomputable def wpN (C : List (Nat × List Bool)) (y : Nat) (K : KS) (n : Nat) : NS := Nat.rec (motive := fun _ => NS) (fun pc ls st b I L => SW y pc ls st b I L K) (fun _ ih pc ls st b I L => match cutF pc C with
  | some m => SW y pc (msk m ls) st b I L K
  | none => match fetch y pc with
    | some a => stS SW ih pc ls st b I L K a
    | none => False) n
noncomputable def wpS (C : List (Nat × List Bool)) (y : Nat) (K : KS) (n : Nat) : NS := fun pc ls st b I L => match fetch y pc with
  | some a => stS SW (wpN C y K n) pc ls st b I L K a
  | none => False
theorem wpN_sound {C : List (Nat × List Bool)} {y : Nat} {K : KS} : ∀ (n pc : Nat) (ls st : List AV) (b : Bool) (I : MI) (L : ML), wpN C y K n pc ls st b I L → SW y pc ls st b I L K
  | 0, _, _, _, _, _, _, h => h
  | n + 1, pc, ls, st, b, I, L, h => by
    have h : (match cutF pc C with
      | some m => SW y pc (msk m ls) st b I L K
      | none => match fetch y pc with
        | some a => stS SW (wpN C y K n) pc ls st b I L K a
        | none => False) := h
    cases hc : cutF pc C with
    | some m =>
      rw [hc] at h
      exact SW_forget (msk_le m ls) h
    | none =>
      rw [hc] at h
      dsimp only at h
      cases hf : fetch y pc with
      | none => rw [hf] at h; exact h.elim
      | some a =>
        rw [hf] at h
        exact SW_step hf (stS_mono (fun pc ls st b I L => wpN_sound n pc ls st b I L) h)
theorem wpS_sound {C : List (Nat × List Bool)} {y : Nat} {K : KS} (n : Nat) {pc : Nat} {ls st : List AV} {b : Bool} {I : MI} {L : ML} (h : wpS C y K n pc ls st b I L) : SW y pc ls st b I L K := by
  unfold wpS at h
  cases hf : fetch y pc with
  | none => rw [hf] at h; exact h.elim
  | some a =>
    rw [hf] at h
    exact SW_step hf (stS_mono (fun pc ls st b I L => wpN_sound n pc ls st b I L) h)
noncomputable def wqN (C : List (Nat × List Bool)) (y m bc bs : Nat) (K : KN) (n : Nat) : NS := Nat.rec (motive := fun _ => NS) (fun pc ls st b I L => NW m bc bs y pc ls st b I L K) (fun _ ih pc ls st b I L => match cutF pc C with
  | some q => NW m bc bs y pc (msk q ls) st b I L K
  | none => match fetch y pc with
    | some a => stS SW ih pc ls st b I L (fun r b I L => K r b m I L) a
    | none => False) n
noncomputable def wqS (C : List (Nat × List Bool)) (y m bc bs : Nat) (K : KN) (n : Nat) : NS := fun pc ls st b I L => match fetch y pc with
  | some a => stS SW (wqN C y m bc bs K n) pc ls st b I L (fun r b I L => K r b m I L) a
  | none => False
theorem wqN_sound {C : List (Nat × List Bool)} {y m bc bs : Nat} {K : KN} : ∀ (n pc : Nat) (ls st : List AV) (b : Bool) (I : MI) (L : ML), wqN C y m bc bs K n pc ls st b I L → NW m bc bs y pc ls st b I L K
  | 0, _, _, _, _, _, _, h => h
  | n + 1, pc, ls, st, b, I, L, h => by
    have h : (match cutF pc C with
      | some q => NW m bc bs y pc (msk q ls) st b I L K
      | none => match fetch y pc with
        | some a => stS SW (wqN C y m bc bs K n) pc ls st b I L (fun r b I L => K r b m I L) a
        | none => False) := h
    cases hc : cutF pc C with
    | some q =>
      rw [hc] at h
      exact NW_forget (msk_le q ls) h
    | none =>
      rw [hc] at h
      dsimp only at h
      cases hf : fetch y pc with
      | none => rw [hf] at h; exact h.elim
      | some a =>
        rw [hf] at h
        exact NW_step hf (stS_mono (fun pc ls st b I L => wqN_sound n pc ls st b I L) h)
theorem wqS_sound {C : List (Nat × List Bool)} {y m bc bs : Nat} {K : KN} (n : Nat) {pc : Nat} {ls st : List AV} {b : Bool} {I : MI} {L : ML} (h : wqS C y m bc bs K n pc ls st b I L) : NW m bc bs y pc ls st b I L K := by
  unfold wqS at h
  cases hf : fetch y pc with
  | none => rw [hf] at h; exact h.elim
  | some a =>
    rw [hf] at h
    exact NW_step hf (stS_mono (fun pc ls st b I L => wqN_sound n pc ls st b I L) h)
/-- answers of methods that make -/
def nwI (f : Int32 → Bool → Nat → MI → ML → Prop) : KN := fun r b n I L => match r with
  | .inl v => f v b n I L
  | _ => False
def nwR (f : Nat → Nat → Bool → Nat → MI → ML → Prop) : KN := fun r b n I L => match r with
  | .inr (.inr (t, k)) => f t k b n I L
  | _ => False
/-- calls, by what they answer -/
abbrev CV (x : Nat) (as : List AV) (b : Bool) (I : MI) (L : ML) (f : Bool → MI → ML → Prop) : Prop := SW x 0 (padL (mL x) (entL as)) [] b I L (kV f)
abbrev CI (x : Nat) (as : List AV) (b : Bool) (I : MI) (L : ML) (f : Int32 → Bool → MI → ML → Prop) : Prop := SW x 0 (padL (mL x) (entL as)) [] b I L (kI f)
abbrev CL (x : Nat) (as : List AV) (b : Bool) (I : MI) (L : ML) (f : Int64 → Bool → MI → ML → Prop) : Prop := SW x 0 (padL (mL x) (entL as)) [] b I L (kL f)
abbrev CR (x : Nat) (as : List AV) (b : Bool) (I : MI) (L : ML) (f : Nat → Nat → Bool → MI → ML → Prop) : Prop := SW x 0 (padL (mL x) (entL as)) [] b I L (kR f)
abbrev CT (x t : Nat) (as : List AV) (b : Bool) (I : MI) (L : ML) (f : Nat → Bool → MI → ML → Prop) : Prop := SW x 0 (padL (mL x) (entL as)) [] b I L (kT t f)
