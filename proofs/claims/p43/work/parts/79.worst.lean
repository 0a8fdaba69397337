/-! WHAT-IFS: begun by others; worst -/
def bgX (f : Nat → Bool) : Wi := mkX true f (fun _ => false) 0 0 (fun _ => false) (fun _ => false) (fun _ => false) 0
theorem bgX_ok (f : Nat → Bool) : (bgX f).ok := wi0_ok
theorem lif_bg {B : Bk} {a1 a2 : Int32} {x : Wi} {g : Nat → Bool} {I : MI} {L : ML} {m : Int32} (hm : ∀ p, p < 32 → bt m p = g p) (hx : x = wi0 ∨ ∃ f, x = bgX f) (h : lif B a1 a2 x I L) : lif B a1 a2 (bgX g) (sI (sI I 161 6 (nI 1)) 161 7 m) L := by
  obtain ⟨g1, g2, g3⟩ := h
  refine ⟨vilC_fr (fun a q1 q2 => by rw [sI_c (by omega), sI_c (by omega)]) g1, givP_fr (fun j hj => by rw [sI_j (by omega), sI_j (by omega)]) (by rw [sI_c (by omega), sI_c (by omega)]) (by rw [sI_c (by omega), sI_c (by omega)]) rfl g2, ?_⟩
  have e : x.dn = (bgX g).dn ∧ x.df = (bgX g).df ∧ x.dt = (bgX g).dt ∧ x.si = (bgX g).si ∧ x.dd = (bgX g).dd ∧ x.ba = (bgX g).ba ∧ x.bf = (bgX g).bf := by
    rcases hx with rfl | ⟨f, rfl⟩
    · exact ⟨rfl, rfl, rfl, rfl, rfl, rfl, rfl⟩
    · exact ⟨rfl, rfl, rfl, rfl, rfl, rfl, rfl⟩
  obtain ⟨e1, e2, e3, e4, e5, e6, e7⟩ := e
  unfold wiP at g3 ⊢
  obtain ⟨z1, z2, z3, z4, z5, z6, z7, z8⟩ := g3
  rw [← e1, ← e2, ← e3, ← e4, ← e5, ← e6, ← e7]
  refine ⟨?_, ?_, ?_, ?_, ?_, z6, z7, ?_⟩
  · rw [sI_j (by omega), sI_at]
    rfl
  · rw [sI_at]
    intro p hp
    rw [hm p hp]
    rfl
  · rw [sI_j (by omega), sI_j (by omega)]
    exact z3
  · rw [sI_j (by omega), sI_j (by omega), sI_j (by omega), sI_j (by omega)]
    exact z4
  · rw [sI_j (by omega), sI_j (by omega)]
    exact z5
  · rw [sI_j (by omega), sI_j (by omega)]
    exact z8
/-- the first of the greatest ones -/
def gsN (e : Nat → Nat) : Nat → Option Nat
  | 0 => none
  | n + 1 => match gsN e n with
    | none => some n
    | some j => if e j < e n then some n else some j
def gsV (e : Nat → Nat) : Option Nat → Int32
  | none => nM
  | some j => nI (e j)
theorem gsN_lt {e : Nat → Nat} : ∀ {n j : Nat}, gsN e n = some j → j < n
  | 0, j, h => by cases h
  | n + 1, j, h => by
    unfold gsN at h
    cases q : gsN e n with
    | none =>
      rw [q] at h
      have : some n = some j := h
      cases this
      omega
    | some z =>
      rw [q] at h
      have h : (if e z < e n then some n else some z) = some j := h
      have := gsN_lt q
      split at h <;> cases h <;> omega
theorem gsN_next {e : Nat → Nat} {n : Nat} : (gsN e n = none → gsN e (n + 1) = some n) ∧ ∀ j, gsN e n = some j → gsN e (n + 1) = if e j < e n then some n else some j := by
  refine ⟨fun h => ?_, fun j h => ?_⟩
  · unfold gsN
    rw [h]
  · show (match gsN e n with
      | none => some n
      | some j => if e j < e n then some n else some j) = _
    rw [h]
theorem gsN_some {e : Nat → Nat} : ∀ {n : Nat}, 1 ≤ n → ∃ j, gsN e n = some j
  | 0, h => by omega
  | n + 1, _ => by
    obtain ⟨n1, n2⟩ := gsN_next (e := e) (n := n)
    cases q : gsN e n with
    | none => exact ⟨n, n1 q⟩
    | some j =>
      rw [n2 j q]
      split
      · exact ⟨_, rfl⟩
      · exact ⟨_, rfl⟩
