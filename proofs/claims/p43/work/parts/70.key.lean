/-! WHAT-IFS: key -/
theorem l_one {k i : Nat} (hk : k < 64) (hi : i < 64) : bl ((1 : Int64) <<< ((nI k).toInt64 &&& 63)) i = decide (i = k) := by
  rw [l_shl k hk _ hi]
  by_cases c : k ≤ i
  · rw [decide_eq_true c, Bool.true_and, l_1 _ (by omega)]
    exact decide_eq_decide.mpr ⟨fun _ => by omega, fun _ => by omega⟩
  · rw [decide_eq_false c, Bool.false_and, decide_eq_false (by omega)]
/-- the first of the least ones -/
def lsN (e : Nat → Nat) : Nat → Option Nat
  | 0 => none
  | n + 1 => match lsN e n with
    | none => some n
    | some j => if e n < e j then some n else some j
def lsV (e : Nat → Nat) : Option Nat → Nat
  | none => 1000
  | some j => e j
theorem lsN_next {e : Nat → Nat} {n : Nat} (he : ∀ i, e i ≤ 16) : (lsV e (lsN e n) ≤ e n → lsN e (n + 1) = lsN e n) ∧ (¬ lsV e (lsN e n) ≤ e n → lsN e (n + 1) = some n) := by
  have h0 := he n
  cases h : lsN e n with
  | none =>
    have g : lsN e (n + 1) = some n := by
      unfold lsN
      rw [h]
    exact ⟨fun q => absurd (show 1000 ≤ e n from q) (by omega), fun _ => g⟩
  | some j =>
    have g : lsN e (n + 1) = if e n < e j then some n else some j := by
      unfold lsN
      rw [h]
    rw [g]
    have h1 := he j
    show (e j ≤ e n → _) ∧ (¬ e j ≤ e n → _)
    exact ⟨fun q => if_neg (by omega), fun q => if_pos (by omega)⟩
theorem lsV_le {e : Nat → Nat} (he : ∀ i, e i ≤ 16) (o : Option Nat) : lsV e o ≤ 1000 := by
  cases o with
  | none => exact Nat.le_refl _
  | some j => exact Nat.le_trans (he j) (by omega)
def Wi.wdd (x : Wi) (g : Nat → Bool) : Wi := mkX x.al x.bg x.dn x.df x.dt x.si g x.ba x.bf
theorem lif_dd {B : Bk} {a1 a2 : Int32} {x : Wi} {g : Nat → Bool} {I : MI} {L : ML} {m : Int64} (hm : ∀ p, p < 64 → bl m p = g p) (h : lif B a1 a2 x I L) : lif B a1 a2 (x.wdd g) I (sL L 161 12 m) := by
  obtain ⟨g1, g2, g3⟩ := h
  refine ⟨g1, givP_fr (fun j hj => rfl) rfl rfl (sL_c (by omega)) g2, ?_⟩
  unfold wiP at g3 ⊢
  obtain ⟨z1, z2, z3, z4, z5, z6, z7, z8⟩ := g3
  refine ⟨z1, z2, z3, z4, z5, ?_, ?_, z8⟩
  · rw [sL_at]
    exact hm
  · rw [sL_j (by omega)]
    exact z7
theorem wdd_ok {x : Wi} (h : x.ok) (g : Nat → Bool) : (x.wdd g).ok := h
def kyP (B : Bk) (a1 a2 : Int32) (p : Nat) : Nat := endN (B.wx a1 a2 (siX (fun q => decide (q = p))))
def kyT (B : Bk) (a1 a2 : Int32) (k : Nat) : Nat := endN (B.wx a1 a2 (wi0.wdd (fun q => decide (q = k))))
