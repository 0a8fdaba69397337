/-! A DAY of the reference: what each one says -/
theorem bf_big {w : Wd} (ok : w.v.ok 41) {s : Nat} (hs : s < 2) (p d k : Nat) (hk : 7 ≤ k) : (stp w d).bf s k p = 99 := by
  cases d with
  | zero => rfl
  | succ d =>
    show (stt w d).bf s k p = 99
    rw [bf_hist]
    refine eq_of_le_iff (fun q => ?_)
    rw [minN_iff]
    constructor
    · exact fun h => h.1
    · intro h
      refine ⟨h, fun t ht => ?_⟩
      have := dl_le ok hs ht
      rw [if_neg (by omega)]
      exact h
theorem dup_big {w : Wd} (ok : w.v.ok 41) {s : Nat} (hs : s < 2) (p d k : Nat) (hk : 7 ≤ k) : (stp w d).du s k p = 0 := by
  cases d with
  | zero => rfl
  | succ d => exact du_big ok hs p d k hk
theorem sumN_all0 {f : Nat → Nat} {n : Nat} (h : ∀ i, i < n → f i = 0) : sumN f n = 0 := (sumN_cong (g := fun _ => 0) h).trans (sumN_zero n)
/-- who has said already: the first persons, and the one at hand on the first sides -/
def dnS (i q s p : Nat) : Bool := decide (p < i) || (decide (p = i) && decide (s < q))
/-- on how many days it was said, while a day's sayings go on -/
def sdP (w : Wd) (d i q : Nat) (I : MI) : Prop := ∀ s, s < 2 → ∀ p, p < 16 → I 197 (2 * p + s) = nI (if p < w.v.n then (stp w d).cn s p + (if (dnS i q s p && saS w d (stp w d) s p) = true ∧ 0 < w.v.lim s p then 1 else 0) else 0)
/-- a day's sayings, as far as they have gone -/
def syP (w : Wd) (d i q : Nat) (I0 I : MI) : Prop := (∀ a, a < 194 ∨ 197 < a → I a = I0 a) ∧ (∀ j, j < 16 * d ∨ 16 * d + 16 ≤ j → I 194 j = I0 194 j) ∧ tbP w d (fun s t => dnS i q s (w.v.fr t)) I ∧ sdP w d i q I ∧ ∀ p, p < i → I 194 (16 * d + p) = nI (hc (saS w d (stp w d) 0 p) (saS w d (stp w d) 1 p))
theorem dnS_next (i s p : Nat) (hs : s < 2) : dnS (i + 1) 0 s p = dnS i 2 s p := by
  unfold dnS
  rw [decide_eq_false (Nat.not_lt_zero s), Bool.and_false, Bool.or_false, decide_eq_true hs, Bool.and_true]
  by_cases e : p = i
  · subst e
    rw [decide_eq_true (by omega : p < p + 1), decide_eq_true rfl, Bool.or_true]
  · rw [decide_eq_false e, Bool.or_false]
    exact decide_eq_decide.mpr ⟨fun _ => by omega, fun _ => by omega⟩
theorem dnS_step (i q s p : Nat) : dnS i (q + 1) s p = (dnS i q s p || (decide (s = q) && decide (p = i))) := by
  unfold dnS
  by_cases e : p = i
  · subst e
    rw [decide_eq_true rfl, Bool.and_true, Bool.true_and, Bool.true_and, Bool.or_assoc]
    congr 1
    by_cases c : s = q
    · subst c
      rw [decide_eq_true (by omega : s < s + 1), decide_eq_true rfl, Bool.or_true]
    · rw [decide_eq_false c, Bool.or_false]
      exact decide_eq_decide.mpr ⟨fun _ => by omega, fun _ => by omega⟩
  · rw [decide_eq_false e, Bool.and_false, Bool.false_and, Bool.false_and, Bool.or_false, Bool.or_false]
