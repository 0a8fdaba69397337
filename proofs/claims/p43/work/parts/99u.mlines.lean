/-! TEXTS: the reference reads all lines, and keeps what is read -/
theorem bf_s {S S' : Sm} {c : Nat} (h : S'.fl = S.fl) (k : S'.pl = S.pl) (hb : bf S c) : bf S' c := by
  unfold bf
  rw [h, k]
  exact hb
theorem ful_bf {i w : Nat} {S : Sm} (h : bf S w) : bf (ful i w S) (w + 1) := by
  unfold ful
  by_cases c : fulB i S = true
  · rw [if_pos c]
    exact blm_bf (bf_up h (by omega)) (by omega)
  · rw [if_neg c]
    exact bf_up h (by omega)
theorem nmL_bf {y : Nat → Nat} {n i : Nat} : ∀ f w a S, w ≤ n → S.fl ≠ 1 → bf S w → (nmL y n i f w a S).1 ≤ n ∧ bf (nmL y n i f w a S).2.2 (nmL y n i f w a S).1
  | 0, _, _, _, hw, _, h => ⟨hw, h⟩
  | f + 1, w, a, S, hw, h1, h => by
    unfold nmL
    by_cases c : kin y n w = 2 ∧ (a < needW i ∨ isKW i = true)
    · rw [if_pos c]
      obtain ⟨a1, a2, a3⟩ := adv_le (y := y) hw
      have a3 := a3 (kin_lt (by rw [c.1]; decide))
      obtain ⟨g1, g2⟩ := accW_bf (i := i) (a := a) (x := nmb y n w) h1 (bf_up h (by omega : w ≤ w + 1))
      exact nmL_bf f _ _ _ a2 g1 (bf_up g2 a3)
    · rw [if_neg c]
      exact ⟨hw, h⟩
theorem linR_bf {y : Nat → Nat} {n i : Nat} {r : Nat × Nat × Sm} (b1 : r.1 ≤ n) (n1 : r.2.2.fl ≠ 1) (b2 : bf r.2.2 r.1) : ((linR y n i r).1 = true → (linR y n i r).2.2.fl ≠ 1 ∧ bf (linR y n i r).2.2 (linR y n i r).2.1) ∧ ((linR y n i r).1 = false → (linR y n i r).2.2.fl = 1) := by
  unfold linR
  by_cases c : r.2.1 < needW i ∨ ¬ kin y n r.1 = 3
  · rw [if_pos c]
    exact ⟨fun z => absurd z Bool.false_ne_true, fun _ => rfl⟩
  · rw [if_neg c]
    refine ⟨fun _ => ⟨?_, bf_s (S := r.2.2) telW_fl.1 telW_fl.2 (bf_up b2 (adv_le b1).1)⟩, fun z => absurd z.symm Bool.false_ne_true⟩
    show (telW i _).fl ≠ 1
    rw [telW_fl.1]
    exact n1
theorem linS_bf {y : Nat → Nat} {n sort w : Nat} {S : Sm} (hw : w < n) (h1 : S.fl ≠ 1) (hb : bf S w) : ((linS y n sort w S).1 = true → (linS y n sort w S).2.2.fl ≠ 1 ∧ bf (linS y n sort w S).2.2 (linS y n sort w S).2.1) ∧ ((linS y n sort w S).1 = false → (linS y n sort w S).2.2.fl = 1) := by
  cases q : wrdS y n sort w with
  | none =>
    have e : linS y n sort w S = (false, w, sty w S) := by
      unfold linS
      rw [q]
    rw [e]
    exact ⟨fun z => absurd z Bool.false_ne_true, fun _ => rfl⟩
  | some i =>
    have e : linS y n sort w S = linR y n i (nmL y n i 600 (adv y n w) 0 (ful i w S)) := by
      unfold linS
      rw [q]
    rw [e]
    obtain ⟨a1, a2, a3⟩ := adv_le (y := y) (n := n) (w := w) (by omega)
    obtain ⟨b1, b2⟩ := nmL_bf (y := y) (i := i) 600 (adv y n w) 0 (ful i w S) a2 (ful_n1 h1) (bf_up (ful_bf hb) (a3 hw))
    exact linR_bf b1 (nmL_n1 600 _ _ _ (ful_n1 h1)) b2
/-! what is read is kept -/
def plT (s k : Nat) : Nat := if s = 0 then 610 + 200 * k else 1010 + 122 * k
def szT (s : Nat) : Nat := if s = 0 then 200 else 122
