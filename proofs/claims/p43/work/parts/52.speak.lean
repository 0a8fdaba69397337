/-! WHAT IS SAID GOES OUT, in the reference -/
theorem sumN_one {f f' : Nat → Nat} {t0 : Nat} : ∀ {n : Nat}, t0 < n → (∀ t, t ≠ t0 → f' t = f t) → f t0 = 0 → sumN f' n = sumN f n + f' t0
  | 0, h, _, _ => absurd h (Nat.not_lt_zero _)
  | n + 1, h, h1, h2 => by
    unfold sumN
    by_cases e : t0 = n
    · subst e
      rw [sumN_cong (fun i hi => h1 i (by omega)), h2]
      omega
    · rw [sumN_one (by omega : t0 < n) h1 h2, h1 n (fun q => e q.symm)]
      omega
theorem minN_one {f f' : Nat → Nat} {t0 z n : Nat} (h : t0 < n) (h1 : ∀ t, t ≠ t0 → f' t = f t) (h2 : z ≤ f t0) : minN z f' n = if f' t0 < minN z f n then f' t0 else minN z f n := by
  refine eq_of_le_iff (fun q => ?_)
  have key : q ≤ minN z f' n ↔ q ≤ minN z f n ∧ q ≤ f' t0 := by
    rw [minN_iff, minN_iff]
    constructor
    · rintro ⟨g1, g2⟩
      refine ⟨⟨g1, fun i hi => ?_⟩, g2 t0 h⟩
      by_cases e : i = t0
      · subst e; omega
      · rw [← h1 i e]; exact g2 i hi
    · rintro ⟨⟨g1, g2⟩, g3⟩
      refine ⟨g1, fun i hi => ?_⟩
      by_cases e : i = t0
      · subst e; exact g3
      · rw [h1 i e]; exact g2 i hi
  rw [key]
  split
  · exact ⟨fun g => g.2, fun g => ⟨by omega, g⟩⟩
  · exact ⟨fun g => g.1, fun g => ⟨g, by omega⟩⟩
theorem bf_le (w : Wd) (s k p d : Nat) : (stp w d).bf s k p ≤ 99 := by
  cases d with
  | zero => exact Nat.le_refl _
  | succ d =>
    show (stt w d).bf s k p ≤ 99
    rw [bf_hist]
    exact (minN_iff.mp (Nat.le_refl _)).1
/-- what comes by a tie that is done, and by whom -/
def outT (w : Wd) (d s k p : Nat) (D : Nat → Nat → Bool) (t : Nat) : Nat := if (w.v.to t = p ∧ w.v.dl s t = k) ∧ (D s t && goS w d (stp w d) s t) = true then w.v.st t else 0
def outF (w : Wd) (d s k p : Nat) (D : Nat → Nat → Bool) (t : Nat) : Nat := if (w.v.to t = p ∧ w.v.dl s t = k) ∧ (D s t && goS w d (stp w d) s t) = true then w.v.fr t else 99
/-- the table of what is to come, while a day's sayings go out -/
def tbP (w : Wd) (d : Nat) (D : Nat → Nat → Bool) (I : MI) : Prop := ∀ k, 1 ≤ k → k ≤ 8 → ∀ s, s < 2 → ∀ p, p < 16 → I 195 (32 * ((d + k) % 8) + 2 * p + s) = nI ((stp w d).du s (k + 1) p + sumN (outT w d s k p D) w.v.m) ∧ I 196 (32 * ((d + k) % 8) + 2 * p + s) = nI (minN ((stp w d).bf s (k + 1) p) (outF w d s k p D) w.v.m)
theorem tbP_cong {w : Wd} {d : Nat} {D D' : Nat → Nat → Bool} {I I' : MI} (h1 : I' 195 = I 195) (h2 : I' 196 = I 196) (h : ∀ s, s < 2 → ∀ t, t < w.v.m → (D' s t && goS w d (stp w d) s t) = (D s t && goS w d (stp w d) s t)) (T : tbP w d D I) : tbP w d D' I' := by
  intro k k1 k2 s hs p hp
  have e1 : sumN (outT w d s k p D') w.v.m = sumN (outT w d s k p D) w.v.m := sumN_cong (fun t ht => by unfold outT; rw [h s hs t ht])
  have e2 : minN ((stp w d).bf s (k + 1) p) (outF w d s k p D') w.v.m = minN ((stp w d).bf s (k + 1) p) (outF w d s k p D) w.v.m := by
    refine eq_of_le_iff (fun q => ?_)
    rw [minN_iff, minN_iff]
    refine and_congr Iff.rfl (forall_congr' (fun t => imp_congr_right (fun ht => ?_)))
    unfold outF
    rw [h s hs t ht]
  rw [h1, h2, e1, e2]
  exact T k k1 k2 s hs p hp
