/-! WHAT-IFS: drawn worlds, the class -/
def drX (x : Int32) : Int32 := x * 1103515245 + 12345
def drR (x : Int32) : Int32 := uS (drX x) 16 - uS (drX x) 16 / 10 * 10
def drS (x : Int32) : Nat → Int32
  | 0 => x
  | n + 1 => drX (drS x n)
def drB (v : Vil) (x : Int32) (k : Nat) : Bool := decide (k < v.m) && !decide (drR (drS x k) < nI (v.st k))
theorem c_drawnDead {v : Vil} {x : Int32} {b : Bool} {I : MI} {L : ML} {K : Int64 → Bool → MI → ML → Prop} (hv : v.ok 41) (h : vilC 154 v I) (hK : ∀ y : Int64, (∀ k, k < 64 → bl y k = drB v x k) → K y b I L) : CL m_Search_drawnDead [vr 15 181, vi x] b I L K := by
  have hm := hv.2.1
  have e3 := h.1.2.1
  have loop : ∀ n i, i + n = v.m → ∀ y : Int64, (∀ k, k < 64 → bl y k = (decide (k < i) && drB v x k)) → SW m_Search_drawnDead 7 [vr 15 181, un, vi (drS x i), vl y, un, vi (nI i)] [] b I L (kL K) := by
    intro n
    induction n with
    | zero =>
      intro i hi y hy
      obtain rfl : i = v.m := by omega
      refine v_Search_drawnDead_7 ⟨fun _ => hK y (fun k hk => ?_), fun z => absurd (by rw [e3, n_le (by omega) (by omega)]; exact Nat.le_refl _) z⟩
      rw [hy k hk]
      unfold drB
      cases decide (k < v.m) <;> rfl
    | succ n ih =>
      intro i hi y hy
      have es := (h.2.2 i (by omega)).2.2.2
      simp only [Nat.reduceAdd] at es
      have ei : (nI i).toNatClampNeg = i := n_cl (by omega)
      have hb : drB v x i = !decide (drR (drS x i) < nI (v.st i)) := by
        unfold drB
        rw [decide_eq_true (by omega : i < v.m), Bool.true_and]
      refine v_Search_drawnDead_7 ⟨fun z => absurd z (by rw [e3, n_le (by omega) (by omega)]; omega), fun _ => ⟨by decide, by rw [n_in (by omega)]; omega, ?_⟩⟩
      rw [ei, es, show nI i + (1 : Int32) = nI (i + 1) from n_add i 1]
      refine ⟨fun c => ?_, fun c => ?_⟩
      · have c : drR (drS x i) < nI (v.st i) := c
        rw [decide_eq_true c] at hb
        exact ih (i + 1) (by omega) y (fun k hk => by
          rw [hy k hk]
          by_cases e : k = i
          · subst e
            rw [hb]
            cases decide (k < k) <;> cases decide (k < k + 1) <;> rfl
          · congr 1
            exact decide_eq_decide.mpr ⟨fun _ => by omega, fun _ => by omega⟩)
      · have c : ¬ drR (drS x i) < nI (v.st i) := c
        rw [decide_eq_false c] at hb
        exact ih (i + 1) (by omega) (y ||| ((1 : Int64) <<< ((nI i).toInt64 &&& 63))) (fun k hk => by
          rw [l_or, hy k hk, l_one (by omega) hk]
          by_cases e : k = i
          · subst e
            rw [hb, decide_eq_true rfl, Bool.or_true, decide_eq_true (by omega : k < k + 1)]
            rfl
          · rw [decide_eq_false e, Bool.or_false]
            congr 1
            exact decide_eq_decide.mpr ⟨fun _ => by omega, fun _ => by omega⟩)
  exact v_Search_drawnDead_0 (loop v.m 0 (by omega) 0 (fun k hk => by rw [l_0, decide_eq_false (Nat.not_lt_zero k), Bool.false_and]))
