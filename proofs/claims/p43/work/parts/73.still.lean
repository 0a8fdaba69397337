/-! A world is still after its last day -/
theorem wall_late {t : Tel} {d k : Nat} (hd : t.la2 < d) : t.wall d k = false := by
  refine anyN_no.mpr (fun i hi => decide_eq_false ?_)
  rintro ⟨h1, -, -, h2⟩
  have := le_maxN (f := fun a => if t.so a = 2 then t.c a else 0) hi
  rw [if_pos h1] at this
  unfold Tel.la2 at hd
  omega
theorem wall_late1 {t : Tel} {d k : Nat} (hd : t.la1 < d) : t.wall d k = false := by
  refine anyN_no.mpr (fun i hi => decide_eq_false ?_)
  rintro ⟨h1, -, -, h2⟩
  have := le_maxN (f := fun a => if t.so a = 2 then t.c a else t.a a) hi
  rw [if_pos h1] at this
  unfold Tel.la1 at hd
  omega
theorem laW_2a {t : Tel} {x : Wi} (h : x.al = true) : t.la2 ≤ laW t x := by
  unfold laW
  simp only [h, if_true]
  repeat' split
  all_goals omega
theorem opW_late {m0 : Nat} {t : Tel} {x : Wi} {d k : Nat} (hk : k < 64) (hd : laW t x < d) : opW m0 t x d k = !(x.dd k || x.ba k) := by
  have w : t.wall d k = false := by
    cases hal : x.al with
    | true =>
      have := laW_2a (t := t) hal
      exact wall_late (by omega)
    | false =>
      have := laW_1 (t := t) hal
      exact wall_late1 (by omega)
  unfold opW
  rw [w, Bool.false_and, Bool.or_false]
  cases hb : x.ba k with
  | false => rw [Bool.false_and]
  | true =>
    have := laW_3 (t := t) (anyN_iff.mpr ⟨k, hk, hb⟩)
    rw [decide_eq_true (by omega : x.bf ≤ d), Bool.true_and]
theorem mkW_still {v : Vil} {m0 : Nat} {t : Tel} {x : Wi} (hv : v.ok 41) (ht : t.ok) : (mkW v m0 t x).still := by
  intro d d' h1 h2
  have hn := hv.1.2
  have hm := hv.2.1
  refine ⟨fun s hs p hp => ?_, fun k hk => ?_⟩
  · have hp : p < v.n := hp
    show amW t x s d p = amW t x s d' p
    rw [amW_late ht (by omega) (by omega) h1, amW_late ht (by omega) (by omega) h2]
  · have hk : k < v.m := hk
    show opW m0 t x d k = opW m0 t x d' k
    rw [opW_late (by omega) h1, opW_late (by omega) h2]
theorem WL.still {w : Wd} {I : MI} {L : ML} (h : WL w I L) : w.still := by
  obtain ⟨v, m0, t, x, rfl, h1, h2, h3, h4⟩ := h
  exact mkW_still h1 h2
