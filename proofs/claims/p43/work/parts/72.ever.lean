/-! WHAT-IFS: who ever holds, also when the run stopped at its ring -/
theorem hold_alike {w : Wd} {a d p : Nat} (hp : p < w.v.n) (h : alike w (stt w a) (stt w d)) : hold w a p = hold w d p := by
  have h0 := (h 0 (by omega) p hp).1.1
  have h1 := (h 1 (by omega) p hp).1.1
  unfold hold
  rw [h0, h1]
theorem ev_stop {w : Wd} (ok : w.v.ok 41) (hs : w.still) {N : Nat} (hN : N ≤ 201) (h1 : rgU w N = none → N = 201) (h2 : ∀ r, rgU w N = some r → N = r.1 + r.2 + 1) : evI w N = evI w 201 := by
  cases e : rgU w N with
  | none => rw [h1 e]
  | some r =>
    obtain ⟨a, l⟩ := r
    have hr := h2 _ e
    obtain ⟨q1, q2, q3, q4⟩ := rgU_some e
    have al := (alk_iff ok).mp q4
    refine bI_cong (fun p hp => ?_)
    have per := period_in (fun t ht => (ok.2.2.2.2.2.2 t ht).1) hs q1 (show a < a + l by omega) al
    cases c : anyN N (fun e => hold w e p) with
    | true =>
      obtain ⟨i, hi, h⟩ := anyN_iff.mp c
      exact (anyN_iff.mpr ⟨i, by omega, h⟩).symm
    | false =>
      have c := anyN_no.mp c
      refine (anyN_no.mpr (fun i hi => ?_)).symm
      obtain ⟨e', h3, h4, h5⟩ := per i
      rw [← hold_alike hp h5]
      exact c e' (by omega)
def rW (w : Wd) : Option (Nat × Nat) := rgU w 201
