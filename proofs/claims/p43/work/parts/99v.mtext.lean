/-! TEXTS: the reference's text, whole -/
def iniR (s j : Nat) : Nat := if s = 0 ∧ 21 ≤ j ∧ j ≤ 36 then 1 else 0
def cnS (B : Bk) (s : Nat) : Nat := if s = 0 then B.nv else B.nt
/-- there is a place for it -/
def Fit (B : Bk) (a1 a2 : Int32) (s k : Nat) : Prop := s ≤ 1 ∧ a1 = nI s ∧ (a2 = nM ∧ k = cnS B s ∧ k < 2 + s ∨ a2 = nI k ∧ k < cnS B s)
/-- what is told behind a text -/
def txB (B : Bk) (s k : Nat) (S : Sm) : Bk := if S.fl = 0 then (if s = 0 then mkB (if k = B.nv then B.nv + 1 else B.nv) B.nt 0 0 nM B.yt (fun j => if j = k then S.vv else B.vl j) B.tl else mkB B.nv (if k = B.nt then B.nt + 1 else B.nt) 0 0 nM B.yt B.vl (fun j => if j = k then S.tt else B.tl j)) else mkB B.nv B.nt 0 S.fl (nI S.pl) B.yt B.vl B.tl
theorem txB_ok {B : Bk} {a1 a2 : Int32} {s k : Nat} (ok : B.ok) (F : Fit B a1 a2 s k) : (txB B s k (parS B.yt B.ln s)).ok := by
  obtain ⟨⟨o1, o2, o3, o4⟩, o5, o6, o7⟩ := ok
  obtain ⟨f1, f2, f3⟩ := F
  obtain ⟨p1, p2⟩ := parS_ok (y := B.yt) (sort := s) o3
  unfold txB
  by_cases h0 : (parS B.yt B.ln s).fl = 0
  · obtain ⟨p3, p4⟩ := p2 h0
    rw [if_pos h0]
    by_cases s0 : s = 0
    · rw [if_pos s0]
      unfold cnS at f3
      rw [if_pos s0] at f3
      refine ⟨⟨?_, o2, Nat.zero_le _, Nat.zero_le _⟩, fun j hj => absurd hj (Nat.not_lt_zero _), fun j hj => ?_, o7⟩
      · show (if k = B.nv then B.nv + 1 else B.nv) ≤ 2
        split <;> omega
      · show (if j = k then (parS B.yt B.ln s).vv else B.vl j).ok 40
        have hj : j < (if k = B.nv then B.nv + 1 else B.nv) := hj
        by_cases e : j = k
        · rw [if_pos e]
          exact p4 s0
        · rw [if_neg e]
          refine o6 j ?_
          split at hj <;> omega
    · rw [if_neg s0]
      unfold cnS at f3
      rw [if_neg s0] at f3
      refine ⟨⟨o1, ?_, Nat.zero_le _, Nat.zero_le _⟩, fun j hj => absurd hj (Nat.not_lt_zero _), o6, fun j hj => ?_⟩
      · show (if k = B.nt then B.nt + 1 else B.nt) ≤ 3
        split <;> omega
      · show (if j = k then (parS B.yt B.ln s).tt else B.tl j).ok
        have hj : j < (if k = B.nt then B.nt + 1 else B.nt) := hj
        by_cases e : j = k
        · rw [if_pos e]
          exact p3
        · rw [if_neg e]
          refine o7 j ?_
          split at hj <;> omega
  · rw [if_neg h0]
    exact ⟨⟨o1, o2, Nat.zero_le _, p1⟩, fun j hj => absurd hj (Nat.not_lt_zero _), o6, o7⟩
theorem S0_Q {s : Nat} (hs : s ≤ 1) {I : MI} (h9 : I 186 9 = nI 0) (h : ∀ j, j < 200 → I 189 j = nI (if s = 0 ∧ j = 0 then 2 else iniR s j)) : QR s S0 I := by
  rcases (by omega : s = 0 ∨ s = 1) with rfl | rfl
  · have e : ∀ j, j < 200 → j ≠ 0 → ¬ (21 ≤ j ∧ j ≤ 36) → I 189 j = nI 0 := fun j hj j0 hn => by
      rw [h j hj, if_neg (fun z => j0 z.2)]
      unfold iniR
      rw [if_neg (fun z => hn z.2)]
    have e0 : I 189 0 = nI 2 := by
      rw [h 0 (by omega), if_pos ⟨rfl, rfl⟩]
    refine ⟨⟨0, by omega, e 1 (by omega) (by omega) (by omega)⟩, fun _ => ⟨fun _ => ⟨h9, ⟨e0, e 1 (by omega) (by omega) (by omega), e 2 (by omega) (by omega) (by omega), e 3 (by omega) (by omega) (by omega), e 4 (by omega) (by omega) (by omega)⟩, fun p hp => ⟨e (5 + p) (by omega) (by omega) (by omega), ?_⟩, fun t ht => absurd ht (Nat.not_lt_zero _)⟩, fun z => absurd rfl z⟩⟩
    rw [h (21 + p) (by omega), if_neg (by omega)]
    unfold iniR
    rw [if_pos ⟨rfl, by omega, by omega⟩]
    rfl
  · have e0 : I 189 0 = nI 0 := by
      rw [h 0 (by omega), if_neg (by omega)]
      rfl
    exact ⟨⟨0, by omega, e0⟩, fun _ => ⟨fun z => absurd z (by decide), fun _ => ⟨h9, e0, fun t ht => absurd ht (Nat.not_lt_zero _)⟩⟩⟩
