/-! WHAT-IFS: worst, the class -/
def woW (B : Bk) (a1 a2 : Int32) (p : Nat) : Wd := B.wx a1 a2 (bgX (fun q => decide (q = p)))
def woA (B : Bk) (a1 a2 : Int32) (p : Nat) : Nat := cntB (fun q => anyN 201 (fun e => hold (woW B a1 a2 p) e q)) (woW B a1 a2 p).v.n
def rlN : Option (Nat × Nat) → Nat
  | none => 0
  | some r => r.2
def woL (B : Bk) (a1 a2 : Int32) (p : Nat) : Nat := rlN (rW (woW B a1 a2 p))
theorem woA_le {B : Bk} {a1 a2 : Int32} (hn : (B.wd a1 a2).v.n ≤ 16) (p : Nat) : woA B a1 a2 p ≤ 201 := Nat.le_trans (cntB_le _ _) (Nat.le_trans (show (woW B a1 a2 p).v.n ≤ 16 from hn) (by omega))
theorem rlN_le {w : Wd} : rlN (rW w) ≤ 201 := by
  unfold rW
  cases e : rgU w 201 with
  | none => exact Nat.zero_le _
  | some r =>
    have := rgU_in e
    show r.2 ≤ 201
    omega
theorem rl_if (w : Wd) : (if nI 0 < rlI (rW w) then rlI (rW w) else nI 0) = nI (rlN (rW w)) := by
  have h := rlN_le (w := w)
  cases e : rW w with
  | none =>
    show (if nI 0 < nM then nM else nI 0) = nI 0
    rw [if_neg (by decide)]
  | some r =>
    rw [e] at h
    have h : r.2 ≤ 201 := h
    show (if nI 0 < nI r.2 then nI r.2 else nI 0) = nI r.2
    by_cases c : 0 < r.2
    · rw [if_pos (by rw [n_lt (by omega) (by omega)]; exact c)]
    · rw [if_neg (by rw [n_lt (by omega) (by omega)]; exact c)]
      rw [show r.2 = 0 by omega]
def qWo (e : Nat → Nat) (n : Nat) (a : Int32) : Int32 := if a = nI 0 then optI (gsN e n) else gsV e (gsN e n)
theorem gs_step {e : Nat → Nat} {n : Nat} (he : ∀ i, e i ≤ 201) : (nI (e n) ≤ gsV e (gsN e n) → gsN e (n + 1) = gsN e n) ∧ (¬ nI (e n) ≤ gsV e (gsN e n) → gsN e (n + 1) = some n) := by
  have h0 := he n
  obtain ⟨n1, n2⟩ := gsN_next (e := e) (n := n)
  cases h : gsN e n with
  | none =>
    refine ⟨fun q => ?_, fun _ => n1 h⟩
    have q : nI (e n) ≤ nM := q
    rw [n_lem (by omega)] at q
    exact q.elim
  | some j =>
    have h1 := he j
    show (nI (e n) ≤ nI (e j) → _) ∧ (¬ nI (e n) ≤ nI (e j) → _)
    rw [n_le (by omega) (by omega), n2 j h]
    exact ⟨fun q => if_neg (by omega), fun q => if_pos (by omega)⟩
