/-! WHAT-IFS: turn -/
def setKd (v : Vil) (p d : Nat) : Vil := mkV v.n v.m v.sl v.tw v.td (fun q => if q = p then d else v.kd q) v.db v.fr v.to v.dy v.st
theorem setKd_back (v : Vil) (p c : Nat) : setKd (setKd v p c) p (v.kd p) = v := by
  have e : (fun q => if q = p then v.kd p else (if q = p then c else v.kd q)) = v.kd := by
    funext q
    by_cases h : q = p
    · rw [if_pos h, h]
    · rw [if_neg h, if_neg h]
  show mkV v.n v.m v.sl v.tw v.td (fun q => if q = p then v.kd p else (if q = p then c else v.kd q)) v.db v.fr v.to v.dy v.st = _
  rw [e]
  rfl
theorem setKd_ok {M : Nat} {v : Vil} {p d : Nat} (h : v.ok M) (h2 : d ≤ 5) : (setKd v p d).ok M := by
  obtain ⟨q1, q2, q3, q4, q5, q6, q7⟩ := h
  refine ⟨q1, q2, q3, q4, q5, fun q hq => ?_, q7⟩
  obtain ⟨z1, z2, z3⟩ := q6 q hq
  refine ⟨?_, z2, z3⟩
  show (if q = p then d else v.kd q) ≤ 5
  split <;> omega
theorem lifeP_kd {v : Vil} {m0 p d : Nat} {t : Tel} {x : Wi} {I : MI} {L : ML} (hp : p < 16) (h : lifeP v m0 t x I L) : lifeP (setKd v p d) m0 t x (sI I 155 p (nI d)) L := by
  obtain ⟨g1, g2, g3⟩ := h
  refine ⟨⟨?_, fun q hq => ?_, fun k hk => ?_⟩, givP_fr (fun j hj => by rw [sI_c (by omega)]) (sI_c (by omega)) (sI_c (by omega)) rfl g2, ?_⟩
  · rw [sI_c (by omega)]
    exact g1.1
  · refine ⟨?_, by rw [sI_c (by omega)]; exact (g1.2.1 q hq).2⟩
    show sI I 155 p (nI d) 155 q = nI (if q = p then d else v.kd q)
    by_cases c : q = p
    · subst c
      rw [if_pos rfl, sI_at]
    · rw [if_neg c, sI_j c]
      exact (g1.2.1 q hq).1
  · rw [sI_c (by omega), sI_c (by omega), sI_c (by omega), sI_c (by omega)]
    exact g1.2.2 k hk
  · unfold wiP at g3 ⊢
    rw [sI_c (by omega)]
    exact g3
def tuW (v : Vil) (t : Tel) (k p : Nat) : Wd := mkW (setKd v p k) v.m t wi0
def tuE (v : Vil) (t : Tel) (k p : Nat) : Nat := endN (tuW v t k p)
theorem tuE_le {v : Vil} {t : Tel} {k : Nat} (hn : v.n ≤ 16) (p : Nat) : tuE v t k p ≤ 16 := Nat.le_trans (endN_le _) hn
def qTu (e : Nat → Nat) (n : Nat) (a : Int32) : Int32 := if a = nI 0 then optI (lsN e n) else nI (lsV e (lsN e n))
