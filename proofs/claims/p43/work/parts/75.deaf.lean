/-! WHAT-IFS: deaf -/
def setDb (v : Vil) (p d : Nat) : Vil := mkV v.n v.m v.sl v.tw v.td v.kd (fun q => if q = p then d else v.db q) v.fr v.to v.dy v.st
theorem setDb_2 (v : Vil) (p c d : Nat) : setDb (setDb v p c) p d = setDb v p d := by
  have e : (fun q => if q = p then d else (if q = p then c else v.db q)) = (fun q => if q = p then d else v.db q) := by
    funext q
    by_cases h : q = p
    · rw [if_pos h, if_pos h]
    · rw [if_neg h, if_neg h, if_neg h]
  show mkV v.n v.m v.sl v.tw v.td v.kd (fun q => if q = p then d else (if q = p then c else v.db q)) v.fr v.to v.dy v.st = _
  rw [e]
  rfl
theorem setDb_ok {M : Nat} {v : Vil} {p d : Nat} (h : v.ok M) (h1 : 1 ≤ d) (h2 : d ≤ 99) : (setDb v p d).ok M := by
  obtain ⟨q1, q2, q3, q4, q5, q6, q7⟩ := h
  refine ⟨q1, q2, q3, q4, q5, fun q hq => ?_, q7⟩
  obtain ⟨z1, z2, z3⟩ := q6 q hq
  refine ⟨z1, ?_⟩
  show 1 ≤ (if q = p then d else v.db q) ∧ (if q = p then d else v.db q) ≤ 99
  split <;> omega
theorem lifeP_db {v : Vil} {m0 p d : Nat} {t : Tel} {x : Wi} {I : MI} {L : ML} (hp : p < 16) (h : lifeP v m0 t x I L) : lifeP (setDb v p d) m0 t x (sI I 156 p (nI d)) L := by
  obtain ⟨g1, g2, g3⟩ := h
  refine ⟨⟨?_, fun q hq => ?_, fun k hk => ?_⟩, givP_fr (fun j hj => by rw [sI_c (by omega)]) (sI_c (by omega)) (sI_c (by omega)) rfl g2, ?_⟩
  · rw [sI_c (by omega)]
    exact g1.1
  · rw [sI_c (by omega)]
    refine ⟨(g1.2.1 q hq).1, ?_⟩
    show sI I 156 p (nI d) 156 q = nI (if q = p then d else v.db q)
    by_cases c : q = p
    · subst c
      rw [if_pos rfl, sI_at]
    · rw [if_neg c, sI_j c]
      exact (g1.2.1 q hq).2
  · rw [sI_c (by omega), sI_c (by omega), sI_c (by omega), sI_c (by omega)]
    exact g1.2.2 k hk
  · unfold wiP at g3 ⊢
    rw [sI_c (by omega)]
    exact g3
theorem lifeP_fr {v : Vil} {m0 : Nat} {t : Tel} {x : Wi} {I I' : MI} {L L' : ML} (h1 : ∀ a, 154 ≤ a → a < 165 → I' a = I a) (h2 : ∀ a, a = 161 ∨ a = 164 → L' a = L a) (h : lifeP v m0 t x I L) : lifeP v m0 t x I' L' := by
  obtain ⟨g1, g2, g3⟩ := h
  refine ⟨vilC_fr (fun a q1 q2 => h1 a (by omega) (by omega)) g1, givP_fr (fun j _ => by rw [h1 161 (by omega) (by omega)]) (h1 162 (by omega) (by omega)) (h1 163 (by omega) (by omega)) (h2 164 (by omega)) g2, ?_⟩
  unfold wiP at g3 ⊢
  rw [h1 161 (by omega) (by omega), h2 161 (by omega)]
  exact g3
def dfW (v : Vil) (t : Tel) (p d : Nat) : Wd := mkW (setDb v p d) v.m t wi0
def dfB (v : Vil) (t : Tel) (p d : Nat) : Bool := !anyN 201 (fun e => hold (dfW v t p d) e p)
theorem df_bit {v : Vil} {t : Tel} {p d : Nat} (hn : v.n ≤ 16) (hp : p < v.n) : bt (evI (dfW v t p d) 201) p = !dfB v t p d := by
  unfold evI dfB
  have hp' : p < (dfW v t p d).v.n := hp
  rw [bI_bit _ (show (dfW v t p d).v.n ≤ 32 from Nat.le_trans hn (by omega)), decide_eq_true hp', Bool.true_and, Bool.not_not]
