/-! A WORLD in the reference's numbers -/
def rxP (x : Wi) (I : MI) (L : ML) : Prop := I 186 26 = nI x.al.toNat ∧ (∀ p, p < 32 → x.al = true → bt (I 186 25) p = x.bg p) ∧ (∀ p, p < 32 → bt (I 186 13) p = x.dn p) ∧ (anyN 32 x.dn = true → I 186 14 = nI x.df ∧ ∃ m, 1 ≤ m ∧ m ≤ 20 ∧ I 186 15 = nI m ∧ x.dt + 1 = x.df + m) ∧ (∀ p, p < 32 → bt (I 186 16) p = x.si p) ∧ (∀ k, k < 64 → bl (L 186 20) k = x.dd k) ∧ (∀ k, k < 64 → bl (L 186 21) k = x.ba k) ∧ (anyN 64 x.ba = true → I 186 22 = nI x.bf)
/-- another village than the one told: of another kind, doubt; with a further tie -/
def vmod (v u : Vil) (x : Wi) (I : MI) : Prop := (u.n = v.n ∧ u.sl = v.sl ∧ u.tw = v.tw ∧ u.td = v.td) ∧ (∀ t, t < v.m → u.fr t = v.fr t ∧ u.to t = v.to t ∧ u.dy t = v.dy t ∧ u.st t = v.st t) ∧ (∀ p, p < 16 → (I 186 17 = nI p ∧ I 186 18 = nI (u.kd p)) ∨ ((¬ nI p = I 186 17 ∨ I 186 18 < nI 0) ∧ u.kd p = v.kd p)) ∧ (∀ p, p < 16 → (I 186 17 = nI p ∧ I 186 19 = nI (u.db p)) ∨ ((¬ nI p = I 186 17 ∨ I 186 19 < nI 0) ∧ u.db p = v.db p)) ∧ ((I 186 23 = nM ∧ u.m = v.m) ∨ ((I 186 23 = nI (u.fr v.m) ∧ I 186 24 = nI (u.to v.m)) ∧ u.m = v.m + 1 ∧ u.dy v.m = 1 ∧ u.st v.m = 9 ∧ x.dd v.m = false ∧ x.ba v.m = false))
section
variable {v : Vil} {t : Tel} {x : Wi} {o : Nat} {w : Wd} {b : Bool} {I : MI} {L : ML}
theorem l_cmp1 {y : Int64} {p : Nat} (h : p < 64) : (lg_cmp ((y >>> ((nI p).toInt64 &&& 63)) &&& 1) 1 = nI 0) = (bl y p = true) := by
  rw [l_bitx h]
  cases bl y p <;> decide
end
