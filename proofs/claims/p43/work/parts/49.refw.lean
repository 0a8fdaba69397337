/-! A WORLD in the reference's numbers -/
def rtP (t : Tel) (I : MI) : Prop := (t.n = 0 ∧ I 186 12 = nM) ∨ ∃ u, 1010 ≤ u ∧ u ≤ 1254 ∧ I 186 12 = nI u ∧ telM u t I
def rxP (x : Wi) (I : MI) (L : ML) : Prop := I 186 26 = nI x.al.toNat ∧ (∀ p, p < 32 → x.al = true → bt (I 186 25) p = x.bg p) ∧ (∀ p, p < 32 → bt (I 186 13) p = x.dn p) ∧ (anyN 32 x.dn = true → I 186 14 = nI x.df ∧ ∃ m, 1 ≤ m ∧ m ≤ 20 ∧ I 186 15 = nI m ∧ x.dt + 1 = x.df + m) ∧ (∀ p, p < 32 → bt (I 186 16) p = x.si p) ∧ (∀ k, k < 64 → bl (L 186 20) k = x.dd k) ∧ (∀ k, k < 64 → bl (L 186 21) k = x.ba k) ∧ (anyN 64 x.ba = true → I 186 22 = nI x.bf)
/-- another village than the one told: of another kind, doubt; with a further tie -/
def vmod (v u : Vil) (x : Wi) (I : MI) : Prop := (u.n = v.n ∧ u.sl = v.sl ∧ u.tw = v.tw ∧ u.td = v.td) ∧ (∀ t, t < v.m → u.fr t = v.fr t ∧ u.to t = v.to t ∧ u.dy t = v.dy t ∧ u.st t = v.st t) ∧ (∀ p, p < 16 → (I 186 17 = nI p ∧ I 186 18 = nI (u.kd p)) ∨ ((¬ nI p = I 186 17 ∨ I 186 18 < nI 0) ∧ u.kd p = v.kd p)) ∧ (∀ p, p < 16 → (I 186 17 = nI p ∧ I 186 19 = nI (u.db p)) ∨ ((¬ nI p = I 186 17 ∨ I 186 19 < nI 0) ∧ u.db p = v.db p)) ∧ ((I 186 23 = nM ∧ u.m = v.m) ∨ ((I 186 23 = nI (u.fr v.m) ∧ I 186 24 = nI (u.to v.m)) ∧ u.m = v.m + 1 ∧ u.dy v.m = 1 ∧ u.st v.m = 9 ∧ x.dd v.m = false ∧ x.ba v.m = false))
def WM (v : Vil) (t : Tel) (x : Wi) (o : Nat) (w : Wd) (I : MI) (L : ML) : Prop := (w = mkW w.v v.m t x ∧ w.v.ok 41 ∧ v.ok 40 ∧ t.ok ∧ x.ok) ∧ ((610 ≤ o ∧ o ≤ 810) ∧ I 186 11 = nI o ∧ vilM o v I) ∧ rtP t I ∧ rxP x I L ∧ vmod v w.v x I
section
variable {v : Vil} {t : Tel} {x : Wi} {o : Nat} {w : Wd} {b : Bool} {I : MI} {L : ML}
theorem WM.fr {I' : MI} {L' : ML} (h : WM v t x o w I L) (h1 : ∀ j, j < 27 → I' 186 j = I 186 j) (h2 : I' 187 = I 187) (h3 : L' 186 = L 186) : WM v t x o w I' L' := by
  obtain ⟨a1, ⟨a2, a3, a4⟩, a5, a6, a7⟩ := h
  refine ⟨a1, ⟨a2, (h1 11 (by decide)).trans a3, vilM_fr h2 a4⟩, ?_, ?_, ?_⟩
  · rcases a5 with ⟨q1, q2⟩ | ⟨u, q1, q2, q3, q4⟩
    · exact Or.inl ⟨q1, (h1 12 (by decide)).trans q2⟩
    · exact Or.inr ⟨u, q1, q2, (h1 12 (by decide)).trans q3, telM_fr h2 q4⟩
  · unfold rxP
    rw [h1 26 (by decide), h1 25 (by decide), h1 13 (by decide), h1 14 (by decide), h1 15 (by decide), h1 16 (by decide), h1 22 (by decide), h3]
    exact a6
  · unfold vmod
    rw [h1 17 (by decide), h1 18 (by decide), h1 19 (by decide), h1 23 (by decide), h1 24 (by decide)]
    exact a7
theorem l_cmp1 {y : Int64} {p : Nat} (h : p < 64) : (lg_cmp ((y >>> ((nI p).toInt64 &&& 63)) &&& 1) 1 = nI 0) = (bl y p = true) := by
  rw [l_bitx h]
  cases bl y p <;> decide
end
