/-! A RUN of the reference -/
/-- a day's row -/
def dayQ (w : Wd) (e : Nat) (I : MI) : Prop := ∀ p, p < w.v.n → I 190 (16 * e + p) = nI (hc ((stt w e).ha 0 p) ((stt w e).ha 1 p)) ∧ I 191 (16 * e + p) = nI (hrdS w e (stp w e) 0 p) ∧ I 192 (16 * e + p) = nI (hrdS w e (stp w e) 1 p) ∧ I 193 (16 * e + p) = zI ((stt w e).su p) ∧ I 194 (16 * e + p) = nI (hc ((stt w e).sa 0 p) ((stt w e).sa 1 p))
/-- what is known when so many days are lived -/
def dysP (w : Wd) (N : Nat) (I : MI) (L : ML) : Prop := cmP w N I ∧ (∀ s, s < 2 → ∀ p, p < 16 → I 197 (2 * p + s) = nI (if p < w.v.n then (stp w N).cn s p else 0)) ∧ (∀ s, s < 2 → ∀ p, p < w.v.n → I 198 (2 * p + s) = honI (hon w s p N) ∧ I 199 (2 * p + s) = hbyI w s p (hon w s p N)) ∧ (∀ e, e < N → dayQ w e I) ∧ ∀ e, e < N → lkP w e I L
def rgM (o : Option (Nat × Nat)) (I : MI) : Prop := match o with
  | none => I 186 39 = nM ∧ I 186 40 = nM
  | some r => I 186 39 = nI r.1 ∧ I 186 40 = nI r.2
/-- the cells that a run writes -/
def frM (I I' : MI) : Prop := (∀ a, a < 186 ∨ a = 187 ∨ a = 188 ∨ a = 189 ∨ 202 ≤ a → I' a = I a) ∧ ∀ j, j ≠ 39 → j ≠ 40 → I' 186 j = I 186 j
theorem frM.trans {I I' I'' : MI} (h : frM I I') (k : frM I' I'') : frM I I'' := ⟨fun a ha => (k.1 a ha).trans (h.1 a ha), fun j h1 h2 => (k.2 j h1 h2).trans (h.2 j h1 h2)⟩
