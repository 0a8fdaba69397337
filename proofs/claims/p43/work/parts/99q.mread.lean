/-! TEXTS: what the reference has read -/
def vilQ (v : Vil) (f : Nat → Int32) : Prop := (f 0 = nI v.n ∧ f 1 = nI v.m ∧ f 2 = nI v.sl ∧ f 3 = nI v.tw ∧ f 4 = nI v.td) ∧ (∀ p, p < 16 → f (5 + p) = nI (v.kd p) ∧ f (21 + p) = nI (v.db p)) ∧ ∀ t, t < v.m → f (37 + 4 * t) = nI (v.fr t) ∧ f (37 + 4 * t + 1) = nI (v.to t) ∧ f (37 + 4 * t + 2) = nI (v.dy t) ∧ f (37 + 4 * t + 3) = nI (v.st t)
def telQ (t : Tel) (f : Nat → Int32) : Prop := f 0 = nI t.n ∧ ∀ k, k < t.n → f (1 + 4 * k) = nI (t.so k) ∧ f (1 + 4 * k + 1) = nI (t.a k) ∧ f (1 + 4 * k + 2) = nI (t.b k) ∧ f (1 + 4 * k + 3) = t.ci k
theorem vilQ_pe {v : Vil} {x : Nat} {I : MI} (h : vilQ v (I 189)) : vilQ (setPe v x) (sI I 189 0 (nI x) 189) := by
  obtain ⟨⟨h1, h2, h3, h4, h5⟩, h6, h7⟩ := h
  refine ⟨⟨sI_at _ _ _ _, ?_, ?_, ?_, ?_⟩, fun p hp => ?_, fun t ht => ?_⟩
  · rw [sI_j (by omega)]
    exact h2
  · rw [sI_j (by omega)]
    exact h3
  · rw [sI_j (by omega)]
    exact h4
  · rw [sI_j (by omega)]
    exact h5
  · rw [sI_j (by omega), sI_j (by omega)]
    exact h6 p hp
  · rw [sI_j (by omega), sI_j (by omega), sI_j (by omega), sI_j (by omega)]
    exact h7 t ht
theorem vilQ_sl {v : Vil} {x : Nat} {I : MI} (h : vilQ v (I 189)) : vilQ (setSl v x) (sI I 189 2 (nI x) 189) := by
  obtain ⟨⟨h1, h2, h3, h4, h5⟩, h6, h7⟩ := h
  refine ⟨⟨?_, ?_, sI_at _ _ _ _, ?_, ?_⟩, fun p hp => ?_, fun t ht => ?_⟩
  · rw [sI_j (by omega)]
    exact h1
  · rw [sI_j (by omega)]
    exact h2
  · rw [sI_j (by omega)]
    exact h4
  · rw [sI_j (by omega)]
    exact h5
  · rw [sI_j (by omega), sI_j (by omega)]
    exact h6 p hp
  · rw [sI_j (by omega), sI_j (by omega), sI_j (by omega), sI_j (by omega)]
    exact h7 t ht
theorem vilQ_ti {v : Vil} {x z : Nat} {f : Nat → Int32} {I : MI} (h : vilQ v f) (e3 : I 189 3 = nI x) (e : ∀ j, j ≠ 3 → I 189 j = f j) : vilQ (setTi v x z) (sI I 189 4 (nI z) 189) := by
  obtain ⟨⟨h1, h2, h3, h4, h5⟩, h6, h7⟩ := h
  refine ⟨⟨?_, ?_, ?_, ?_, sI_at _ _ _ _⟩, fun p hp => ?_, fun t ht => ?_⟩
  · rw [sI_j (by omega), e _ (by omega)]
    exact h1
  · rw [sI_j (by omega), e _ (by omega)]
    exact h2
  · rw [sI_j (by omega), e _ (by omega)]
    exact h3
  · rw [sI_j (by omega)]
    exact e3
  · rw [sI_j (by omega), sI_j (by omega), e _ (by omega), e _ (by omega)]
    exact h6 p hp
  · rw [sI_j (by omega), sI_j (by omega), sI_j (by omega), sI_j (by omega), e _ (by omega), e _ (by omega), e _ (by omega), e _ (by omega)]
    exact h7 t ht
theorem vilQ_kd {v : Vil} {x k : Nat} {I : MI} (hx : x < 16) (h : vilQ v (I 189)) : vilQ (setKd v x k) (sI I 189 (5 + x) (nI k) 189) := by
  obtain ⟨⟨h1, h2, h3, h4, h5⟩, h6, h7⟩ := h
  refine ⟨⟨?_, ?_, ?_, ?_, ?_⟩, fun p hp => ⟨?_, ?_⟩, fun t ht => ?_⟩
  · rw [sI_j (by omega)]
    exact h1
  · rw [sI_j (by omega)]
    exact h2
  · rw [sI_j (by omega)]
    exact h3
  · rw [sI_j (by omega)]
    exact h4
  · rw [sI_j (by omega)]
    exact h5
  · show _ = nI (if p = x then k else v.kd p)
    by_cases e : p = x
    · rw [if_pos e, e, sI_at]
    · rw [if_neg e, sI_j (by omega)]
      exact (h6 p hp).1
  · rw [sI_j (by omega)]
    exact (h6 p hp).2
  · rw [sI_j (by omega), sI_j (by omega), sI_j (by omega), sI_j (by omega)]
    exact h7 t ht
theorem vilQ_db {v : Vil} {x k : Nat} {I : MI} (hx : x < 16) (h : vilQ v (I 189)) : vilQ (setDb v x k) (sI I 189 (21 + x) (nI k) 189) := by
  obtain ⟨⟨h1, h2, h3, h4, h5⟩, h6, h7⟩ := h
  refine ⟨⟨?_, ?_, ?_, ?_, ?_⟩, fun p hp => ⟨?_, ?_⟩, fun t ht => ?_⟩
  · rw [sI_j (by omega)]
    exact h1
  · rw [sI_j (by omega)]
    exact h2
  · rw [sI_j (by omega)]
    exact h3
  · rw [sI_j (by omega)]
    exact h4
  · rw [sI_j (by omega)]
    exact h5
  · rw [sI_j (by omega)]
    exact (h6 p hp).1
  · show _ = nI (if p = x then k else v.db p)
    by_cases e : p = x
    · rw [if_pos e, e, sI_at]
    · rw [if_neg e, sI_j (by omega)]
      exact (h6 p hp).2
  · rw [sI_j (by omega), sI_j (by omega), sI_j (by omega), sI_j (by omega)]
    exact h7 t ht
theorem vilQ_tie {v : Vil} {a c d s : Nat} {I : MI} (h : vilQ v (I 189)) : vilQ (addG v a c d s) (sI (sI (sI (sI (sI I 189 (37 + 4 * v.m) (nI a)) 189 (37 + 4 * v.m + 1) (nI c)) 189 (37 + 4 * v.m + 2) (nI d)) 189 (37 + 4 * v.m + 3) (nI s)) 189 1 (nI (v.m + 1)) 189) := by
  obtain ⟨⟨h1, h2, h3, h4, h5⟩, h6, h7⟩ := h
  refine ⟨⟨?_, sI_at _ _ _ _, ?_, ?_, ?_⟩, fun p hp => ⟨?_, ?_⟩, fun t ht => ?_⟩
  · rw [sI_j (by omega), sI_j (by omega), sI_j (by omega), sI_j (by omega), sI_j (by omega)]
    exact h1
  · rw [sI_j (by omega), sI_j (by omega), sI_j (by omega), sI_j (by omega), sI_j (by omega)]
    exact h3
  · rw [sI_j (by omega), sI_j (by omega), sI_j (by omega), sI_j (by omega), sI_j (by omega)]
    exact h4
  · rw [sI_j (by omega), sI_j (by omega), sI_j (by omega), sI_j (by omega), sI_j (by omega)]
    exact h5
  · rw [sI_j (by omega), sI_j (by omega), sI_j (by omega), sI_j (by omega), sI_j (by omega)]
    exact (h6 p hp).1
  · rw [sI_j (by omega), sI_j (by omega), sI_j (by omega), sI_j (by omega), sI_j (by omega)]
    exact (h6 p hp).2
  · have ht : t < v.m + 1 := ht
    show _ = nI (if t = v.m then a else v.fr t) ∧ _ = nI (if t = v.m then c else v.to t) ∧ _ = nI (if t = v.m then d else v.dy t) ∧ _ = nI (if t = v.m then s else v.st t)
    by_cases q : t = v.m
    · subst q
      rw [if_pos rfl, if_pos rfl, if_pos rfl, if_pos rfl]
      refine ⟨?_, ?_, ?_, ?_⟩
      · rw [sI_j (by omega), sI_j (by omega), sI_j (by omega), sI_j (by omega), sI_at]
      · rw [sI_j (by omega), sI_j (by omega), sI_j (by omega), sI_at]
      · rw [sI_j (by omega), sI_j (by omega), sI_at]
      · rw [sI_j (by omega), sI_at]
    · obtain ⟨z1, z2, z3, z4⟩ := h7 t (by omega)
      rw [if_neg q, if_neg q, if_neg q, if_neg q]
      refine ⟨?_, ?_, ?_, ?_⟩
      · rw [sI_j (by omega), sI_j (by omega), sI_j (by omega), sI_j (by omega), sI_j (by omega)]
        exact z1
      · rw [sI_j (by omega), sI_j (by omega), sI_j (by omega), sI_j (by omega), sI_j (by omega)]
        exact z2
      · rw [sI_j (by omega), sI_j (by omega), sI_j (by omega), sI_j (by omega), sI_j (by omega)]
        exact z3
      · rw [sI_j (by omega), sI_j (by omega), sI_j (by omega), sI_j (by omega), sI_j (by omega)]
        exact z4
theorem telQ_act {t : Tel} {so a c d : Nat} {d' : Int32} {I : MI} (hd : d' = if so = 2 then nI d else nM) (h : telQ t (I 189)) : telQ (addA t so a c d) (sI (sI (sI (sI (sI I 189 (1 + 4 * t.n) (nI so)) 189 (1 + 4 * t.n + 1) (nI a)) 189 (1 + 4 * t.n + 2) (nI c)) 189 (1 + 4 * t.n + 3) d') 189 0 (nI (t.n + 1)) 189) := by
  obtain ⟨h1, h7⟩ := h
  refine ⟨sI_at _ _ _ _, fun k hk => ?_⟩
  have hk : k < t.n + 1 := hk
  show _ = nI (if k = t.n then so else t.so k) ∧ _ = nI (if k = t.n then a else t.a k) ∧ _ = nI (if k = t.n then c else t.b k) ∧ _ = (if (if k = t.n then so else t.so k) = 2 then nI (if k = t.n then d else t.c k) else nM)
  by_cases q : k = t.n
  · subst q
    rw [if_pos rfl, if_pos rfl, if_pos rfl, if_pos rfl]
    refine ⟨?_, ?_, ?_, ?_⟩
    · rw [sI_j (by omega), sI_j (by omega), sI_j (by omega), sI_j (by omega), sI_at]
    · rw [sI_j (by omega), sI_j (by omega), sI_j (by omega), sI_at]
    · rw [sI_j (by omega), sI_j (by omega), sI_at]
    · rw [sI_j (by omega), sI_at]
      exact hd
  · obtain ⟨z1, z2, z3, z4⟩ := h7 k (by omega)
    rw [if_neg q, if_neg q, if_neg q, if_neg q]
    refine ⟨?_, ?_, ?_, ?_⟩
    · rw [sI_j (by omega), sI_j (by omega), sI_j (by omega), sI_j (by omega), sI_j (by omega)]
      exact z1
    · rw [sI_j (by omega), sI_j (by omega), sI_j (by omega), sI_j (by omega), sI_j (by omega)]
      exact z2
    · rw [sI_j (by omega), sI_j (by omega), sI_j (by omega), sI_j (by omega), sI_j (by omega)]
      exact z3
    · rw [sI_j (by omega), sI_j (by omega), sI_j (by omega), sI_j (by omega), sI_j (by omega)]
      exact z4
/-- what is read so far, of this sort of text -/
def Qb (sort : Nat) (I : MI) : Prop := ∃ m, m ≤ (if sort = 0 then 40 else 30) ∧ I 189 (if sort = 0 then 1 else 0) = nI m
def QR (sort : Nat) (S : Sm) (I : MI) : Prop := Qb sort I ∧ (S.fl = 0 → (sort = 0 → I 186 9 = nI S.gr ∧ vilQ S.vv (I 189)) ∧ (sort ≠ 0 → I 186 9 = nI S.gr ∧ telQ S.tt (I 189)))
theorem Qb.fr {sort : Nat} {I I' : MI} (h : I' 189 = I 189) (q : Qb sort I) : Qb sort I' := by
  unfold Qb
  rw [h]
  exact q
theorem QR_1 {sort : Nat} {S : Sm} {I : MI} (q : Qb sort I) (h : S.fl ≠ 0) : QR sort S I := ⟨q, fun z => absurd z h⟩
theorem QR.fr {sort : Nat} {S : Sm} {I I' : MI} (h : I' 189 = I 189) (k : I' 186 9 = I 186 9) (q : QR sort S I) : QR sort S I' := by
  refine ⟨q.1.fr h, ?_⟩
  rw [h, k]
  exact q.2
/-- with what a line's numbers told -/
def nmR (i : Nat) (r : Nat × Nat × Sm) : Sm := if r.2.1 < needW i then sty r.1 r.2.2 else r.2.2
theorem telW_fl {i : Nat} {S : Sm} : (telW i S).fl = S.fl ∧ (telW i S).pl = S.pl := by
  unfold telW
  by_cases h : S.fl = 0
  · rw [if_pos h]
    exact ⟨h.symm, rfl⟩
  · rw [if_neg h]
    exact ⟨rfl, rfl⟩
theorem telW_1 {i : Nat} {S : Sm} (h : S.fl ≠ 0) : telW i S = S := if_neg h
theorem telW_0 {i : Nat} {S : Sm} (h : S.fl = 0) : (telW i S).gr = S.gr ∧ (telW i S).vv = telV i S ∧ (telW i S).tt = telT i S := by
  unfold telW
  rw [if_pos h]
  exact ⟨rfl, rfl, rfl⟩
theorem nm_go {y : Nat → Nat} {n i f w a : Nat} {S : Sm} (k : kin y n w = 2) (h : a < needW i) : nmL y n i (f + 1) w a S = nmL y n i f (adv y n w) (a + 1) (accW i a (nmb y n w) w S) := if_pos ⟨k, Or.inl h⟩
theorem nm_no {y : Nat → Nat} {n i f w a : Nat} {S : Sm} (k : kin y n w ≠ 2) : nmL y n i (f + 1) w a S = (w, a, S) := if_neg (fun q => k q.1)
theorem nm_end {y : Nat → Nat} {n i f w a : Nat} {S : Sm} (h : needW i ≤ a) (k : isKW i = false) : nmL y n i (f + 1) w a S = (w, a, S) := if_neg (fun q => by
  rcases q.2 with z | z
  · omega
  · rw [k] at z
    cases z)
/-- what a number leaves as it is -/
def kpt (a : Nat) (v : Nat) (S S' : Sm) : Prop := S'.fl = 0 → (S.fl = 0 ∧ S'.vv = S.vv ∧ S'.tt = S.tt) ∧ v = S'.nb a ∧ ∀ j, j ≠ a → S'.nb j = S.nb j
theorem accW_f0 {i a x w : Nat} {S : Sm} (h : (accW i a x w S).fl = 0) : S.fl = 0 ∧ mayW i a x S.nb = true := by
  have h0 : S.fl = 0 := by
    refine Decidable.byContradiction (fun z => ?_)
    rw [accW_2 z] at h
    exact z h
  refine ⟨h0, ?_⟩
  cases c : mayW i a x S.nb with
  | true => rfl
  | false =>
    rw [accW_1 h0 c] at h
    exact absurd h (blm_fl (by decide))
theorem accW_kpt {i a x w : Nat} {S : Sm} (hk : isKW i = false) : kpt a x S (accW i a x w S) := fun h => by
  obtain ⟨h0, c⟩ := accW_f0 h
  obtain ⟨-, -, -, q4, q5, q6⟩ := accW_0 (w := w) h0 c
  rw [q4, q5, q6, if_neg (by rw [hk]; exact Bool.false_ne_true)]
  exact ⟨⟨h0, rfl, rfl⟩, (if_pos rfl).symm, fun j hj => if_neg hj⟩
theorem isPW_K {i a : Nat} (h : isPW i a = false) : isKW i = false := by
  cases c : isKW i with
  | false => rfl
  | true =>
    rw [isKW_P c] at h
    cases h
