/-! PICTURES: what is told, in the class's cells and in the reference's -/
def vilC (c : Nat) (v : Vil) (I : MI) : Prop := (I c 0 = nI v.n ∧ I c 3 = nI v.m ∧ I c 8 = nI v.sl ∧ I c 9 = nI v.tw ∧ I c 10 = nI v.td) ∧ (∀ p, p < 16 → I (c + 1) p = nI (v.kd p) ∧ I (c + 2) p = nI (v.db p)) ∧ ∀ t, t < v.m → I (c + 3) t = nI (v.fr t) ∧ I (c + 4) t = nI (v.to t) ∧ I (c + 5) t = nI (v.dy t) ∧ I (c + 6) t = nI (v.st t)
def vilM (o : Nat) (v : Vil) (I : MI) : Prop := (I 187 o = nI v.n ∧ I 187 (o + 1) = nI v.m ∧ I 187 (o + 2) = nI v.sl ∧ I 187 (o + 3) = nI v.tw ∧ I 187 (o + 4) = nI v.td) ∧ (∀ p, p < 16 → I 187 (o + 5 + p) = nI (v.kd p) ∧ I 187 (o + 21 + p) = nI (v.db p)) ∧ ∀ t, t < v.m → I 187 (o + 37 + 4 * t) = nI (v.fr t) ∧ I 187 (o + 37 + 4 * t + 1) = nI (v.to t) ∧ I 187 (o + 37 + 4 * t + 2) = nI (v.dy t) ∧ I 187 (o + 37 + 4 * t + 3) = nI (v.st t)
def telC (c : Nat) (t : Tel) (I : MI) : Prop := I c 0 = nI t.n ∧ ∀ k, k < t.n → I (c + 1) k = nI (t.so k) ∧ I (c + 2) k = nI (t.a k) ∧ I (c + 3) k = nI (t.b k) ∧ I (c + 4) k = t.ci k
def telM (o : Nat) (t : Tel) (I : MI) : Prop := I 187 o = nI t.n ∧ ∀ k, k < t.n → I 187 (o + 1 + 4 * k) = nI (t.so k) ∧ I 187 (o + 1 + 4 * k + 1) = nI (t.a k) ∧ I 187 (o + 1 + 4 * k + 2) = nI (t.b k) ∧ I 187 (o + 1 + 4 * k + 3) = t.ci k
/-- all that is told: villages, tellings, bytes on the tape, fault, its place; the bytes; the villages; the tellings -/
abbrev Bk : Type := (Nat × Nat × Nat × Nat × Int32) × (Nat → Nat) × (Nat → Vil) × (Nat → Tel)
def Bk.nv (B : Bk) : Nat := B.1.1
def Bk.nt (B : Bk) : Nat := B.1.2.1
def Bk.ln (B : Bk) : Nat := B.1.2.2.1
def Bk.fl (B : Bk) : Nat := B.1.2.2.2.1
def Bk.fa (B : Bk) : Int32 := B.1.2.2.2.2
def Bk.yt (B : Bk) : Nat → Nat := B.2.1
def Bk.vl (B : Bk) : Nat → Vil := B.2.2.1
def Bk.tl (B : Bk) : Nat → Tel := B.2.2.2
def mkB (nv nt ln fl : Nat) (fa : Int32) (yt : Nat → Nat) (vl : Nat → Vil) (tl : Nat → Tel) : Bk := ((nv, nt, ln, fl, fa), yt, vl, tl)
def Bk.ok (B : Bk) : Prop := (B.nv ≤ 2 ∧ B.nt ≤ 3 ∧ B.ln ≤ 600 ∧ B.fl ≤ 4) ∧ (∀ j, j < B.ln → B.yt j < 256) ∧ (∀ k, k < B.nv → (B.vl k).ok 40) ∧ ∀ k, k < B.nt → (B.tl k).ok
def bkC (c : Nat) (B : Bk) (I : MI) : Prop := (I c 3 = nI B.nv ∧ I c 4 = nI B.nt ∧ I c 5 = nI B.fl ∧ I c 6 = B.fa ∧ I (c + 3) 1 = nI B.ln) ∧ (∀ j, j < B.ln → I (c + 4) j = nI (B.yt j)) ∧ (∀ k, k < B.nv → vilC (c + 5 + 7 * k) (B.vl k) I) ∧ ∀ k, k < B.nt → telC (c + 19 + 5 * k) (B.tl k) I
def bkM (o : Nat) (B : Bk) (I : MI) : Prop := (I 187 o = nI B.nv ∧ I 187 (o + 1) = nI B.nt ∧ I 187 (o + 2) = nI B.ln ∧ I 187 (o + 3) = nI B.fl ∧ I 187 (o + 4) = B.fa) ∧ (∀ j, j < B.ln → I 187 (o + 10 + j) = nI (B.yt j)) ∧ (∀ k, k < B.nv → vilM (o + 610 + 200 * k) (B.vl k) I) ∧ ∀ k, k < B.nt → telM (o + 1010 + 122 * k) (B.tl k) I
theorem vilC_fr {c : Nat} {v : Vil} {I I' : MI} (h : ∀ a, c ≤ a → a < c + 7 → I' a = I a) (k : vilC c v I) : vilC c v I' := by
  unfold vilC
  rw [h c (by omega) (by omega), h (c + 1) (by omega) (by omega), h (c + 2) (by omega) (by omega), h (c + 3) (by omega) (by omega), h (c + 4) (by omega) (by omega), h (c + 5) (by omega) (by omega), h (c + 6) (by omega) (by omega)]
  exact k
theorem telC_fr {c : Nat} {t : Tel} {I I' : MI} (h : ∀ a, c ≤ a → a < c + 5 → I' a = I a) (k : telC c t I) : telC c t I' := by
  unfold telC
  rw [h c (by omega) (by omega), h (c + 1) (by omega) (by omega), h (c + 2) (by omega) (by omega), h (c + 3) (by omega) (by omega), h (c + 4) (by omega) (by omega)]
  exact k
theorem bkC_fr {c : Nat} {B : Bk} {I I' : MI} (hB : B.ok) (h : ∀ a, c ≤ a → a < c + 34 → I' a = I a) (k : bkC c B I) : bkC c B I' := by
  obtain ⟨k1, k2, k3, k4⟩ := k
  have := hB.1
  unfold bkC
  rw [h c (by omega) (by omega), h (c + 3) (by omega) (by omega), h (c + 4) (by omega) (by omega)]
  exact ⟨k1, k2, fun j hj => vilC_fr (fun a h1 h2 => h a (by omega) (by omega)) (k3 j hj), fun j hj => telC_fr (fun a h1 h2 => h a (by omega) (by omega)) (k4 j hj)⟩
theorem vilM_fr {o : Nat} {v : Vil} {I I' : MI} (h : I' 187 = I 187) (k : vilM o v I) : vilM o v I' := by
  unfold vilM
  rw [h]
  exact k
theorem telM_fr {o : Nat} {t : Tel} {I I' : MI} (h : I' 187 = I 187) (k : telM o t I) : telM o t I' := by
  unfold telM
  rw [h]
  exact k
theorem bkM_fr {o : Nat} {B : Bk} {I I' : MI} (h : I' 187 = I 187) (k : bkM o B I) : bkM o B I' := by
  obtain ⟨k1, k2, k3, k4⟩ := k
  unfold bkM
  rw [h]
  exact ⟨k1, k2, fun j hj => vilM_fr h (k3 j hj), fun j hj => telM_fr h (k4 j hj)⟩
theorem vilM_at {o : Nat} {v : Vil} {I I' : MI} (hv : v.m ≤ 40) (h : ∀ j, o ≤ j → j < o + 200 → I' 187 j = I 187 j) (k : vilM o v I) : vilM o v I' := by
  obtain ⟨⟨v1, v2, v3, v4, v5⟩, v6, v7⟩ := k
  refine ⟨⟨?_, ?_, ?_, ?_, ?_⟩, fun p hp => ?_, fun t ht => ?_⟩
  · rw [h _ (by omega) (by omega)]; exact v1
  · rw [h _ (by omega) (by omega)]; exact v2
  · rw [h _ (by omega) (by omega)]; exact v3
  · rw [h _ (by omega) (by omega)]; exact v4
  · rw [h _ (by omega) (by omega)]; exact v5
  · rw [h _ (by omega) (by omega), h _ (by omega) (by omega)]; exact v6 p hp
  · rw [h _ (by omega) (by omega), h _ (by omega) (by omega), h _ (by omega) (by omega), h _ (by omega) (by omega)]; exact v7 t ht
theorem telM_at {o : Nat} {t : Tel} {I I' : MI} (ht : t.n ≤ 30) (h : ∀ j, o ≤ j → j < o + 122 → I' 187 j = I 187 j) (k : telM o t I) : telM o t I' := by
  obtain ⟨v1, v7⟩ := k
  refine ⟨?_, fun t ht => ?_⟩
  · rw [h _ (by omega) (by omega)]; exact v1
  · rw [h _ (by omega) (by omega), h _ (by omega) (by omega), h _ (by omega) (by omega), h _ (by omega) (by omega)]; exact v7 t ht
theorem bkM_at {o : Nat} {B : Bk} {I I' : MI} (hB : B.ok) (h : ∀ j, o ≤ j → j < o + 1376 → I' 187 j = I 187 j) (k : bkM o B I) : bkM o B I' := by
  obtain ⟨⟨v1, v2, v3, v4, v5⟩, k2, k3, k4⟩ := k
  obtain ⟨⟨o1, o2, o3, o4⟩, o5, o6, o7⟩ := hB
  refine ⟨⟨?_, ?_, ?_, ?_, ?_⟩, fun j hj => ?_, fun j hj => ?_, fun j hj => ?_⟩
  · rw [h _ (by omega) (by omega)]; exact v1
  · rw [h _ (by omega) (by omega)]; exact v2
  · rw [h _ (by omega) (by omega)]; exact v3
  · rw [h _ (by omega) (by omega)]; exact v4
  · rw [h _ (by omega) (by omega)]; exact v5
  · rw [h _ (by omega) (by omega)]; exact k2 j hj
  · exact vilM_at (o6 j hj).2.1 (fun a h1 h2 => h a (by omega) (by omega)) (k3 j hj)
  · exact telM_at (o7 j hj).1 (fun a h1 h2 => h a (by omega) (by omega)) (k4 j hj)
/-- the images -/
def RImg (I : MI) : Prop := ∀ k, k < 3 → (I 138 k = nI 0 ∧ I 188 k = nI 0) ∨ (I 138 k = nI 1 ∧ I 188 k = nI 1 ∧ ∃ B, B.ok ∧ bkC (36 + 34 * k) B I ∧ bkM (1376 * (k + 1)) B I)
/-- class and reference have the same: B is all that is told -/
def RelB (B : Bk) (I : MI) : Prop := B.ok ∧ bkC 1 B I ∧ bkM 0 B I ∧ RImg I
def Rel (I : MI) : Prop := ∃ B, RelB B I
theorem RImg_fr {I I' : MI} (h : ∀ a, 36 ≤ a → a < 139 → I' a = I a) (h7 : I' 187 = I 187) (h8 : I' 188 = I 188) (k : RImg I) : RImg I' := by
  intro j hj
  rw [h 138 (by omega) (by omega), h8]
  rcases k j hj with q | ⟨q1, q2, B, q3, q4, q5⟩
  · exact Or.inl q
  · exact Or.inr ⟨q1, q2, B, q3, bkC_fr q3 (fun a h1 h2 => h a (by omega) (by omega)) q4, bkM_fr h7 q5⟩
theorem RImg_at {I I' : MI} (h : ∀ a, 36 ≤ a → a < 139 → I' a = I a) (h7 : ∀ j, 1376 ≤ j → I' 187 j = I 187 j) (h8 : I' 188 = I 188) (k : RImg I) : RImg I' := by
  intro j hj
  rw [h 138 (by omega) (by omega), h8]
  rcases k j hj with q | ⟨q1, q2, B, q3, q4, q5⟩
  · exact Or.inl q
  · exact Or.inr ⟨q1, q2, B, q3, bkC_fr q3 (fun a h1 h2 => h a (by omega) (by omega)) q4, bkM_at q3 (fun a h1 h2 => h7 a (by omega)) q5⟩
theorem RelB_fr {B : Bk} {I I' : MI} (h : ∀ a, a < 139 → I' a = I a) (h7 : I' 187 = I 187) (h8 : I' 188 = I 188) (k : RelB B I) : RelB B I' := ⟨k.1, bkC_fr k.1 (fun a h1 h2 => h a (by omega)) k.2.1, bkM_fr h7 k.2.2.1, RImg_fr (fun a h1 h2 => h a (by omega)) h7 h8 k.2.2.2⟩
theorem inf_ne {a b : Nat} {l : List (Nat × Nat × Int32)} (h : ∀ p ∈ l, ¬ (p.1 = a ∧ p.2.1 = b)) : inf a b l = 0 := by
  rcases inf_at l a b with ⟨p, h1, h2, _⟩ | ⟨_, h2⟩
  · exact absurd h2 (h p h1)
  · exact h2
theorem rel_ini {I : MI} (h : ∀ a b, a < N0 → I a b = iniV a b) : Rel I := by
  have h0 : ∀ a b, a < N0 → (∀ p ∈ iniL, ¬ (p.1 = a ∧ p.2.1 = b)) → I a b = nI 0 := fun a b ha hp => (h a b ha).trans (inf_ne hp)
  refine ⟨mkB 0 0 0 0 nM (fun _ => 0) (fun _ => ((0, 0, 0, 0, 0), (fun _ => 0), (fun _ => 0), (fun _ => 0), (fun _ => 0), (fun _ => 0), (fun _ => 0))) (fun _ => (0, (fun _ => 0), (fun _ => 0), (fun _ => 0), (fun _ => 0))), ⟨⟨by decide, by decide, by decide, by decide⟩, fun j hj => absurd hj (Nat.not_lt_zero _), fun j hj => absurd hj (Nat.not_lt_zero _), fun j hj => absurd hj (Nat.not_lt_zero _)⟩, ⟨⟨?_, ?_, ?_, ?_, ?_⟩, fun j hj => absurd hj (Nat.not_lt_zero _), fun j hj => absurd hj (Nat.not_lt_zero _), fun j hj => absurd hj (Nat.not_lt_zero _)⟩, ⟨⟨?_, ?_, ?_, ?_, ?_⟩, fun j hj => absurd hj (Nat.not_lt_zero _), fun j hj => absurd hj (Nat.not_lt_zero _), fun j hj => absurd hj (Nat.not_lt_zero _)⟩, ?_⟩
  · exact h0 1 3 (by decide) (by decide)
  · exact h0 1 4 (by decide) (by decide)
  · exact h0 1 5 (by decide) (by decide)
  · exact (h 1 6 (by decide)).trans (by decide)
  · exact h0 4 1 (by decide) (by decide)
  · exact h0 187 0 (by decide) (by decide)
  · exact h0 187 1 (by decide) (by decide)
  · exact h0 187 2 (by decide) (by decide)
  · exact h0 187 3 (by decide) (by decide)
  · exact (h 187 4 (by decide)).trans (by decide)
  · intro k hk
    refine Or.inl ⟨h0 138 k (by decide) ?_, h0 188 k (by decide) ?_⟩
    · rcases (by omega : k = 0 ∨ k = 1 ∨ k = 2) with rfl | rfl | rfl <;> decide
    · rcases (by omega : k = 0 ∨ k = 1 ∨ k = 2) with rfl | rfl | rfl <;> decide
/-- a question: of all that is told, the class knows the answer, and nothing of it changes -/
def OpC (mS : Nat) (as : List AV) (f : Bk → Int32) : Prop := ∀ (B : Bk) (I : MI) (b : Bool) (L : ML) (K : Int32 → Bool → MI → ML → Prop), B.ok → bkC 1 B I → (∀ (b' : Bool) (I' : MI) (L' : ML), (∀ a, a < 139 ∨ 186 ≤ a → I' a = I a) → K (f B) b' I' L') → CI mS (vr 21 0 :: as) b I L K
def OpL (mS : Nat) (as : List AV) (f : Bk → Int64) : Prop := ∀ (B : Bk) (I : MI) (b : Bool) (L : ML) (K : Int64 → Bool → MI → ML → Prop), B.ok → bkC 1 B I → (∀ (b' : Bool) (I' : MI) (L' : ML), (∀ a, a < 139 ∨ 186 ≤ a → I' a = I a) → K (f B) b' I' L') → CL mS (vr 21 0 :: as) b I L K
