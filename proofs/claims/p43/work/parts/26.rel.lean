/-! PICTURES: what is told, in the class's cells and in the reference's -/
def vilC (c : Nat) (v : Vil) (I : MI) : Prop := (I c 0 = nI v.n ∧ I c 3 = nI v.m ∧ I c 8 = nI v.sl ∧ I c 9 = nI v.tw ∧ I c 10 = nI v.td) ∧ (∀ p, p < 16 → I (c + 1) p = nI (v.kd p) ∧ I (c + 2) p = nI (v.db p)) ∧ ∀ t, t < v.m → I (c + 3) t = nI (v.fr t) ∧ I (c + 4) t = nI (v.to t) ∧ I (c + 5) t = nI (v.dy t) ∧ I (c + 6) t = nI (v.st t)
def telC (c : Nat) (t : Tel) (I : MI) : Prop := I c 0 = nI t.n ∧ ∀ k, k < t.n → I (c + 1) k = nI (t.so k) ∧ I (c + 2) k = nI (t.a k) ∧ I (c + 3) k = nI (t.b k) ∧ I (c + 4) k = t.ci k
/-- all that is told: villages, tellings, bytes on the tape, fault, its place; the bytes; the villages; the tellings -/
abbrev Bk : Type := (Nat × Nat × Nat × Nat × Int32) × (Nat → Nat) × (Nat → Vil) × (Nat → Tel)
def Bk.nv (B : Bk) : Nat := B.1.1
def Bk.nt (B : Bk) : Nat := B.1.2.1
def Bk.ln (B : Bk) : Nat := B.1.2.2.1
def Bk.fl (B : Bk) : Nat := B.1.2.2.2.1
def Bk.fa (B : Bk) : Int32 := B.1.2.2.2.2
def Bk.yt (B : Bk) : Nat → Nat := B.2.1
def Bk.vl (B : Bk) : Nat → Vil := B.2.2.1
def Bk.tl (B : Bk) : Nat → Tel := B.2.2.2
def mkB (nv nt ln fl : Nat) (fa : Int32) (yt : Nat → Nat) (vl : Nat → Vil) (tl : Nat → Tel) : Bk := ((nv, nt, ln, fl, fa), yt, vl, tl)
def Bk.ok (B : Bk) : Prop := (B.nv ≤ 2 ∧ B.nt ≤ 3 ∧ B.ln ≤ 600 ∧ B.fl ≤ 4) ∧ (∀ j, j < B.ln → B.yt j < 256) ∧ (∀ k, k < B.nv → (B.vl k).ok 40) ∧ ∀ k, k < B.nt → (B.tl k).ok
def bkC (c : Nat) (B : Bk) (I : MI) : Prop := (I c 3 = nI B.nv ∧ I c 4 = nI B.nt ∧ I c 5 = nI B.fl ∧ I c 6 = B.fa ∧ I (c + 3) 1 = nI B.ln) ∧ (∀ j, j < B.ln → I (c + 4) j = nI (B.yt j)) ∧ (∀ k, k < B.nv → vilC (c + 5 + 7 * k) (B.vl k) I) ∧ ∀ k, k < B.nt → telC (c + 19 + 5 * k) (B.tl k) I
theorem vilC_fr {c : Nat} {v : Vil} {I I' : MI} (h : ∀ a, c ≤ a → a < c + 7 → I' a = I a) (k : vilC c v I) : vilC c v I' := by
  unfold vilC
  rw [h c (by omega) (by omega), h (c + 1) (by omega) (by omega), h (c + 2) (by omega) (by omega), h (c + 3) (by omega) (by omega), h (c + 4) (by omega) (by omega), h (c + 5) (by omega) (by omega), h (c + 6) (by omega) (by omega)]
  exact k
theorem telC_fr {c : Nat} {t : Tel} {I I' : MI} (h : ∀ a, c ≤ a → a < c + 5 → I' a = I a) (k : telC c t I) : telC c t I' := by
  unfold telC
  rw [h c (by omega) (by omega), h (c + 1) (by omega) (by omega), h (c + 2) (by omega) (by omega), h (c + 3) (by omega) (by omega), h (c + 4) (by omega) (by omega)]
  exact k
theorem bkC_fr {c : Nat} {B : Bk} {I I' : MI} (hB : B.ok) (h : ∀ a, c ≤ a → a < c + 34 → I' a = I a) (k : bkC c B I) : bkC c B I' := by
  obtain ⟨k1, k2, k3, k4⟩ := k
  have := hB.1
  unfold bkC
  rw [h c (by omega) (by omega), h (c + 3) (by omega) (by omega), h (c + 4) (by omega) (by omega)]
  exact ⟨k1, k2, fun j hj => vilC_fr (fun a h1 h2 => h a (by omega) (by omega)) (k3 j hj), fun j hj => telC_fr (fun a h1 h2 => h a (by omega) (by omega)) (k4 j hj)⟩
theorem inf_ne {a b : Nat} {l : List (Nat × Nat × Int32)} (h : ∀ p ∈ l, ¬ (p.1 = a ∧ p.2.1 = b)) : inf a b l = 0 := by
  rcases inf_at l a b with ⟨p, h1, h2, _⟩ | ⟨_, h2⟩
  · exact absurd h2 (h p h1)
  · exact h2
/-- a question: of all that is told, the class knows the answer, and nothing of it changes -/
def OpC (mS : Nat) (as : List AV) (f : Bk → Int32) : Prop := ∀ (B : Bk) (I : MI) (b : Bool) (L : ML) (K : Int32 → Bool → MI → ML → Prop), B.ok → bkC 1 B I → (∀ (b' : Bool) (I' : MI) (L' : ML), (∀ a, a < 139 ∨ 186 ≤ a → I' a = I a) → K (f B) b' I' L') → CI mS (vr 21 0 :: as) b I L K
def B0 : Bk := mkB 0 0 0 0 nM (fun _ => 0) (fun _ => ((0, 0, 0, 0, 0), (fun _ => 0), (fun _ => 0), (fun _ => 0), (fun _ => 0), (fun _ => 0), (fun _ => 0))) (fun _ => (0, (fun _ => 0), (fun _ => 0), (fun _ => 0), (fun _ => 0)))
theorem bk_ini {I : MI} (h : ∀ a b, a < N1 → I a b = iniV a b) : B0.ok ∧ bkC 1 B0 I := by
  have h0 : ∀ a b, a < N1 → (∀ p ∈ iniL, ¬ (p.1 = a ∧ p.2.1 = b)) → I a b = nI 0 := fun a b ha hp => (h a b ha).trans (inf_ne hp)
  refine ⟨⟨⟨by decide, by decide, by decide, by decide⟩, fun j hj => absurd hj (Nat.not_lt_zero _), fun j hj => absurd hj (Nat.not_lt_zero _), fun j hj => absurd hj (Nat.not_lt_zero _)⟩, ⟨⟨?_, ?_, ?_, ?_, ?_⟩, fun j hj => absurd hj (Nat.not_lt_zero _), fun j hj => absurd hj (Nat.not_lt_zero _), fun j hj => absurd hj (Nat.not_lt_zero _)⟩⟩
  · exact h0 1 3 (by decide) (by decide)
  · exact h0 1 4 (by decide) (by decide)
  · exact h0 1 5 (by decide) (by decide)
  · exact (h 1 6 (by decide)).trans (by decide)
  · exact h0 4 1 (by decide) (by decide)
def OpL (mS : Nat) (as : List AV) (f : Bk → Int64) : Prop := ∀ (B : Bk) (I : MI) (b : Bool) (L : ML) (K : Int64 → Bool → MI → ML → Prop), B.ok → bkC 1 B I → (∀ (b' : Bool) (I' : MI) (L' : ML), (∀ a, a < 139 ∨ 186 ≤ a → I' a = I a) → K (f B) b' I' L') → CL mS (vr 21 0 :: as) b I L K
