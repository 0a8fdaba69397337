/-! TEXTS: what the reference has read -/
def vilQ (v : Vil) (f : Nat → Int32) : Prop := (f 0 = nI v.n ∧ f 1 = nI v.m ∧ f 2 = nI v.sl ∧ f 3 = nI v.tw ∧ f 4 = nI v.td) ∧ (∀ p, p < 16 → f (5 + p) = nI (v.kd p) ∧ f (21 + p) = nI (v.db p)) ∧ ∀ t, t < v.m → f (37 + 4 * t) = nI (v.fr t) ∧ f (37 + 4 * t + 1) = nI (v.to t) ∧ f (37 + 4 * t + 2) = nI (v.dy t) ∧ f (37 + 4 * t + 3) = nI (v.st t)
def telQ (t : Tel) (f : Nat → Int32) : Prop := f 0 = nI t.n ∧ ∀ k, k < t.n → f (1 + 4 * k) = nI (t.so k) ∧ f (1 + 4 * k + 1) = nI (t.a k) ∧ f (1 + 4 * k + 2) = nI (t.b k) ∧ f (1 + 4 * k + 3) = t.ci k
theorem vilQ_pe {v : Vil} {x : Nat} {I : MI} (h : vilQ v (I 189)) : vilQ (setPe v x) (sI I 189 0 (nI x) 189) := by
  obtain ⟨⟨h1, h2, h3, h4, h5⟩, h6, h7⟩ := h
  refine ⟨⟨sI_at _ _ _ _, ?_, ?_, ?_, ?_⟩, fun p hp => ?_, fun t ht => ?_⟩
  · rw [sI_j (by omega)]
    exact h2
  · rw [sI_j (by omega)]
    exact h3
  · rw [sI_j (by omega)]
    exact h4
  · rw [sI_j (by omega)]
    exact h5
  · rw [sI_j (by omega), sI_j (by omega)]
    exact h6 p hp
  · rw [sI_j (by omega), sI_j (by omega), sI_j (by omega), sI_j (by omega)]
    exact h7 t ht
theorem vilQ_sl {v : Vil} {x : Nat} {I : MI} (h : vilQ v (I 189)) : vilQ (setSl v x) (sI I 189 2 (nI x) 189) := by
  obtain ⟨⟨h1, h2, h3, h4, h5⟩, h6, h7⟩ := h
  refine ⟨⟨?_, ?_, sI_at _ _ _ _, ?_, ?_⟩, fun p hp => ?_, fun t ht => ?_⟩
  · rw [sI_j (by omega)]
    exact h1
  · rw [sI_j (by omega)]
    exact h2
  · rw [sI_j (by omega)]
    exact h4
  · rw [sI_j (by omega)]
    exact h5
  · rw [sI_j (by omega), sI_j (by omega)]
    exact h6 p hp
  · rw [sI_j (by omega), sI_j (by omega), sI_j (by omega), sI_j (by omega)]
    exact h7 t ht
theorem vilQ_ti {v : Vil} {x z : Nat} {f : Nat → Int32} {I : MI} (h : vilQ v f) (e3 : I 189 3 = nI x) (e : ∀ j, j ≠ 3 → I 189 j = f j) : vilQ (setTi v x z) (sI I 189 4 (nI z) 189) := by
  obtain ⟨⟨h1, h2, h3, h4, h5⟩, h6, h7⟩ := h
  refine ⟨⟨?_, ?_, ?_, ?_, sI_at _ _ _ _⟩, fun p hp => ?_, fun t ht => ?_⟩
  · rw [sI_j (by omega), e _ (by omega)]
    exact h1
  · rw [sI_j (by omega), e _ (by omega)]
    exact h2
  · rw [sI_j (by omega), e _ (by omega)]
    exact h3
  · rw [sI_j (by omega)]
    exact e3
  · rw [sI_j (by omega), sI_j (by omega), e _ (by omega), e _ (by omega)]
    exact h6 p hp
  · rw [sI_j (by omega), sI_j (by omega), sI_j (by omega), sI_j (by omega), e _ (by omega), e _ (by omega), e _ (by omega), e _ (by omega)]
    exact h7 t ht
theorem vilQ_kd {v : Vil} {x k : Nat} {I : MI} (hx : x < 16) (h : vilQ v (I 189)) : vilQ (setKd v x k) (sI I 189 (5 + x) (nI k) 189) := by
  obtain ⟨⟨h1, h2, h3, h4, h5⟩, h6, h7⟩ := h
  refine ⟨⟨?_, ?_, ?_, ?_, ?_⟩, fun p hp => ⟨?_, ?_⟩, fun t ht => ?_⟩
  · rw [sI_j (by omega)]
    exact h1
  · rw [sI_j (by omega)]
    exact h2
  · rw [sI_j (by omega)]
    exact h3
  · rw [sI_j (by omega)]
    exact h4
  · rw [sI_j (by omega)]
    exact h5
  · show _ = nI (if p = x then k else v.kd p)
    by_cases e : p = x
    · rw [if_pos e, e, sI_at]
    · rw [if_neg e, sI_j (by omega)]
      exact (h6 p hp).1
  · rw [sI_j (by omega)]
    exact (h6 p hp).2
  · rw [sI_j (by omega), sI_j (by omega), sI_j (by omega), sI_j (by omega)]
    exact h7 t ht
theorem vilQ_db {v : Vil} {x k : Nat} {I : MI} (hx : x < 16) (h : vilQ v (I 189)) : vilQ (setDb v x k) (sI I 189 (21 + x) (nI k) 189) := by
  obtain ⟨⟨h1, h2, h3, h4, h5⟩, h6, h7⟩ := h
  refine ⟨⟨?_, ?_, ?_, ?_, ?_⟩, fun p hp => ⟨?_, ?_⟩, fun t ht => ?_⟩
  · rw [sI_j (by omega)]
    exact h1
  · rw [sI_j (by omega)]
    exact h2
  · rw [sI_j (by omega)]
    exact h3
  · rw [sI_j (by omega)]
    exact h4
  · rw [sI_j (by omega)]
    exact h5
  · rw [sI_j (by omega)]
    exact (h6 p hp).1
  · show _ = nI (if p = x then k else v.db p)
    by_cases e : p = x
    · rw [if_pos e, e, sI_at]
    · rw [if_neg e, sI_j (by omega)]
      exact (h6 p hp).2
  · rw [sI_j (by omega), sI_j (by omega), sI_j (by omega), sI_j (by omega)]
    exact h7 t ht
theorem vilQ_tie {v : Vil} {a c d s : Nat} {I : MI} (h : vilQ v (I 189)) : vilQ (addG v a c d s) (sI (sI (sI (sI (sI I 189 (37 + 4 * v.m) (nI a)) 189 (37 + 4 * v.m + 1) (nI c)) 189 (37 + 4 * v.m + 2) (nI d)) 189 (37 + 4 * v.m + 3) (nI s)) 189 1 (nI (v.m + 1)) 189) := by
  obtain ⟨⟨h1, h2, h3, h4, h5⟩, h6, h7⟩ := h
  refine ⟨⟨?_, sI_at _ _ _ _, ?_, ?_, ?_⟩, fun p hp => ⟨?_, ?_⟩, fun t ht => ?_⟩
  · rw [sI_j (by omega), sI_j (by omega), sI_j (by omega), sI_j (by omega), sI_j (by omega)]
    exact h1
  · rw [sI_j (by omega), sI_j (by omega), sI_j (by omega), sI_j (by omega), sI_j (by omega)]
    exact h3
  · rw [sI_j (by omega), sI_j (by omega), sI_j (by omega), sI_j (by omega), sI_j (by omega)]
    exact h4
  · rw [sI_j (by omega), sI_j (by omega), sI_j (by omega), sI_j (by omega), sI_j (by omega)]
    exact h5
  · rw [sI_j (by omega), sI_j (by omega), sI_j (by omega), sI_j (by omega), sI_j (by omega)]
    exact (h6 p hp).1
  · rw [sI_j (by omega), sI_j (by omega), sI_j (by omega), sI_j (by omega), sI_j (by omega)]
    exact (h6 p hp).2
  · have ht : t < v.m + 1 := ht
    show _ = nI (if t = v.m then a else v.fr t) ∧ _ = nI (if t = v.m then c else v.to t) ∧ _ = nI (if t = v.m then d else v.dy t) ∧ _ = nI (if t = v.m then s else v.st t)
    by_cases q : t = v.m
    · subst q
      rw [if_pos rfl, if_pos rfl, if_pos rfl, if_pos rfl]
      refine ⟨?_, ?_, ?_, ?_⟩
      · rw [sI_j (by omega), sI_j (by omega), sI_j (by omega), sI_j (by omega), sI_at]
      · rw [sI_j (by omega), sI_j (by omega), sI_j (by omega), sI_at]
      · rw [sI_j (by omega), sI_j (by omega), sI_at]
      · rw [sI_j (by omega), sI_at]
    · obtain ⟨z1, z2, z3, z4⟩ := h7 t (by omega)
      rw [if_neg q, if_neg q, if_neg q, if_neg q]
      refine ⟨?_, ?_, ?_, ?_⟩
      · rw [sI_j (by omega), sI_j (by omega), sI_j (by omega), sI_j (by omega), sI_j (by omega)]
        exact z1
      · rw [sI_j (by omega), sI_j (by omega), sI_j (by omega), sI_j (by omega), sI_j (by omega)]
        exact z2
      · rw [sI_j (by omega), sI_j (by omega), sI_j (by omega), sI_j (by omega), sI_j (by omega)]
        exact z3
      · rw [sI_j (by omega), sI_j (by omega), sI_j (by omega), sI_j (by omega), sI_j (by omega)]
        exact z4
theorem telQ_act {t : Tel} {so a c d : Nat} {d' : Int32} {I : MI} (hd : d' = if so = 2 then nI d else nM) (h : telQ t (I 189)) : telQ (addA t so a c d) (sI (sI (sI (sI (sI I 189 (1 + 4 * t.n) (nI so)) 189 (1 + 4 * t.n + 1) (nI a)) 189 (1 + 4 * t.n + 2) (nI c)) 189 (1 + 4 * t.n + 3) d') 189 0 (nI (t.n + 1)) 189) := by
  obtain ⟨h1, h7⟩ := h
  refine ⟨sI_at _ _ _ _, fun k hk => ?_⟩
  have hk : k < t.n + 1 := hk
  show _ = nI (if k = t.n then so else t.so k) ∧ _ = nI (if k = t.n then a else t.a k) ∧ _ = nI (if k = t.n then c else t.b k) ∧ _ = (if (if k = t.n then so else t.so k) = 2 then nI (if k = t.n then d else t.c k) else nM)
  by_cases q : k = t.n
  · subst q
    rw [if_pos rfl, if_pos rfl, if_pos rfl, if_pos rfl]
    refine ⟨?_, ?_, ?_, ?_⟩
    · rw [sI_j (by omega), sI_j (by omega), sI_j (by omega), sI_j (by omega), sI_at]
    · rw [sI_j (by omega), sI_j (by omega), sI_j (by omega), sI_at]
    · rw [sI_j (by omega), sI_j (by omega), sI_at]
    · rw [sI_j (by omega), sI_at]
      exact hd
  · obtain ⟨z1, z2, z3, z4⟩ := h7 k (by omega)
    rw [if_neg q, if_neg q, if_neg q, if_neg q]
    refine ⟨?_, ?_, ?_, ?_⟩
    · rw [sI_j (by omega), sI_j (by omega), sI_j (by omega), sI_j (by omega), sI_j (by omega)]
      exact z1
    · rw [sI_j (by omega), sI_j (by omega), sI_j (by omega), sI_j (by omega), sI_j (by omega)]
      exact z2
    · rw [sI_j (by omega), sI_j (by omega), sI_j (by omega), sI_j (by omega), sI_j (by omega)]
      exact z3
    · rw [sI_j (by omega), sI_j (by omega), sI_j (by omega), sI_j (by omega), sI_j (by omega)]
      exact z4
/-- what is read so far, of this sort of text -/
def Qb (sort : Nat) (I : MI) : Prop := ∃ m, m ≤ (if sort = 0 then 40 else 30) ∧ I 189 (if sort = 0 then 1 else 0) = nI m
def QR (sort : Nat) (S : Sm) (I : MI) : Prop := Qb sort I ∧ (S.fl = 0 → (sort = 0 → I 186 9 = nI S.gr ∧ vilQ S.vv (I 189)) ∧ (sort ≠ 0 → I 186 9 = nI S.gr ∧ telQ S.tt (I 189)))
theorem Qb.fr {sort : Nat} {I I' : MI} (h : I' 189 = I 189) (q : Qb sort I) : Qb sort I' := by
  unfold Qb
  rw [h]
  exact q
theorem QR_1 {sort : Nat} {S : Sm} {I : MI} (q : Qb sort I) (h : S.fl ≠ 0) : QR sort S I := ⟨q, fun z => absurd z h⟩
theorem QR.fr {sort : Nat} {S : Sm} {I I' : MI} (h : I' 189 = I 189) (k : I' 186 9 = I 186 9) (q : QR sort S I) : QR sort S I' := by
  refine ⟨q.1.fr h, ?_⟩
  rw [h, k]
  exact q.2
/-- with what a line's numbers told -/
def nmR (i : Nat) (r : Nat × Nat × Sm) : Sm := if r.2.1 < needW i then sty r.1 r.2.2 else r.2.2
theorem telW_fl {i : Nat} {S : Sm} : (telW i S).fl = S.fl ∧ (telW i S).pl = S.pl := by
  unfold telW
  by_cases h : S.fl = 0
  · rw [if_pos h]
    exact ⟨h.symm, rfl⟩
  · rw [if_neg h]
    exact ⟨rfl, rfl⟩
theorem telW_1 {i : Nat} {S : Sm} (h : S.fl ≠ 0) : telW i S = S := if_neg h
theorem telW_0 {i : Nat} {S : Sm} (h : S.fl = 0) : (telW i S).gr = S.gr ∧ (telW i S).vv = telV i S ∧ (telW i S).tt = telT i S := by
  unfold telW
  rw [if_pos h]
  exact ⟨rfl, rfl, rfl⟩
theorem cm_close {y : Nat → Nat} {n i sort : Nat} {r : Nat × Nat × Sm} {I : MI} {L : ML} (M : LM y n r.1 (nmR i r) I) (Q : QR sort (telW i (nmR i r)) I) (hf : r.2.2.fl ≠ 1) {b : Bool} {K : Bool → MI → ML → Prop} (hK : ∀ I', lfr 9 189 I I' → LM y n (linR y n i r).2.1 (linR y n i r).2.2 I' → QR sort (linR y n i r).2.2 I' → K b I' L) : CV m_M_endsLine [vr 22 186] b I L K := by
  unfold linR at hK
  unfold nmR at M Q
  by_cases ha : r.2.1 < needW i
  · rw [if_pos ha] at M Q
    rw [if_pos (Or.inl ha)] at hK
    refine cm_endsLine M (fun z => absurd rfl z) (fun z => absurd rfl z) (fun _ => hK I lfr_0 M (QR_1 Q.1 ?_))
    exact show (1 : Nat) ≠ 0 by decide
  · rw [if_neg ha] at M Q
    refine cm_endsLine M (fun _ k3 I1 f1 M1 => ?_) (fun _ k3 I1 f1 M1 => ?_) (fun z => absurd z hf)
    · rw [if_neg (by rw [k3]; omega)] at hK
      exact hK I1 (f1.up (by omega) (Or.inr rfl)) (M1.s telW_fl.1 telW_fl.2) (Q.fr (f1.1 189 (by omega) (by omega) (by omega)) (f1.2.2 9 (by omega)))
    · rw [if_pos (Or.inr k3)] at hK
      exact hK I1 (f1.up (by omega) (Or.inr rfl)) M1 (QR_1 (Q.1.fr (f1.1 189 (by omega) (by omega) (by omega))) (show (1 : Nat) ≠ 0 by decide))
theorem nm_go {y : Nat → Nat} {n i f w a : Nat} {S : Sm} (k : kin y n w = 2) (h : a < needW i) : nmL y n i (f + 1) w a S = nmL y n i f (adv y n w) (a + 1) (accW i a (nmb y n w) w S) := if_pos ⟨k, Or.inl h⟩
theorem nm_no {y : Nat → Nat} {n i f w a : Nat} {S : Sm} (k : kin y n w ≠ 2) : nmL y n i (f + 1) w a S = (w, a, S) := if_neg (fun q => k q.1)
theorem nm_end {y : Nat → Nat} {n i f w a : Nat} {S : Sm} (h : needW i ≤ a) (k : isKW i = false) : nmL y n i (f + 1) w a S = (w, a, S) := if_neg (fun q => by
  rcases q.2 with z | z
  · omega
  · rw [k] at z
    cases z)
/-- a line's numbers, under way -/
def NP (y : Nat → Nat) (n i w a : Nat) (S : Sm) (I : MI) : Prop := LM y n w S I ∧ SmI S ∧ nbI i a S ∧ S.fl ≠ 1 ∧ bf S w ∧ (S.fl = 0 → I 186 9 = nI S.gr)
/-- what a number leaves as it is -/
def kpt (a : Nat) (v : Nat) (S S' : Sm) : Prop := S'.fl = 0 → (S.fl = 0 ∧ S'.vv = S.vv ∧ S'.tt = S.tt) ∧ v = S'.nb a ∧ ∀ j, j ≠ a → S'.nb j = S.nb j
theorem accW_f0 {i a x w : Nat} {S : Sm} (h : (accW i a x w S).fl = 0) : S.fl = 0 ∧ mayW i a x S.nb = true := by
  have h0 : S.fl = 0 := by
    refine Decidable.byContradiction (fun z => ?_)
    rw [accW_2 z] at h
    exact z h
  refine ⟨h0, ?_⟩
  cases c : mayW i a x S.nb with
  | true => rfl
  | false =>
    rw [accW_1 h0 c] at h
    exact absurd h (blm_fl (by decide))
theorem accW_kpt {i a x w : Nat} {S : Sm} (hk : isKW i = false) : kpt a x S (accW i a x w S) := fun h => by
  obtain ⟨h0, c⟩ := accW_f0 h
  obtain ⟨-, -, -, q4, q5, q6⟩ := accW_0 (w := w) h0 c
  rw [q4, q5, q6, if_neg (by rw [hk]; exact Bool.false_ne_true)]
  exact ⟨⟨h0, rfl, rfl⟩, (if_pos rfl).symm, fun j hj => if_neg hj⟩
theorem isPW_K {i a : Nat} (h : isPW i a = false) : isKW i = false := by
  cases c : isKW i with
  | false => rfl
  | true =>
    rw [isKW_P c] at h
    cases h
theorem cm_numP {y : Nat → Nat} {n i w a lo hi : Nat} {S : Sm} {I : MI} {L : ML} (P : NP y n i w a S I) (hi' : i < 14) (hP : isPW i a = false) (hl : lo ≤ 99) (hh : hi ≤ 99) (hlh : lo ≤ hi) (hin : kin y n w = 2 → S.fl = 0 → (mayW i a (nmb y n w) S.nb = true ↔ lo ≤ nmb y n w ∧ nmb y n w ≤ hi)) {b : Bool} {K : Int32 → Bool → MI → ML → Prop} (h1 : kin y n w = 2 → ∀ I' v S', S' = accW i a (nmb y n w) w S → lfr 9 187 I I' → NP y n i (adv y n w) (a + 1) S' I' → lo ≤ v → v ≤ hi → kpt a v S S' → K (nI v) b I' L) (h2 : kin y n w ≠ 2 → ∀ I', lfr 9 187 I I' → LM y n w (sty w S) I' → K (nI lo) b I' L) : CI m_M_numbered [vr 22 186, vi (nI lo), vi (nI hi)] b I L K := by
  obtain ⟨M, hS, hN, hf, hb, hg⟩ := P
  refine cm_num M hS.1 hl hh hlh hin (fun _ => hb) (fun _ k2 I1 v f1 M1 v0 v1 hv => ?_) (fun _ k2 I1 f1 M1 => h2 k2 I1 (f1.up (by omega) (Or.inl rfl)) M1) (fun z => absurd z hf)
  have hw := M.1.2
  obtain ⟨g1, g2⟩ := accW_I (w := w) hi' (nmb_le k2) hS hN
  obtain ⟨g3, g4⟩ := accW_bf (i := i) (a := a) (x := nmb y n w) hf (bf_up hb (by omega : w ≤ w + 1))
  have hlt := (adv_le (y := y) hw).2.2 (kin_lt (by rw [k2]; decide))
  refine h1 k2 I1 v _ rfl (f1.up (by omega) (Or.inl rfl)) ⟨M1, g1, g2, g3, bf_up g4 hlt, fun z => ?_⟩ v0 v1 (fun z => ?_)
  · obtain ⟨h0, c⟩ := accW_f0 z
    rw [(accW_0 h0 c).2.2.1, if_neg (by rw [hP]; exact Bool.false_ne_true), f1.2.2 9 (by omega)]
    exact hg h0
  · obtain ⟨h0, c⟩ := accW_f0 z
    rw [hv ((hin k2 h0).mp c)]
    exact accW_kpt (isPW_K hP) z
theorem cm_perP {y : Nat → Nat} {n i w a : Nat} {S : Sm} {I : MI} {L : ML} (P : NP y n i w a S I) (hi' : i < 14) (hP : isPW i a = true) (hin : S.fl = 0 → (mayW i a (nmb y n w) S.nb = true ↔ nmb y n w ≤ 15)) {b : Bool} {K : Int32 → Bool → MI → ML → Prop} (h1 : kin y n w = 2 → ∀ I' v S', S' = accW i a (nmb y n w) w S → lfr 9 187 I I' → NP y n i (adv y n w) (a + 1) S' I' → v ≤ 15 → (S'.fl = 0 → v = nmb y n w) → K (nI v) b I' L) (h2 : kin y n w ≠ 2 → ∀ I', lfr 9 187 I I' → LM y n w (sty w S) I' → K (nI 0) b I' L) : CI m_M_personTold [vr 22 186] b I L K := by
  obtain ⟨M, hS, hN, hf, hb, hg⟩ := P
  refine cm_person M hS hP hin (fun _ => hb) (fun _ k2 I1 v f1 M1 v1 hv hr => ?_) (fun _ k2 I1 f1 M1 => h2 k2 I1 f1 M1) (fun z => absurd z hf)
  have hw := M.1.2
  obtain ⟨g1, g2⟩ := accW_I (w := w) hi' (nmb_le k2) hS hN
  obtain ⟨g3, g4⟩ := accW_bf (i := i) (a := a) (x := nmb y n w) hf (bf_up hb (by omega : w ≤ w + 1))
  have hlt := (adv_le (y := y) hw).2.2 (kin_lt (by rw [k2]; decide))
  exact h1 k2 I1 v _ rfl f1 ⟨M1, g1, g2, g3, bf_up g4 hlt, fun z => (hr hg z).2⟩ v1 (fun z => (hr hg z).1)
theorem cm_numW {lo hi : Int32} {I : MI} {L : ML} (e8 : I 186 8 = nI 1) {b : Bool} {K : Int32 → Bool → MI → ML → Prop} (hK : K lo b I L) : CI m_M_numbered [vr 22 186, vi lo, vi hi] b I L K := v_M_numbered_0 ⟨fun _ => cm_endsW e8 hK, fun z => absurd (show ¬ I 186 8 = 0 by rw [e8]; decide) z⟩
theorem cm_personW {y : Nat → Nat} {n w : Nat} {S : Sm} {I : MI} {L : ML} (M : LM y n w S I) (hf : S.fl = 1) {b : Bool} {K : Int32 → Bool → MI → ML → Prop} (hK : ∀ I', lfr 9 187 I I' → LM y n w S I' → K (nI 0) b I' L) : CI m_M_personTold [vr 22 186] b I L K := v_M_personTold_0 (cm_numW (M.w8 hf) ⟨fun _ => hK _ lfr_9 M.g, fun _ => hK _ lfr_9 M.g⟩)
