/-! TEXTS: the reference's text, whole -/
def iniR (s j : Nat) : Nat := if s = 0 ∧ 21 ≤ j ∧ j ≤ 36 then 1 else 0
theorem cm_fill {s : Nat} (hs : s ≤ 1) {x2 : Int32} (I0 : MI) {b : Bool} {L : ML} {K : Int32 → Bool → MI → ML → Prop} (hK : ∀ I', (∀ a, a ≠ 189 → I' a = I0 a) → (∀ j, j < 200 → I' 189 j = nI (if s = 0 ∧ j = 0 then 2 else iniR s j)) → CV m_M_advance [vr 22 186] b I' L (fun b_1 I_1 L_1 => SW m_M_text 143 [vr 22 186, vi (nI s), vi x2, un, un] [] b_1 I_1 L_1 (kI K))) : ∀ m i, i + m = 200 → ∀ I, (∀ a, a ≠ 189 → I a = I0 a) → (∀ j, j < i → I 189 j = nI (iniR s j)) → SW m_M_text 89 [vr 22 186, vi (nI s), vi x2, vi (nI i), un] [] b I L (kI K) := by
  intro m
  induction m with
  | zero =>
    intro i hi I h1 h2
    obtain rfl : i = 200 := by omega
    rcases (by omega : s = 0 ∨ s = 1) with rfl | rfl
    · refine v_M_text_89 ⟨fun _ => ⟨fun z => absurd rfl z, fun _ => ⟨vpN (k := 0) (by omega) (by omega), ?_⟩⟩, fun z => absurd (by decide) z⟩
      rw [cl0]
      refine hK _ (fun a ha => (sI_c ha).trans (h1 a ha)) (fun j hj => ?_)
      by_cases e : j = 0
      · rw [e, sI_at, if_pos ⟨rfl, rfl⟩]
        rfl
      · rw [sI_j e, if_neg (fun z => e z.2), h2 j hj]
    · refine v_M_text_89 ⟨fun _ => ⟨fun _ => ?_, fun z => absurd (by decide) z⟩, fun z => absurd (by decide) z⟩
      exact hK I h1 (fun j hj => by rw [if_neg (by omega), h2 j hj])
  | succ m ih =>
    intro i hi I h1 h2
    have n200 : ¬ (200 : Int32) ≤ nI i := by
      rw [show (200 : Int32) = nI 200 from rfl, n_le (by omega) (by omega)]
      omega
    have step : ∀ v : Nat, v = iniR s i → (vp_in (nI i) 200 ∧ SW m_M_text 89 [vr 22 186, vi (nI s), vi x2, vi (nI i + (1 : Int32)), un] [] b (sI I 189 (nI i).toNatClampNeg (nI v)) L (kI K)) := fun v hv => by
      rw [n_cl (by omega), show nI i + (1 : Int32) = nI (i + 1) from n_add i 1]
      refine ⟨vpN (by omega) (by omega), ih (i + 1) (by omega) _ (fun a ha => (sI_c ha).trans (h1 a ha)) (fun j hj => ?_)⟩
      by_cases e : j = i
      · rw [e, sI_at, hv]
      · rw [sI_j e]
        exact h2 j (by omega)
    rcases (by omega : s = 0 ∨ s = 1) with rfl | rfl
    · refine v_M_text_89 ⟨fun z => absurd z n200, fun _ => ⟨fun z => absurd rfl z, fun _ => ?_⟩⟩
      refine cm_isInN (lo := 21) (hi := 36) (by omega) (by omega) (by omega) (fun c => ?_) (fun c => ?_)
      · exact ⟨fun z => absurd z (by decide), fun _ => step 1 (if_pos ⟨rfl, c⟩).symm⟩
      · exact ⟨fun _ => step 0 (if_neg (fun z => c z.2)).symm, fun z => absurd rfl z⟩
    · refine v_M_text_89 ⟨fun z => absurd z n200, fun _ => ⟨fun _ => step 0 (if_neg (by omega)).symm, fun z => absurd (by decide) z⟩⟩
def cnS (B : Bk) (s : Nat) : Nat := if s = 0 then B.nv else B.nt
/-- there is a place for it -/
def Fit (B : Bk) (a1 a2 : Int32) (s k : Nat) : Prop := s ≤ 1 ∧ a1 = nI s ∧ (a2 = nM ∧ k = cnS B s ∧ k < 2 + s ∨ a2 = nI k ∧ k < cnS B s)
/-- what is told behind a text -/
def txB (B : Bk) (s k : Nat) (S : Sm) : Bk := if S.fl = 0 then (if s = 0 then mkB (if k = B.nv then B.nv + 1 else B.nv) B.nt 0 0 nM B.yt (fun j => if j = k then S.vv else B.vl j) B.tl else mkB B.nv (if k = B.nt then B.nt + 1 else B.nt) 0 0 nM B.yt B.vl (fun j => if j = k then S.tt else B.tl j)) else mkB B.nv B.nt 0 S.fl (nI S.pl) B.yt B.vl B.tl
theorem vilQ_M {o : Nat} {v : Vil} {f : Nat → Int32} {I : MI} (hv : v.m ≤ 40) (h : ∀ j, j < 200 → I 187 (o + j) = f j) (q : vilQ v f) : vilM o v I := by
  obtain ⟨⟨h1, h2, h3, h4, h5⟩, h6, h7⟩ := q
  refine ⟨⟨(h 0 (by omega)).trans h1, (h 1 (by omega)).trans h2, (h 2 (by omega)).trans h3, (h 3 (by omega)).trans h4, (h 4 (by omega)).trans h5⟩, fun p hp => ?_, fun t ht => ?_⟩
  · have e1 := h (5 + p) (by omega)
    have e2 := h (21 + p) (by omega)
    simp only [← Nat.add_assoc] at e1 e2
    rw [e1, e2]
    exact h6 p hp
  · have e1 := h (37 + 4 * t) (by omega)
    have e2 := h (37 + 4 * t + 1) (by omega)
    have e3 := h (37 + 4 * t + 2) (by omega)
    have e4 := h (37 + 4 * t + 3) (by omega)
    simp only [← Nat.add_assoc] at e1 e2 e3 e4
    rw [e1, e2, e3, e4]
    exact h7 t ht
theorem telQ_M {o : Nat} {t : Tel} {f : Nat → Int32} {I : MI} (ht : t.n ≤ 30) (h : ∀ j, j < 122 → I 187 (o + j) = f j) (q : telQ t f) : telM o t I := by
  obtain ⟨h1, h7⟩ := q
  refine ⟨(h 0 (by omega)).trans h1, fun t ht => ?_⟩
  have e1 := h (1 + 4 * t) (by omega)
  have e2 := h (1 + 4 * t + 1) (by omega)
  have e3 := h (1 + 4 * t + 2) (by omega)
  have e4 := h (1 + 4 * t + 3) (by omega)
  simp only [← Nat.add_assoc] at e1 e2 e3 e4
  rw [e1, e2, e3, e4]
  exact h7 t ht
theorem txB_ok {B : Bk} {a1 a2 : Int32} {s k : Nat} (ok : B.ok) (F : Fit B a1 a2 s k) : (txB B s k (parS B.yt B.ln s)).ok := by
  obtain ⟨⟨o1, o2, o3, o4⟩, o5, o6, o7⟩ := ok
  obtain ⟨f1, f2, f3⟩ := F
  obtain ⟨p1, p2⟩ := parS_ok (y := B.yt) (sort := s) o3
  unfold txB
  by_cases h0 : (parS B.yt B.ln s).fl = 0
  · obtain ⟨p3, p4⟩ := p2 h0
    rw [if_pos h0]
    by_cases s0 : s = 0
    · rw [if_pos s0]
      unfold cnS at f3
      rw [if_pos s0] at f3
      refine ⟨⟨?_, o2, Nat.zero_le _, Nat.zero_le _⟩, fun j hj => absurd hj (Nat.not_lt_zero _), fun j hj => ?_, o7⟩
      · show (if k = B.nv then B.nv + 1 else B.nv) ≤ 2
        split <;> omega
      · show (if j = k then (parS B.yt B.ln s).vv else B.vl j).ok 40
        have hj : j < (if k = B.nv then B.nv + 1 else B.nv) := hj
        by_cases e : j = k
        · rw [if_pos e]
          exact p4 s0
        · rw [if_neg e]
          refine o6 j ?_
          split at hj <;> omega
    · rw [if_neg s0]
      unfold cnS at f3
      rw [if_neg s0] at f3
      refine ⟨⟨o1, ?_, Nat.zero_le _, Nat.zero_le _⟩, fun j hj => absurd hj (Nat.not_lt_zero _), o6, fun j hj => ?_⟩
      · show (if k = B.nt then B.nt + 1 else B.nt) ≤ 3
        split <;> omega
      · show (if j = k then (parS B.yt B.ln s).tt else B.tl j).ok
        have hj : j < (if k = B.nt then B.nt + 1 else B.nt) := hj
        by_cases e : j = k
        · rw [if_pos e]
          exact p3
        · rw [if_neg e]
          refine o7 j ?_
          split at hj <;> omega
  · rw [if_neg h0]
    exact ⟨⟨o1, o2, Nat.zero_le _, p1⟩, fun j hj => absurd hj (Nat.not_lt_zero _), o6, o7⟩
/-- the reference's picture, where only its head is another one -/
theorem bkM_hd {B : Bk} {fl : Nat} {fa : Int32} {I I' : MI} (ok : B.ok) (h : ∀ j, j ≠ 2 → j ≠ 3 → j ≠ 4 → I' 187 j = I 187 j) (h2 : I' 187 2 = nI 0) (h3 : I' 187 3 = nI fl) (h4 : I' 187 4 = fa) (k : bkM 0 B I) : bkM 0 (mkB B.nv B.nt 0 fl fa B.yt B.vl B.tl) I' := by
  obtain ⟨⟨k1, k2, k3, k4, k5⟩, k6, k7, k8⟩ := k
  obtain ⟨⟨o1, o2, o3, o4⟩, o5, o6, o7⟩ := ok
  refine ⟨⟨(h 0 (by omega) (by omega) (by omega)).trans k1, (h 1 (by omega) (by omega) (by omega)).trans k2, h2, h3, h4⟩, fun j hj => absurd hj (Nat.not_lt_zero _), fun j hj => ?_, fun j hj => ?_⟩
  · have hj : j < B.nv := hj
    exact vilM_at (o6 j hj).2.1 (fun a h1 h2 => h a (by omega) (by omega) (by omega)) (k7 j hj)
  · have hj : j < B.nt := hj
    exact telM_at (o7 j hj).1 (fun a h1 h2 => h a (by omega) (by omega) (by omega)) (k8 j hj)
theorem S0_Q {s : Nat} (hs : s ≤ 1) {I : MI} (h9 : I 186 9 = nI 0) (h : ∀ j, j < 200 → I 189 j = nI (if s = 0 ∧ j = 0 then 2 else iniR s j)) : QR s S0 I := by
  rcases (by omega : s = 0 ∨ s = 1) with rfl | rfl
  · have e : ∀ j, j < 200 → j ≠ 0 → ¬ (21 ≤ j ∧ j ≤ 36) → I 189 j = nI 0 := fun j hj j0 hn => by
      rw [h j hj, if_neg (fun z => j0 z.2)]
      unfold iniR
      rw [if_neg (fun z => hn z.2)]
    have e0 : I 189 0 = nI 2 := by
      rw [h 0 (by omega), if_pos ⟨rfl, rfl⟩]
    refine ⟨⟨0, by omega, e 1 (by omega) (by omega) (by omega)⟩, fun _ => ⟨fun _ => ⟨h9, ⟨e0, e 1 (by omega) (by omega) (by omega), e 2 (by omega) (by omega) (by omega), e 3 (by omega) (by omega) (by omega), e 4 (by omega) (by omega) (by omega)⟩, fun p hp => ⟨e (5 + p) (by omega) (by omega) (by omega), ?_⟩, fun t ht => absurd ht (Nat.not_lt_zero _)⟩, fun z => absurd rfl z⟩⟩
    rw [h (21 + p) (by omega), if_neg (by omega)]
    unfold iniR
    rw [if_pos ⟨rfl, by omega, by omega⟩]
    rfl
  · have e0 : I 189 0 = nI 0 := by
      rw [h 0 (by omega), if_neg (by omega)]
      rfl
    exact ⟨⟨0, by omega, e0⟩, fun _ => ⟨fun z => absurd z (by decide), fun _ => ⟨h9, e0, fun t ht => absurd ht (Nat.not_lt_zero _)⟩⟩⟩
theorem lins_w {y : Nat → Nat} {n sort : Nat} {f w : Nat} {S : Sm} {I : MI} (M : LM y n (lins y n sort f w S).1 (lins y n sort f w S).2 I) : (lins y n sort f w S).1 ≤ n := M.1.2
/-- the reference's text, once the place is there -/
theorem cm_textY {B : Bk} {a1 a2 : Int32} {s k : Nat} {I I0 : MI} (ok : B.ok) (F : Fit B a1 a2 s k) (hm : bkM 0 B I) (f0 : ∀ a, a ≠ 186 → a ≠ 187 → I0 a = I a) (g0 : ∀ j, j ≠ 2 → j ≠ 3 → j ≠ 4 → I0 187 j = I 187 j) (g2 : I0 187 2 = nI 0) (g3 : I0 187 3 = nI 0) (g4 : I0 187 4 = nM) (e2 : I0 186 2 = nI B.ln) (e3 : I0 186 3 = nI 0) (e8 : I0 186 8 = nI 0) (e9 : I0 186 9 = nI 0) {b : Bool} {L : ML} {K : Int32 → Bool → MI → ML → Prop} (hK : ∀ I', (∀ a, a ≠ 186 → a ≠ 187 → a ≠ 189 → I' a = I a) → (∀ j, 1376 ≤ j → I' 187 j = I 187 j) → bkM 0 (txB B s k (parS B.yt B.ln s)) I' → K (if (parS B.yt B.ln s).fl = 0 then nI k else nM) b I' L) : SW m_M_text 89 [vr 22 186, vi a1, vi a2, vi (0 : Int32), un] [] b I0 L (kI K) := by
  obtain ⟨⟨k1, k2, k3, k4, k5⟩, k6, k7, k8⟩ := id hm
  obtain ⟨⟨o1, o2, o3, o4⟩, o5, o6, o7⟩ := id ok
  obtain ⟨hs, rfl, hfit⟩ := id F
  have hkc : k ≤ cnS B s ∧ k < 2 + s := by
    unfold cnS at hfit ⊢
    rcases (by omega : s = 0 ∨ s = 1) with rfl | rfl
    · rw [if_pos rfl] at hfit ⊢
      omega
    · rw [if_neg (by omega)] at hfit ⊢
      omega
  refine cm_fill hs I0 (fun I1 f1 p1 => ?_) 200 0 (by omega) I0 (fun _ _ => rfl) (fun j hj => absurd hj (Nat.not_lt_zero _))
  have P1 : PM B.yt B.ln I1 := ⟨⟨by rw [f1 186 (by omega)]; exact e2, o3⟩, fun j hj => by
    rw [f1 187 (by omega), g0 _ (by omega) (by omega) (by omega)]
    have := k6 j hj
    rw [show 0 + 10 + j = 10 + j by omega] at this
    exact this, o5⟩
  refine cm_advance P1 (Nat.zero_le _) (by rw [f1 186 (by omega)]; exact e3) ⟨_, rfl⟩ (fun I2 f2 R2 => ?_)
  have w0 := rnT_le (f := isBl) (y := B.yt) (n := B.ln) (p := 0) (Nat.zero_le _)
  have M2 : LM B.yt B.ln (whr B.yt B.ln 0) S0 I2 := ⟨⟨f2.pm P1, w0.2⟩, R2, ⟨by rw [f2.1 187 (by omega), f1 187 (by omega)]; exact g3, by rw [f2.1 187 (by omega), f1 187 (by omega)]; exact g4⟩, by rw [f2.2 8 (by omega) (by omega) (by omega) (by omega) (by omega), f1 186 (by omega)]; exact e8⟩
  have Q2 : QR s S0 I2 := S0_Q hs (by rw [f2.2 9 (by omega) (by omega) (by omega) (by omega) (by omega), f1 186 (by omega)]; exact e9) (fun j hj => by rw [f2.1 189 (by omega)]; exact p1 j hj)
  have f12 : lfr 9 189 I0 I2 := by
    refine ⟨fun a a1 a2 a3 => by rw [f2.1 a a1, f1 a a3], fun j j1 j2 => by rw [f2.1 187 (by omega), f1 187 (by omega)], fun j hj => by rw [f2.2 j (by omega) (by omega) (by omega) (by omega) (by omega), f1 186 (by omega)]⟩
  refine cm_lines o3 hs 601 (whr B.yt B.ln 0) S0 I2 (by omega) M2 S0_I (by decide) (fun z => absurd rfl z) Q2 (fun I3 f3 M3 Q3 kn => ?_)
  have SI3 := lins_I (y := B.yt) (sort := s) o3 601 (whr B.yt B.ln 0) S0 w0.2 S0_I
  have hp : parS B.yt B.ln s = last4 B.ln s (lins B.yt B.ln s 601 (whr B.yt B.ln 0) S0).2 := rfl
  rw [hp] at hK
  generalize (lins B.yt B.ln s 601 (whr B.yt B.ln 0) S0).1 = w at M3 kn
  generalize (lins B.yt B.ln s 601 (whr B.yt B.ln 0) S0).2 = S at M3 Q3 kn SI3 hK
  have f03 : lfr 9 189 I0 I3 := f12.trans f3
  have fa : ∀ a, a ≠ 186 → a ≠ 187 → a ≠ 189 → I3 a = I a := fun a h1 h2 h3 => (f03.1 a h1 h2 h3).trans (f0 a h1 h2)
  have fj : ∀ j, j ≠ 2 → j ≠ 3 → j ≠ 4 → I3 187 j = I 187 j := fun j h1 h2 h3 => (f03.2.1 j h2 h3).trans (g0 j h1 h2 h3)
  have f2' : I3 187 2 = nI 0 := (f03.2.1 2 (by omega) (by omega)).trans g2
  have fl4 := SI3.1
  unfold tailT
  rw [cl3, M3.2.2.1.1]
  -- a fault stays
  have bad : ∀ (I4 : MI) (S4 : Sm), lfr 8 187 I3 I4 → I4 187 3 = nI S4.fl → I4 187 4 = nI S4.pl → S4.fl ≠ 0 → S4.fl ≤ 4 → last4 B.ln s S = S4 → endT (nI s) a2 K b I4 L := fun I4 S4 f4 q3 q4 z z4 e => by
    rw [e] at hK
    unfold txB at hK
    rw [if_neg z, if_neg z] at hK
    refine endT_1 q3 z z4 (hK I4 (fun a h1 h2 h3 => (f4.1 a h1 h2 h2).trans (fa a h1 h2 h3)) (fun j hj => (f4.2.1 j (by omega) (by omega)).trans (fj j (by omega) (by omega) (by omega))) ?_)
    exact bkM_hd ok (fun j h1 h2 h3 => (f4.2.1 j h2 h3).trans (fj j h1 h2 h3)) ((f4.2.1 2 (by omega) (by omega)).trans f2') q3 q4 hm
  -- it is kept
  have good : S.fl = 0 → last4 B.ln s S = S → endT (nI s) a2 K b I3 L := fun h0 e => by
    rw [e] at hK
    unfold txB at hK
    rw [if_pos h0, if_pos h0] at hK
    have ec : I3 187 s = nI (cnS B s) := by
      unfold cnS
      rcases (by omega : s = 0 ∨ s = 1) with rfl | rfl
      · rw [if_pos rfl, fj 0 (by omega) (by omega) (by omega)]
        exact k1
      · rw [if_neg (by omega), fj 1 (by omega) (by omega) (by omega)]
        exact k2
    have hc2 : cnS B s ≤ 2 + s := by
      unfold cnS
      rcases (by omega : s = 0 ∨ s = 1) with rfl | rfl
      · rw [if_pos rfl]
        exact o1
      · rw [if_neg (by omega)]
        exact o2
    refine endT_0 (by rw [M3.2.2.1.1, h0]) (cm_keepT hs ec hc2 (hfit.imp (fun z => ⟨z.1, z.2.1, z.2.2⟩) id) (fun I4 f4 p4 => ?_))
    have pa : ∀ a, a ≠ 186 → a ≠ 187 → a ≠ 189 → I4 a = I a := fun a h1 h2 h3 => (f4 a h2).trans (fa a h1 h2 h3)
    have fl0 : I3 187 3 = nI 0 := by rw [M3.2.2.1.1, h0]
    have fa0 : I3 187 4 = nM := by rw [M3.2.2.1.2, if_pos h0]
    rcases (by omega : s = 0 ∨ s = 1) with rfl | rfl
    · rw [if_pos rfl] at hK
      have c0 : cnS B 0 = B.nv := rfl
      rw [c0] at p4 hkc
      have p4 : ∀ j, I4 187 j = if 610 + 200 * k ≤ j ∧ j < 610 + 200 * k + 200 then I3 189 (j - (610 + 200 * k)) else if j = 0 then nI (if k = B.nv then B.nv + 1 else B.nv) else I3 187 j := p4
      have pj : ∀ j, j ≠ 0 → j ≠ 2 → j ≠ 3 → j ≠ 4 → ¬ (610 + 200 * k ≤ j ∧ j < 610 + 200 * k + 200) → I4 187 j = I 187 j := fun j h1 h2 h3 h4 h5 => by
        rw [p4, if_neg h5, if_neg h1]
        exact fj j h2 h3 h4
      refine hK I4 pa (fun j hj => pj j (by omega) (by omega) (by omega) (by omega) (by omega)) ⟨⟨?_, ?_, ?_, ?_, ?_⟩, fun j hj => absurd hj (Nat.not_lt_zero _), fun j hj => ?_, fun j hj => ?_⟩
      · rw [p4, if_neg (by omega), if_pos rfl]
        rfl
      · rw [pj _ (by omega) (by omega) (by omega) (by omega) (by omega)]
        exact k2
      · rw [p4, if_neg (by omega), if_neg (by omega)]
        exact f2'
      · rw [p4, if_neg (by omega), if_neg (by omega)]
        exact fl0
      · rw [p4, if_neg (by omega), if_neg (by omega)]
        exact fa0
      · have hj : j < (if k = B.nv then B.nv + 1 else B.nv) := hj
        show vilM (0 + 610 + 200 * j) (if j = k then S.vv else B.vl j) I4
        by_cases e : j = k
        · rw [if_pos e, e]
          refine vilQ_M (SI3.2 h0).2.1.1.2.1 (fun i hi => ?_) ((Q3.2 h0).1 rfl).2
          rw [p4, if_pos (by omega), show 0 + 610 + 200 * k + i - (610 + 200 * k) = i by omega]
        · rw [if_neg e]
          have hj2 : j < B.nv := by
            split at hj <;> omega
          exact vilM_at (o6 j hj2).2.1 (fun a h1 h2 => pj a (by omega) (by omega) (by omega) (by omega) (by omega)) (k7 j hj2)
      · have hj : j < B.nt := hj
        exact telM_at (o7 j hj).1 (fun a h1 h2 => pj a (by omega) (by omega) (by omega) (by omega) (by omega)) (k8 j hj)
    · rw [if_neg (by decide)] at hK
      have c0 : cnS B 1 = B.nt := rfl
      rw [c0] at p4 hkc
      have p4 : ∀ j, I4 187 j = if 1010 + 122 * k ≤ j ∧ j < 1010 + 122 * k + 122 then I3 189 (j - (1010 + 122 * k)) else if j = 1 then nI (if k = B.nt then B.nt + 1 else B.nt) else I3 187 j := p4
      have pj : ∀ j, j ≠ 1 → j ≠ 2 → j ≠ 3 → j ≠ 4 → ¬ (1010 + 122 * k ≤ j ∧ j < 1010 + 122 * k + 122) → I4 187 j = I 187 j := fun j h1 h2 h3 h4 h5 => by
        rw [p4, if_neg h5, if_neg h1]
        exact fj j h2 h3 h4
      refine hK I4 pa (fun j hj => pj j (by omega) (by omega) (by omega) (by omega) (by omega)) ⟨⟨?_, ?_, ?_, ?_, ?_⟩, fun j hj => absurd hj (Nat.not_lt_zero _), fun j hj => ?_, fun j hj => ?_⟩
      · rw [pj _ (by omega) (by omega) (by omega) (by omega) (by omega)]
        exact k1
      · rw [p4, if_neg (by omega), if_pos rfl]
        rfl
      · rw [p4, if_neg (by omega), if_neg (by omega)]
        exact f2'
      · rw [p4, if_neg (by omega), if_neg (by omega)]
        exact fl0
      · rw [p4, if_neg (by omega), if_neg (by omega)]
        exact fa0
      · have hj : j < B.nv := hj
        exact vilM_at (o6 j hj).2.1 (fun a h1 h2 => pj a (by omega) (by omega) (by omega) (by omega) (by omega)) (k7 j hj)
      · have hj : j < (if k = B.nt then B.nt + 1 else B.nt) := hj
        show telM (0 + 1010 + 122 * j) (if j = k then S.tt else B.tl j) I4
        by_cases e : j = k
        · rw [if_pos e, e]
          refine telQ_M (SI3.2 h0).2.2.1 (fun i hi => ?_) ((Q3.2 h0).2 (by decide)).2
          rw [p4, if_pos (by omega), show 0 + 1010 + 122 * k + i - (1010 + 122 * k) = i by omega]
        · rw [if_neg e]
          have hj2 : j < B.nt := by
            split at hj <;> omega
          exact telM_at (o7 j hj2).1 (fun a h1 h2 => pj a (by omega) (by omega) (by omega) (by omega) (by omega)) (k8 j hj2)
  refine ⟨vp3A, fun z => ?_, fun z => ?_⟩
  · rw [show (0 : Int32) = nI 0 from rfl, n_eq (by omega) (by omega)] at z
    refine bad I3 S lfr_0 M3.2.2.1.1 (by rw [M3.2.2.1.2, if_neg z]) z fl4 ?_
    unfold last4
    exact if_neg (fun q => z q.1)
  · rw [show (0 : Int32) = nI 0 from rfl, n_eq (by omega) (by omega)] at z
    have h0 : S.fl = 0 := Decidable.not_not.mp z
    refine ⟨fun c => good h0 ?_, fun c => ?_⟩
    · rw [show (0 : Int32) = nI 0 from rfl, n_eq (by omega) (by omega)] at c
      unfold last4
      exact if_neg (fun q => c q.2.1)
    · rw [show (0 : Int32) = nI 0 from rfl, n_eq (by omega) (by omega)] at c
      have s0 : s = 0 := Decidable.not_not.mp c
      have q := (Q3.2 h0).1 s0
      have gb := (SI3.2 h0).1
      have nb := (SI3.2 h0).2.1.1.1.2
      have wn : w = B.ln := by
        have := kin_e0 (kn (by omega))
        have := M3.1.2
        omega
      rw [cl0, q.1, q.2.1.1, n_lt (by omega) (by omega)]
      refine ⟨vpN (k := 0) (by omega) (by omega), fun c => good h0 ?_, fun c => ?_⟩
      · unfold last4
        exact if_neg (fun q => by omega)
      · rw [M3.2.1.2.1]
        refine cm_also (k := 4) M3 (by omega) fl4 (fun q => absurd h0 q) (by rw [wn]; exact o3) (by omega) (fun I4 f4 M4 => ?_)
        have e4 : last4 B.ln s S = blm 4 w S := by
          unfold last4 blm
          rw [if_pos ⟨h0, s0, by omega⟩, if_pos h0, wn]
        have eb : blm 4 w S = mkS 4 w S.gr S.vv S.tt S.nb := if_pos h0
        rw [eb] at M4 e4
        exact bad I4 _ f4 M4.2.2.1.1 M4.2.2.1.2 (show (4 : Nat) ≠ 0 by decide) (show (4 : Nat) ≤ 4 by decide) e4
