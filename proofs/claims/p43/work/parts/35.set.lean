/-! Given.set, take; what comes from outside, which ties carry, the last day -/
/-- what a what-if adds: alone, begun by whom; denied whom, from which day to which; silent; dead ties; barred ones, from which day -/
abbrev Wi : Type := Bool × (Nat → Bool) × (Nat → Bool) × Nat × Nat × (Nat → Bool) × (Nat → Bool) × (Nat → Bool) × Nat
def Wi.al (x : Wi) : Bool := x.1
def Wi.bg (x : Wi) : Nat → Bool := x.2.1
def Wi.dn (x : Wi) : Nat → Bool := x.2.2.1
def Wi.df (x : Wi) : Nat := x.2.2.2.1
def Wi.dt (x : Wi) : Nat := x.2.2.2.2.1
def Wi.si (x : Wi) : Nat → Bool := x.2.2.2.2.2.1
def Wi.dd (x : Wi) : Nat → Bool := x.2.2.2.2.2.2.1
def Wi.ba (x : Wi) : Nat → Bool := x.2.2.2.2.2.2.2.1
def Wi.bf (x : Wi) : Nat := x.2.2.2.2.2.2.2.2
def mkX (al : Bool) (bg dn : Nat → Bool) (df dt : Nat) (si dd ba : Nat → Bool) (bf : Nat) : Wi := (al, bg, dn, df, dt, si, dd, ba, bf)
def wi0 : Wi := mkX false (fun _ => false) (fun _ => false) 0 0 (fun _ => false) (fun _ => false) (fun _ => false) 0
def amW (t : Tel) (x : Wi) (s d p : Nat) : Nat := (if x.al = true then (if (s = 0 ∧ d = 0) ∧ x.bg p = true then 9 else 0) else t.amt s d p) + (if (s = 1 ∧ x.df ≤ d ∧ d ≤ x.dt) ∧ x.dn p = true then 9 else 0)
def opW (m0 : Nat) (t : Tel) (x : Wi) (d k : Nat) : Bool := !(x.dd k || (t.wall d k && decide (k < m0)) || (x.ba k && decide (x.bf ≤ d)))
def laW (t : Tel) (x : Wi) : Nat :=
  let a := if x.al = true then t.la2 else t.la1
  let a := if anyN 32 x.dn = true then (if a < x.dt then x.dt else a) else a
  if anyN 64 x.ba = true then (if a < x.bf then x.bf else a) else a
def mkW (v : Vil) (m0 : Nat) (t : Tel) (x : Wi) : Wd := (v, amW t x, opW m0 t x, x.si, laW t x)
/-- a what-if, in the class's cells -/
def wiP (x : Wi) (I : MI) (L : ML) : Prop := I 161 6 = nI x.al.toNat ∧ (∀ p, p < 32 → bt (I 161 7) p = (x.al && x.bg p)) ∧ (∀ p, p < 32 → bt (I 161 8) p = x.dn p) ∧ (anyN 32 x.dn = true → I 161 9 = nI x.df ∧ I 161 10 = nI x.dt) ∧ (∀ p, p < 32 → bt (I 161 11) p = x.si p) ∧ (∀ k, k < 64 → bl (L 161 12) k = x.dd k) ∧ (∀ k, k < 64 → bl (L 161 13) k = x.ba k) ∧ (anyN 64 x.ba = true → I 161 14 = nI x.bf)
def Wi.ok (x : Wi) : Prop := x.dt ≤ 200 ∧ x.bf ≤ 200 ∧ x.df ≤ 200
theorem wi0_ok : wi0.ok := ⟨by decide, by decide, by decide⟩
theorem c_tell {s d p x a1 : Nat} (hs : s ≤ 1) (hd : d ≤ 99) (hp : p ≤ 15) {b : Bool} {I : MI} {L : ML} {K : Bool → MI → ML → Prop} (e4 : I 161 4 = nI a1) (ha1 : a1 ≤ 99) (hx : I (162 + s) (d * 16 + p) = nI x) (hK : K b (sI (sI I (162 + s) (d * 16 + p) (nI (x + 9))) 161 4 (nI (if a1 < d then d else a1))) L) : CV m_Given_tell [vr 12 161, vi (nI s), vi (nI d), vi (nI p)] b I L K := by
  refine v_Given_tell_0 ?_
  rcases (by omega : s = 0 ∨ s = 1) with rfl | rfl
  · simp only [Nat.add_zero] at hx hK
    simp (disch := first | omega | assumption) only [n_lit, n_gLt, n_gLe, n_gEq, n_gEq2, n_gLe2, n_gLt2, n_m1, n_add, n_mul, n_lt, n_le, n_eq, n_cl, n_in, n_rem, n_mlt, n_mle, n_ltm, n_lem, n_eqm, n_meq, n_bit, n_shl, n_b0, n_b1, n_sub, n_inT, nT, nF, lT, lF, eT, eF, not_false_eq_true, not_true_eq_false, sI_at, sI_c, sI_j, aI_at, aI_c, sL_at, sL_c, sL_j, true_and, and_true, not_true_eq_false, not_false_eq_true, forall_const, true_implies, false_implies, implies_true, if_true, if_false, ite_true, ite_false, Bool.not_eq_true, Bool.not_eq_false, Bool.true_eq_false, Bool.false_eq_true, false_and, and_false, or_true, true_or, false_or, or_false, e4, hx]
    by_cases c1 : a1 < d <;> simp only [c1, if_true, if_false] at hK ⊢ <;> exact hK
  · simp only [Nat.reduceAdd] at hx hK
    simp (disch := first | omega | assumption) only [n_lit, n_gLt, n_gLe, n_gEq, n_gEq2, n_gLe2, n_gLt2, n_m1, n_add, n_mul, n_lt, n_le, n_eq, n_cl, n_in, n_rem, n_mlt, n_mle, n_ltm, n_lem, n_eqm, n_meq, n_bit, n_shl, n_b0, n_b1, n_sub, n_inT, nT, nF, lT, lF, eT, eF, not_false_eq_true, not_true_eq_false, sI_at, sI_c, sI_j, aI_at, aI_c, sL_at, sL_c, sL_j, true_and, and_true, not_true_eq_false, not_false_eq_true, forall_const, true_implies, false_implies, implies_true, if_true, if_false, ite_true, ite_false, Bool.not_eq_true, Bool.not_eq_false, Bool.true_eq_false, Bool.false_eq_true, false_and, and_false, or_true, true_or, false_or, or_false, e4, hx]
    by_cases c1 : a1 < d <;> simp only [c1, if_true, if_false] at hK ⊢ <;> exact hK
theorem amt_s (t : Tel) (i s d p : Nat) : (t.cut (i + 1)).amt s d p = (t.cut i).amt s d p + (if t.so i = s ∧ t.a i = d ∧ t.b i = p then 9 else 0) := rfl
theorem wall_s (t : Tel) (i d k : Nat) : (t.cut (i + 1)).wall d k = ((t.cut i).wall d k || decide (t.so i = 2 ∧ t.a i = k ∧ t.b i ≤ d ∧ d ≤ t.c i)) := rfl
theorem la1_s (t : Tel) (i : Nat) : (t.cut (i + 1)).la1 = if (t.cut i).la1 < (if t.so i = 2 then t.c i else t.a i) then (if t.so i = 2 then t.c i else t.a i) else (t.cut i).la1 := rfl
theorem la2_s (t : Tel) (i : Nat) : (t.cut (i + 1)).la2 = if (t.cut i).la2 < (if t.so i = 2 then t.c i else 0) then (if t.so i = 2 then t.c i else 0) else (t.cut i).la2 := rfl
theorem set_l {m0 r1 : Nat} {t : Tel} (h0 : m0 ≤ 41) (ht : t.ok) (hr : r1 + 4 < 161) {b : Bool} {I0 : MI} {L0 : ML} {K : Bool → MI → ML → Prop} (hT : telC r1 t I0) (hK : ∀ I' L', (∀ a, a ≠ 161 → a ≠ 162 → a ≠ 163 → I' a = I0 a) → (∀ j, j ≠ 4 → j ≠ 5 → I' 161 j = I0 161 j) → (∀ a, a ≠ 164 → L' a = L0 a) → givP m0 t I' L' → K b I' L') : ∀ n i, i + n = t.n → ∀ (I : MI) (L : ML), (∀ a, a ≠ 161 → a ≠ 162 → a ≠ 163 → I a = I0 a) → (∀ j, j ≠ 4 → j ≠ 5 → I 161 j = I0 161 j) → (∀ a, a ≠ 164 → L a = L0 a) → givP m0 (t.cut i) I L → SW m_Given_set 71 [vr 12 161, vr 18 r1, un, vi (nI i)] [] b I L (kV K) := by
  intro n
  have hn := ht.1
  induction n with
  | zero =>
    intro i hi I L h1 h2 h3 h4
    obtain rfl : i = t.n := by omega
    have e1 : I r1 0 = nI t.n := by rw [h1 _ (by omega) (by omega) (by omega)]; exact hT.1
    refine v_Given_set_71 ?_
    simp (disch := first | omega | assumption) only [n_lit, n_gLt, n_gLe, n_gEq, n_gEq2, n_gLe2, n_gLt2, n_m1, n_add, n_mul, n_lt, n_le, n_eq, n_cl, n_in, n_rem, n_mlt, n_mle, n_ltm, n_lem, n_eqm, n_meq, n_bit, n_shl, n_b0, n_b1, n_sub, n_inT, nT, nF, lT, lF, eT, eF, not_false_eq_true, not_true_eq_false, sI_at, sI_c, sI_j, aI_at, aI_c, sL_at, sL_c, sL_j, true_and, and_true, not_true_eq_false, not_false_eq_true, forall_const, true_implies, false_implies, implies_true, if_true, if_false, ite_true, ite_false, Bool.not_eq_true, Bool.not_eq_false, Bool.true_eq_false, Bool.false_eq_true, false_and, and_false, or_true, true_or, false_or, or_false, e1]
    exact hK I L h1 h2 h3 h4
  | succ n ih =>
    intro i hi I L h1 h2 h3 h4
    have e1 : I r1 0 = nI t.n := by rw [h1 _ (by omega) (by omega) (by omega)]; exact hT.1
    obtain ⟨q1, q2, q3, q4⟩ := hT.2 i (by omega)
    rw [← h1 _ (by omega) (by omega) (by omega)] at q1 q2 q3 q4
    obtain ⟨o1, o2, o3⟩ := ht.2 i (by omega)
    obtain ⟨⟨g1, g2, g3⟩, g4, g5⟩ := id h4
    have l1 := Tel.ok_la1 (Tel.cut_ok ht (i := i) (by omega))
    have l2 := Tel.ok_la2 (Tel.cut_ok ht (i := i) (by omega))
    have am := fun s d p => Tel.amt_le (t := t.cut i) (show i ≤ 30 by omega) s d p
    refine v_Given_set_71 ?_
    by_cases c : t.so i = 2
    · obtain ⟨w1, w2, w3⟩ := o3 c
      unfold Tel.ci at q4
      rw [if_pos c] at q4
      simp (disch := first | omega | assumption) only [n_lit, n_gLt, n_gLe, n_gEq, n_gEq2, n_gLe2, n_gLt2, n_m1, n_add, n_mul, n_lt, n_le, n_eq, n_cl, n_in, n_rem, n_mlt, n_mle, n_ltm, n_lem, n_eqm, n_meq, n_bit, n_shl, n_b0, n_b1, n_sub, n_inT, nT, nF, lT, lF, eT, eF, not_false_eq_true, not_true_eq_false, sI_at, sI_c, sI_j, aI_at, aI_c, sL_at, sL_c, sL_j, true_and, and_true, not_true_eq_false, not_false_eq_true, forall_const, true_implies, false_implies, implies_true, if_true, if_false, ite_true, ite_false, Bool.not_eq_true, Bool.not_eq_false, Bool.true_eq_false, Bool.false_eq_true, false_and, and_false, or_true, true_or, false_or, or_false, e1, q1, q2, q3, q4, c]
      refine c_raise h0 w1 w3 g1 g2 g3 l1 l2 (by omega) (fun L' f1 f2 => ?_)
      refine ih (i + 1) (by omega) _ L' (fun a c1 c2 c3 => by rw [sI_c c1, sI_c c1, h1 a c1 c2 c3]) (fun j c1 c2 => by rw [sI_j c1, sI_j c2, h2 j c1 c2]) (fun a ha => by rw [f1 a ha, h3 a ha]) ⟨⟨?_, ?_, ?_⟩, fun d hd p hp => ⟨?_, ?_⟩, fun d hd k hk => ?_⟩
      · rw [sI_j (by decide), sI_j (by decide)]; exact g1
      · rw [sI_at, la1_s, if_pos c]
      · rw [sI_j (by decide), sI_at, la2_s, if_pos c]
      · rw [sI_c (by decide), sI_c (by decide), (g4 d hd p hp).1, amt_s, if_neg (by omega), Nat.add_zero]
      · rw [sI_c (by decide), sI_c (by decide), (g4 d hd p hp).2, amt_s, if_neg (by omega), Nat.add_zero]
      · rw [f2 d hd k hk, g5 d hd k hk, wall_s]
        by_cases c9 : k < m0
        · rw [decide_eq_true c9, Bool.and_true, Bool.and_true]
          congr 1
          exact decide_eq_decide.mpr ⟨fun q => by omega, fun q => by omega⟩
        · rw [decide_eq_false c9, Bool.and_false, Bool.and_false, decide_eq_false (by omega), Bool.or_false]
    · obtain ⟨w1, w2⟩ := o2 (by omega)
      simp (disch := first | omega | assumption) only [n_lit, n_gLt, n_gLe, n_gEq, n_gEq2, n_gLe2, n_gLt2, n_m1, n_add, n_mul, n_lt, n_le, n_eq, n_cl, n_in, n_rem, n_mlt, n_mle, n_ltm, n_lem, n_eqm, n_meq, n_bit, n_shl, n_b0, n_b1, n_sub, n_inT, nT, nF, lT, lF, eT, eF, not_false_eq_true, not_true_eq_false, sI_at, sI_c, sI_j, aI_at, aI_c, sL_at, sL_c, sL_j, true_and, and_true, not_true_eq_false, not_false_eq_true, forall_const, true_implies, false_implies, implies_true, if_true, if_false, ite_true, ite_false, Bool.not_eq_true, Bool.not_eq_false, Bool.true_eq_false, Bool.false_eq_true, false_and, and_false, or_true, true_or, false_or, or_false, e1, q1, q2, q3, c]
      have hx : I (162 + t.so i) (t.a i * 16 + t.b i) = nI ((t.cut i).amt (t.so i) (t.a i) (t.b i)) := by
        rcases (by omega : t.so i = 0 ∨ t.so i = 1) with e | e
        · rw [e]; exact (g4 (t.a i) (by omega) (t.b i) (by omega)).1
        · rw [e]; exact (g4 (t.a i) (by omega) (t.b i) (by omega)).2
      refine c_tell (by omega) w1 w2 g2 l1 hx ?_
      have hc : ∀ s, s ≤ 1 → ∀ d, d < 100 → ∀ p, p < 16 → sI (sI I (162 + t.so i) (t.a i * 16 + t.b i) (nI ((t.cut i).amt (t.so i) (t.a i) (t.b i) + 9))) 161 4 (nI (if (t.cut i).la1 < t.a i then t.a i else (t.cut i).la1)) (162 + s) (d * 16 + p) = nI ((t.cut (i + 1)).amt s d p) := by
        intro s hs d hd p hp
        rw [sI_c (by omega), amt_s]
        have hI : I (162 + s) (d * 16 + p) = nI ((t.cut i).amt s d p) := by
          rcases (by omega : s = 0 ∨ s = 1) with e | e
          · rw [e]; exact (g4 d hd p hp).1
          · rw [e]; exact (g4 d hd p hp).2
        by_cases c1 : t.so i = s
        · rw [c1]
          by_cases c2 : t.a i = d ∧ t.b i = p
          · rw [c2.1, c2.2, sI_at, if_pos ⟨rfl, rfl, rfl⟩]
          · rw [sI_j (by omega), hI, if_neg (fun q => c2 q.2), Nat.add_zero]
        · rw [sI_c (by omega), hI, if_neg (fun q => c1 q.1), Nat.add_zero]
      refine ih (i + 1) (by omega) _ L (fun a c1 c2 c3 => by rw [sI_c c1, sI_c (by omega), h1 a c1 c2 c3]) (fun j c1 c2 => by rw [sI_j c1, sI_c (by omega), h2 j c1 c2]) h3 ⟨⟨?_, ?_, ?_⟩, fun d hd p hp => ⟨hc 0 (by decide) d hd p hp, hc 1 (by decide) d hd p hp⟩, fun d hd k hk => ?_⟩
      · rw [sI_j (by decide), sI_c (by omega)]; exact g1
      · rw [sI_at, la1_s, if_neg c]
      · rw [sI_j (by decide), sI_c (by omega), la2_s, if_neg c, if_neg (by omega)]; exact g3
      · rw [g5 d hd k hk, wall_s, decide_eq_false (p := t.so i = 2 ∧ _) (fun q => c q.1), Bool.or_false]
def telN : Tel := (0, fun _ => 0, fun _ => 0, fun _ => 0, fun _ => 0)
theorem telN_ok : telN.ok := ⟨by decide, fun k hk => absurd hk (Nat.not_lt_zero _)⟩
/-- what Given.set leaves -/
def setQ (m0 : Nat) (t : Tel) (I I' : MI) (L L' : ML) : Prop := (∀ a, a ≠ 161 → a ≠ 162 → a ≠ 163 → I' a = I a) ∧ (∀ a, a ≠ 161 → a ≠ 164 → L' a = L a) ∧ givP m0 t I' L' ∧ wiP wi0 I' L'
theorem b_0' (p : Nat) : bt (0 : Int32) p = false := b_0 p
theorem set_pre {m0 : Nat} {t : Tel} {I I3 : MI} {L L3 : ML} (f1 : ∀ a, a ≠ 162 → a ≠ 163 → I3 a = I a) (z1 : ∀ j, j < 1600 → I3 162 j = nI 0) (z2 : ∀ j, j < 1600 → I3 163 j = nI 0) (f3 : ∀ a, a ≠ 164 → L3 a = L a) (z3 : ∀ j, j < 100 → L3 164 j = 0) : setQ m0 (t.cut 0) I (sI (sI (sI (sI (sI (sI (sI I3 161 3 (nI m0)) 161 4 (nI 0)) 161 5 (nI 0)) 161 6 (nI 0)) 161 7 (nI 0)) 161 8 (nI 0)) 161 11 (nI 0)) L (sL (sL L3 161 12 (0 : Int64)) 161 13 (0 : Int64)) := by
  refine ⟨fun a c1 c2 c3 => ?_, fun a c1 c2 => ?_, ⟨⟨?_, ?_, ?_⟩, fun d hd p hp => ⟨?_, ?_⟩, fun d hd k hk => ?_⟩, ?_, fun p hp => ?_, fun p hp => ?_, fun h => ?_, fun p hp => ?_, fun k hk => ?_, fun k hk => ?_, fun h => ?_⟩
  · simp (disch := first | omega | assumption) only [sI_at, sI_c, sI_j, aI_at, aI_c, sL_at, sL_c, sL_j, f1 a c2 c3]
  · simp (disch := first | omega | assumption) only [sI_at, sI_c, sI_j, aI_at, aI_c, sL_at, sL_c, sL_j, f3 a c2]
  · simp (disch := first | omega | assumption) only [sI_at, sI_c, sI_j, aI_at, aI_c, sL_at, sL_c, sL_j]
  · simp (disch := first | omega | assumption) only [sI_at, sI_c, sI_j, aI_at, aI_c, sL_at, sL_c, sL_j]
    rfl
  · simp (disch := first | omega | assumption) only [sI_at, sI_c, sI_j, aI_at, aI_c, sL_at, sL_c, sL_j]
    rfl
  · simp (disch := first | omega | assumption) only [sI_at, sI_c, sI_j, aI_at, aI_c, sL_at, sL_c, sL_j]
    exact z1 _ (by omega)
  · simp (disch := first | omega | assumption) only [sI_at, sI_c, sI_j, aI_at, aI_c, sL_at, sL_c, sL_j]
    exact z2 _ (by omega)
  · simp (disch := first | omega | assumption) only [sI_at, sI_c, sI_j, aI_at, aI_c, sL_at, sL_c, sL_j]
    rw [z3 d hd, l_0]
    rfl
  · simp (disch := first | omega | assumption) only [sI_at, sI_c, sI_j, aI_at, aI_c, sL_at, sL_c, sL_j]
    rfl
  · simp (disch := first | omega | assumption) only [sI_at, sI_c, sI_j, aI_at, aI_c, sL_at, sL_c, sL_j]
    exact b_0 p
  · simp (disch := first | omega | assumption) only [sI_at, sI_c, sI_j, aI_at, aI_c, sL_at, sL_c, sL_j]
    exact b_0 p
  · cases h
  · simp (disch := first | omega | assumption) only [sI_at, sI_c, sI_j, aI_at, aI_c, sL_at, sL_c, sL_j]
    exact b_0 p
  · simp (disch := first | omega | assumption) only [sI_at, sI_c, sI_j, aI_at, aI_c, sL_at, sL_c, sL_j]
    exact l_0 k
  · simp (disch := first | omega | assumption) only [sI_at, sI_c, sI_j, aI_at, aI_c, sL_at, sL_c, sL_j]
    exact l_0 k
  · cases h
theorem c_set {m0 r1 : Nat} {t : Tel} (h0 : m0 ≤ 41) (ht : t.ok) (hr : r1 + 4 < 161) {b : Bool} {I : MI} {L : ML} {K : Bool → MI → ML → Prop} (hT : telC r1 t I) (hK : ∀ I' L', setQ m0 t I I' L L' → K b I' L') : CV m_Given_set [vr 12 161, vr 18 r1, vi (nI m0)] b I L K := by
  refine v_Given_set_0 (c_fillA (fun I1 f1 z1 => c_fillA (fun I2 f2 z2 => c_fillL (fun L3 f3 z3 => ⟨Or.inl rfl, ?_⟩))))
  obtain ⟨s1, s2, s3, s4⟩ := set_pre (m0 := m0) (t := t) (I := I) (L := L) (I3 := I2) (L3 := L3) (fun a c1 c2 => by rw [f2 a c2, f1 a c1]) (fun j hj => by rw [f2 162 (by decide)]; exact z1 j hj) z2 f3 z3
  refine set_l (t := t) h0 ht hr (b := b) (telC_fr (fun a c1 c2 => s1 a (by omega) (by omega) (by omega)) hT) (fun I' L' h1 h2 h3 h4 => hK I' L' ⟨fun a c1 c2 c3 => (h1 a c1 c2 c3).trans (s1 a c1 c2 c3), fun a c1 c2 => (h3 a c2).trans (s2 a c1 c2), h4, ?_⟩) t.n 0 (by omega) _ _ (fun _ _ _ _ => rfl) (fun _ _ _ => rfl) (fun _ _ => rfl) s3
  obtain ⟨w1, w2, w3, w4, w5, w6, w7, w8⟩ := s4
  have e161 : L' 161 = _ := h3 161 (by decide)
  unfold wiP
  rw [h2 6 (by decide) (by decide), h2 7 (by decide) (by decide), h2 8 (by decide) (by decide), h2 9 (by decide) (by decide), h2 10 (by decide) (by decide), h2 11 (by decide) (by decide), h2 14 (by decide) (by decide), e161]
  exact ⟨w1, w2, w3, w4, w5, w6, w7, w8⟩
theorem c_setN {m0 : Nat} {b : Bool} {I : MI} {L : ML} {K : Bool → MI → ML → Prop} (hK : ∀ I' L', setQ m0 telN I I' L L' → K b I' L') : CV m_Given_set [vr 12 161, vr 0 0, vi (nI m0)] b I L K := by
  refine v_Given_setN_0 (c_fillA (fun I1 f1 z1 => c_fillA (fun I2 f2 z2 => c_fillL (fun L3 f3 z3 => ⟨Or.inl rfl, v_Given_setN_71 ⟨fun _ => ?_, fun q => absurd rfl q⟩⟩))))
  exact hK _ _ (set_pre (m0 := m0) (t := telN) (I := I) (L := L) (I3 := I2) (L3 := L3) (fun a c1 c2 => by rw [f2 a c2, f1 a c1]) (fun j hj => by rw [f2 162 (by decide)]; exact z1 j hj) z2 f3 z3)
