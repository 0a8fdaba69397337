/-! WHAT-IFS: how many hold in the end; a person silent -/
def rdN : Option (Nat × Nat) → Nat
  | none => 200
  | some r => r.1
def endN (w : Wd) : Nat := hdN w (rdN (rgU w 201))
theorem rd_le {w : Wd} : rdN (rgU w 201) ≤ 200 := by
  cases e : rgU w 201 with
  | none => exact Nat.le_refl 200
  | some r =>
    have := rgU_in e
    show r.1 ≤ 200
    omega
theorem endN_le (w : Wd) : endN w ≤ w.v.n := hdN_le _ _
theorem c_endHolders {w : Wd} {b : Bool} {I : MI} {L : ML} {K : Int32 → Bool → MI → ML → Prop} (W : WL w I L) (hK : ∀ I' L', (∀ a, a < 165 ∨ 181 ≤ a → I' a = I a) → (∀ a, a ≠ 169 → a ≠ 175 → a ≠ 179 → L' a = L a) → K (nI (endN w)) b I' L') : CI m_Search_endHolders [vr 15 181] b I L K := by
  have hn := W.vil.2.1.2
  refine v_Search_endHolders_0 ?_
  refine c_live (w := w) (s0 := 0) (U := 201) (by omega) (by omega) (Or.inr ⟨by omega, rfl⟩) (Or.inr rfl) W (fun e he => absurd he (Nat.not_lt_zero _)) (by omega) (fun N I2 L2 f2 l2 n1 n2 rows R _ _ hs => ?_)
  obtain ⟨s1, s2⟩ := hs rfl
  have r1 := (rgI_d R).1
  have kk := hK I2 L2 f2 l2
  unfold endN at kk
  rw [rgU_stop n2 s1] at kk
  refine v_Days_endHolders_0 ?_
  cases e : rgU w N with
  | none =>
    have := s1 e
    rw [e] at r1 kk
    have r1 : I2 165 4 = nM := r1
    have kk : K (nI (hdN w 200)) b I2 L2 := kk
    simp (disch := first | omega | assumption) only [n_lit, n_gLt, n_gLe, n_gEq, n_gEq2, n_gLe2, n_gLt2, n_m1, n_add, n_mul, n_lt, n_le, n_eq, n_cl, n_in, n_rem, n_mlt, n_mle, n_ltm, n_lem, n_eqm, n_meq, n_bit, n_shl, n_b0, n_b1, n_sub, n_inT, nT, nF, lT, lF, eT, eF, not_false_eq_true, not_true_eq_false, sI_at, sI_c, sI_j, aI_at, aI_c, sL_at, sL_c, sL_j, true_and, and_true, not_true_eq_false, not_false_eq_true, forall_const, true_implies, false_implies, implies_true, if_true, if_false, ite_true, ite_false, Bool.not_eq_true, Bool.not_eq_false, Bool.true_eq_false, Bool.false_eq_true, false_and, and_false, or_true, true_or, false_or, or_false, r1]
    exact c_holdersOn (by omega) hn (rows 200 (by omega)) (c_bitCount hn kk)
  | some r =>
    have hr := s2 r e
    have hr2 := rgU_in e
    rw [e] at r1 kk
    have r1 : I2 165 4 = nI r.1 := r1
    have kk : K (nI (hdN w r.1)) b I2 L2 := kk
    simp (disch := first | omega | assumption) only [n_lit, n_gLt, n_gLe, n_gEq, n_gEq2, n_gLe2, n_gLt2, n_m1, n_add, n_mul, n_lt, n_le, n_eq, n_cl, n_in, n_rem, n_mlt, n_mle, n_ltm, n_lem, n_eqm, n_meq, n_bit, n_shl, n_b0, n_b1, n_sub, n_inT, nT, nF, lT, lF, eT, eF, not_false_eq_true, not_true_eq_false, sI_at, sI_c, sI_j, aI_at, aI_c, sL_at, sL_c, sL_j, true_and, and_true, not_true_eq_false, not_false_eq_true, forall_const, true_implies, false_implies, implies_true, if_true, if_false, ite_true, ite_false, Bool.not_eq_true, Bool.not_eq_false, Bool.true_eq_false, Bool.false_eq_true, false_and, and_false, or_true, true_or, false_or, or_false, r1]
    exact c_holdersOn (by omega) hn (rows r.1 (by omega)) (c_bitCount hn kk)
def siX (f : Nat → Bool) : Wi := mkX false (fun _ => false) (fun _ => false) 0 0 f (fun _ => false) (fun _ => false) 0
theorem siX_ok (f : Nat → Bool) : (siX f).ok := wi0_ok
theorem siX_0 : siX (fun _ => false) = wi0 := rfl
/-- a village and a telling in the class's cells, under a what-if -/
def lif (B : Bk) (a1 a2 : Int32) (x : Wi) (I : MI) (L : ML) : Prop := lifeP (B.vl a1.toNatClampNeg) (B.vl a1.toNatClampNeg).m (B.tlOf a2) x I L
def Bk.wx (B : Bk) (a1 a2 : Int32) (x : Wi) : Wd := mkW (B.vl a1.toNatClampNeg) (B.vl a1.toNatClampNeg).m (B.tlOf a2) x
theorem lif_W {B : Bk} {a1 a2 : Int32} {x : Wi} {I : MI} {L : ML} (ok : B.ok) (g : tkB B a1 a2 = true) (hx : x.ok) (h : lif B a1 a2 x I L) : WL (B.wx a1 a2 x) I L := by
  obtain ⟨k, hk, rfl, ek, hv, ht⟩ := tk_in ok g
  unfold lif at h
  unfold Bk.wx
  rw [ek] at h ⊢
  exact ⟨_, _, _, _, rfl, ok41 hv, ht, hx, h⟩
theorem givP_fr {m0 : Nat} {t : Tel} {I I' : MI} {L L' : ML} (h1 : ∀ j, j < 6 → I' 161 j = I 161 j) (h2 : I' 162 = I 162) (h3 : I' 163 = I 163) (h4 : L' 164 = L 164) (h : givP m0 t I L) : givP m0 t I' L' := by
  unfold givP at h ⊢
  rw [h1 3 (by omega), h1 4 (by omega), h1 5 (by omega), h2, h3, h4]
  exact h
theorem lif_fr {B : Bk} {a1 a2 : Int32} {x : Wi} {I I' : MI} {L L' : ML} (h1 : ∀ a, 154 ≤ a → a < 165 → I' a = I a) (h2 : ∀ a, a = 161 ∨ a = 164 → L' a = L a) (h : lif B a1 a2 x I L) : lif B a1 a2 x I' L' := by
  obtain ⟨g1, g2, g3⟩ := h
  refine ⟨vilC_fr (fun a q1 q2 => h1 a (by omega) (by omega)) g1, givP_fr (fun j _ => by rw [h1 161 (by omega) (by omega)]) (h1 162 (by omega) (by omega)) (h1 163 (by omega) (by omega)) (h2 164 (by omega)) g2, ?_⟩
  unfold wiP at g3 ⊢
  rw [h1 161 (by omega) (by omega), h2 161 (by omega)]
  exact g3
theorem lif_si {B : Bk} {a1 a2 : Int32} {f g : Nat → Bool} {I : MI} {L : ML} {m : Int32} (hm : ∀ p, p < 32 → bt m p = g p) (h : lif B a1 a2 (siX f) I L) : lif B a1 a2 (siX g) (sI I 161 11 m) L := by
  obtain ⟨g1, g2, g3⟩ := h
  refine ⟨vilC_fr (fun a q1 q2 => sI_c (by omega)) g1, givP_fr (fun j hj => sI_j (by omega)) (sI_c (by omega)) (sI_c (by omega)) rfl g2, ?_⟩
  unfold wiP at g3 ⊢
  obtain ⟨z1, z2, z3, z4, z5, z6, z7, z8⟩ := g3
  refine ⟨?_, ?_, ?_, ?_, ?_, z6, z7, ?_⟩
  · rw [sI_j (by omega)]
    exact z1
  · rw [sI_j (by omega)]
    exact z2
  · rw [sI_j (by omega)]
    exact z3
  · rw [sI_j (by omega), sI_j (by omega)]
    exact z4
  · rw [sI_at]
    exact hm
  · rw [sI_j (by omega)]
    exact z8
