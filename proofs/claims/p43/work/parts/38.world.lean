/-! A WORLD in the class's cells; rows of days; what comes -/
def WL (w : Wd) (I : MI) (L : ML) : Prop := ∃ v m0 t x, w = mkW v m0 t x ∧ v.ok 41 ∧ t.ok ∧ x.ok ∧ lifeP v m0 t x I L
theorem WL.vil {w : Wd} {I : MI} {L : ML} (h : WL w I L) : vilC 154 w.v I ∧ w.v.ok 41 := by
  obtain ⟨v, m0, t, x, rfl, h1, h2, h3, h4⟩ := h
  exact ⟨h4.1, h1⟩
theorem WL.la {w : Wd} {I : MI} {L : ML} (h : WL w I L) : w.la ≤ 200 := by
  obtain ⟨v, m0, t, x, rfl, h1, h2, h3, h4⟩ := h
  exact laW_le h2 h3
theorem amt_late {t : Tel} (h : t.ok) {s d p : Nat} (hs : s ≤ 1) (hd : t.la1 < d) : t.amt s d p = 0 := by
  unfold Tel.amt
  refine (sumN_cong (g := fun _ => 0) (fun i hi => ?_)).trans (sumN_zero _)
  rw [if_neg]
  rintro ⟨h1, h2, -⟩
  have := le_maxN (f := fun a => if t.so a = 2 then t.c a else t.a a) hi
  rw [if_neg (by omega)] at this
  unfold Tel.la1 at hd
  omega
theorem laW_1 {t : Tel} {x : Wi} (h : x.al = false) : t.la1 ≤ laW t x := by
  unfold laW
  simp only [h, Bool.false_eq_true, if_false]
  repeat' split
  all_goals omega
theorem laW_2 {t : Tel} {x : Wi} (h : anyN 32 x.dn = true) : x.dt ≤ laW t x := by
  unfold laW
  simp only [h, if_true]
  repeat' split
  all_goals omega
theorem laW_3 {t : Tel} {x : Wi} (h : anyN 64 x.ba = true) : x.bf ≤ laW t x := by
  unfold laW
  simp only [h, if_true]
  repeat' split
  all_goals omega
theorem amW_late {t : Tel} {x : Wi} (h : t.ok) {s d p : Nat} (hs : s ≤ 1) (hp : p < 32) (hd : laW t x < d) : amW t x s d p = 0 := by
  unfold amW
  have h2 : ¬ ((s = 1 ∧ x.df ≤ d ∧ d ≤ x.dt) ∧ x.dn p = true) := by
    rintro ⟨⟨-, -, h1⟩, h2⟩
    have := laW_2 (t := t) (anyN_iff.mpr ⟨p, hp, h2⟩)
    omega
  rw [if_neg h2, Nat.add_zero]
  cases hal : x.al with
  | true => rw [if_pos rfl, if_neg (by omega)]
  | false =>
    have := laW_1 (t := t) hal
    rw [if_neg (by simp), amt_late h hs (by omega)]
theorem WL.late {w : Wd} {I : MI} {L : ML} (h : WL w I L) {s d p : Nat} (hs : s ≤ 1) (hp : p < 32) (hd : w.la < d) : w.am s d p = 0 := by
  obtain ⟨v, m0, t, x, rfl, h1, h2, h3, h4⟩ := h
  exact amW_late h2 hs hp hd
theorem WL.amle {w : Wd} {I : MI} {L : ML} (h : WL w I L) (s d p : Nat) : w.am s d p ≤ 300 := by
  obtain ⟨v, m0, t, x, rfl, h1, h2, h3, h4⟩ := h
  have := amW_out (t := t) (x := x) s d p
  have := Tel.amt_le h2.1 s d p
  show amW t x s d p ≤ 300
  omega
theorem cw_amount {w : Wd} {s d p : Nat} {b : Bool} {I : MI} {L : ML} {K : Int32 → Bool → MI → ML → Prop} (h : WL w I L) (hs : s ≤ 1) (hd : d ≤ 200) (hp : p < 16) (hK : K (nI (w.am s d p)) b I L) : CI m_Given_amount [vr 12 161, vi (nI d), vi (nI p), vi (nI s)] b I L K := by
  obtain ⟨v, m0, t, x, rfl, h1, h2, h3, h4⟩ := h
  exact c_amount h2 h3 h4.2.1 h4.2.2 hs hd hp hK
theorem cw_openOn {w : Wd} {d : Nat} {b : Bool} {I : MI} {L : ML} {K : Int64 → Bool → MI → ML → Prop} (h : WL w I L) (hd : d ≤ 200) (hK : ∀ y : Int64, (∀ k, k < 64 → bl y k = w.op d k) → K y b I L) : CL m_Given_openOn [vr 12 161, vi (nI d)] b I L K := by
  obtain ⟨v, m0, t, x, rfl, h1, h2, h3, h4⟩ := h
  exact c_openOn h2 h3 h4.2.1 h4.2.2 hd hK
theorem cw_lastDay {w : Wd} {b : Bool} {I : MI} {L : ML} {K : Int32 → Bool → MI → ML → Prop} (h : WL w I L) (hK : K (nI w.la) b I L) : CI m_Given_lastDay [vr 12 161] b I L K := by
  obtain ⟨v, m0, t, x, rfl, h1, h2, h3, h4⟩ := h
  exact c_lastDay h2 h3 h4.2.1 h4.2.2 hK
theorem cw_silent {w : Wd} {p : Nat} {b : Bool} {I : MI} {L : ML} {K : Int32 → Bool → MI → ML → Prop} (h : WL w I L) (hp : p < 16) (hK : K (nI (w.si p).toNat) b I L) : CI m_Given_isSilent [vr 12 161, vi (nI p)] b I L K := by
  obtain ⟨v, m0, t, x, rfl, h1, h2, h3, h4⟩ := h
  have e := h4.2.2.2.2.2.2.1 p (by omega)
  have hK : K (nI (x.si p).toNat) b I L := hK
  refine v_Given_isSilent_0 ?_
  cases hsi : x.si p with
  | true =>
    rw [hsi] at e hK
    simp (disch := first | omega | assumption) only [n_lit, n_gLt, n_gLe, n_gEq, n_gEq2, n_gLe2, n_gLt2, n_m1, n_add, n_mul, n_lt, n_le, n_eq, n_cl, n_in, n_rem, n_mlt, n_mle, n_ltm, n_lem, n_eqm, n_meq, n_bit, n_shl, n_b0, n_b1, n_sub, n_inT, nT, nF, lT, lF, eT, eF, not_false_eq_true, not_true_eq_false, sI_at, sI_c, sI_j, aI_at, aI_c, sL_at, sL_c, sL_j, true_and, and_true, not_true_eq_false, not_false_eq_true, forall_const, true_implies, false_implies, implies_true, if_true, if_false, ite_true, ite_false, Bool.not_eq_true, Bool.not_eq_false, Bool.true_eq_false, Bool.false_eq_true, false_and, and_false, or_true, true_or, false_or, or_false, e]
    exact hK
  | false =>
    rw [hsi] at e hK
    simp (disch := first | omega | assumption) only [n_lit, n_gLt, n_gLe, n_gEq, n_gEq2, n_gLe2, n_gLt2, n_m1, n_add, n_mul, n_lt, n_le, n_eq, n_cl, n_in, n_rem, n_mlt, n_mle, n_ltm, n_lem, n_eqm, n_meq, n_bit, n_shl, n_b0, n_b1, n_sub, n_inT, nT, nF, lT, lF, eT, eF, not_false_eq_true, not_true_eq_false, sI_at, sI_c, sI_j, aI_at, aI_c, sL_at, sL_c, sL_j, true_and, and_true, not_true_eq_false, not_false_eq_true, forall_const, true_implies, false_implies, implies_true, if_true, if_false, ite_true, ite_false, Bool.not_eq_true, Bool.not_eq_false, Bool.true_eq_false, Bool.false_eq_true, false_and, and_false, or_true, true_or, false_or, or_false, e]
    exact hK
theorem WL.fr {w : Wd} {I I' : MI} {L L' : ML} (h : WL w I L) (hI : ∀ a, 154 ≤ a → a < 164 → I' a = I a) (hL : ∀ a, a = 161 ∨ a = 164 → L' a = L a) : WL w I' L' := by
  obtain ⟨v, m0, t, x, e, h1, h2, h3, h4, h5, h6⟩ := h
  refine ⟨v, m0, t, x, e, h1, h2, h3, vilC_fr (fun a c1 c2 => hI a (by omega) (by omega)) h4, ?_, ?_⟩
  · unfold givP
    rw [hI 161 (by decide) (by decide), hI 162 (by decide) (by decide), hI 163 (by decide) (by decide), hL 164 (by decide)]
    exact h5
  · unfold wiP
    rw [hI 161 (by decide) (by decide), hL 161 (by decide)]
    exact h6
/-- the numbers of a state are small -/
theorem dl_le {w : Wd} (ok : w.v.ok 41) {s t : Nat} (hs : s < 2) (ht : t < w.v.m) : 1 ≤ w.v.dl s t ∧ w.v.dl s t ≤ 6 := by
  have h1 := (ok.2.2.2.2.2.2 t ht).2.2.2.1
  have h2 := ok.2.2.1
  unfold Vil.dl
  rcases (by omega : s = 0 ∨ s = 1) with rfl | rfl <;> omega
theorem cam_le {w : Wd} {I : MI} {L : ML} (h : WL w I L) {s : Nat} (hs : s < 2) (d p : Nat) : camS w d (stp w d) s p ≤ 700 := by
  have ok := h.vil.2
  rw [ca_hist w s p (fun t ht => (dl_le ok hs ht).1)]
  have h1 := h.amle s d p
  have h2 := ok.2.1
  have := sumN_le (f := fun t => if (w.v.to t = p ∧ w.v.dl s t ≤ d) ∧ went w s (d - w.v.dl s t) t = true then w.v.st t else 0) (c := 9) (n := w.v.m) (fun i hi => by
    show (if _ then w.v.st i else 0) ≤ 9
    have := (ok.2.2.2.2.2.2 i hi).2.2.2.2.2
    split <;> omega)
  omega
theorem cn_le (w : Wd) (s p : Nat) : ∀ d, (stt w d).cn s p ≤ d + 1
  | 0 => by
    show 0 + (if _ then 1 else 0) ≤ 1
    split <;> omega
  | d + 1 => by
    show (stt w d).cn s p + (if _ then 1 else 0) ≤ d + 1 + 1
    have := cn_le w s p d
    split <;> omega
theorem cnp_le (w : Wd) (s p d : Nat) : (stp w d).cn s p ≤ d := by
  cases d with
  | zero => exact Nat.le_refl 0
  | succ d => exact cn_le w s p d
/-- of MOST: who has a sum above 0 has the word, below 0 the denial -/
def mostOK (k : Nat) (h0 h1 : Bool) (z : Int) : Prop := (-99 ≤ z ∧ z ≤ 99) ∧ (k = 2 → (0 < z → h0 = true ∧ h1 = false) ∧ (z < 0 → h0 = false ∧ h1 = true))
theorem clampI_le (z : Int) : -99 ≤ clampI z ∧ clampI z ≤ 99 := by
  unfold clampI
  split
  · omega
  · split <;> omega
theorem takes_most {k : Nat} {h0 h1 : Bool} {z : Int} {a c : Nat} (h : -99 ≤ z ∧ z ≤ 99) : mostOK k (takes k h0 h1 z a c).1 (takes k h0 h1 z a c).2.1 (takes k h0 h1 z a c).2.2 := by
  have hc := clampI_le (z + a - c)
  unfold takes
  by_cases h2 : k = 2
  · subst h2
    rw [if_neg (by decide), if_pos rfl]
    split
    · exact ⟨hc, fun _ => ⟨fun _ => ⟨rfl, rfl⟩, fun q => by dsimp only at q; omega⟩⟩
    · split
      · exact ⟨hc, fun _ => ⟨fun q => by dsimp only at q; omega, fun _ => ⟨rfl, rfl⟩⟩⟩
      · exact ⟨hc, fun _ => ⟨fun q => by dsimp only at q; omega, fun q => by dsimp only at q; omega⟩⟩
  · rw [if_neg (c := k = 2) h2]
    repeat' split
    all_goals exact ⟨h, fun q => absurd q h2⟩
theorem most_stt (w : Wd) (p : Nat) : ∀ d, mostOK (w.v.kd p) ((stt w d).ha 0 p) ((stt w d).ha 1 p) ((stt w d).su p)
  | 0 => takes_most (by show (-99 : Int) ≤ 0 ∧ (0 : Int) ≤ 99; omega)
  | d + 1 => takes_most (most_stt w p d).1
theorem most_stp (w : Wd) (p d : Nat) : mostOK (w.v.kd p) ((stp w d).ha 0 p) ((stp w d).ha 1 p) ((stp w d).su p) := by
  cases d with
  | zero => exact ⟨by show (-99 : Int) ≤ 0 ∧ (0 : Int) ≤ 99; omega, fun _ => ⟨fun q => absurd q (by show ¬ (0 : Int) < 0; omega), fun q => absurd q (by show ¬ (0 : Int) < 0; omega)⟩⟩
  | succ d => exact most_stt w p d
