/-! TEXTS: the reference's steps of a line -/
theorem cl0 : ((0 : Int32)).toNatClampNeg = 0 := n_cl (a := 0) (by omega)
theorem cl1 : ((1 : Int32)).toNatClampNeg = 1 := n_cl (a := 1) (by omega)
theorem cl2 : ((2 : Int32)).toNatClampNeg = 2 := n_cl (a := 2) (by omega)
theorem cl3 : ((3 : Int32)).toNatClampNeg = 3 := n_cl (a := 3) (by omega)
theorem cl4 : ((4 : Int32)).toNatClampNeg = 4 := n_cl (a := 4) (by omega)
theorem vpN {k m : Nat} (h : k < m) (hk : k < 2147483648) : vp_in (nI k) m := by
  rw [n_in hk]
  exact h
theorem vp3A : vp_in (3 : Int32) 5504 := vpN (k := 3) (by omega) (by omega)
theorem vp4A : vp_in (4 : Int32) 5504 := vpN (k := 4) (by omega) (by omega)
theorem tk_le (y : Nat → Nat) (n w : Nat) : tkM y n w ≤ 4 := by
  unfold tkM
  repeat' split
  all_goals omega
theorem tkq_0 {y : Nat → Nat} {n w : Nat} : tkM y n w = 0 ↔ kin y n w = 0 := by
  unfold tkM
  have := kin_le y n w
  rcases (by omega : kin y n w = 0 ∨ kin y n w = 1 ∨ kin y n w = 2 ∨ kin y n w = 3 ∨ kin y n w = 4) with e | e | e | e | e <;> rw [e] <;> simp
  split <;> simp
theorem tkq_1 {y : Nat → Nat} {n w : Nat} : tkM y n w = 1 ↔ kin y n w = 2 := by
  unfold tkM
  have := kin_le y n w
  rcases (by omega : kin y n w = 0 ∨ kin y n w = 1 ∨ kin y n w = 2 ∨ kin y n w = 3 ∨ kin y n w = 4) with e | e | e | e | e <;> rw [e] <;> simp
  split <;> simp
theorem tkq_2 {y : Nat → Nat} {n w : Nat} : tkM y n w = 2 ↔ kin y n w = 3 := by
  unfold tkM
  have := kin_le y n w
  rcases (by omega : kin y n w = 0 ∨ kin y n w = 1 ∨ kin y n w = 2 ∨ kin y n w = 3 ∨ kin y n w = 4) with e | e | e | e | e <;> rw [e] <;> simp
  split <;> simp
theorem tkq_3 {y : Nat → Nat} {n w : Nat} : tkM y n w = 3 ↔ kin y n w = 1 ∧ wrd y n w ≠ none := by
  unfold tkM
  have := kin_le y n w
  rcases (by omega : kin y n w = 0 ∨ kin y n w = 1 ∨ kin y n w = 2 ∨ kin y n w = 3 ∨ kin y n w = 4) with e | e | e | e | e <;> rw [e] <;> simp
  cases wrd y n w <;> simp
/-- what a step changes: the tokens, the fault (q = 9: the greatest; r = 189: what is read) -/
def lfr (q r : Nat) (I I' : MI) : Prop := (∀ a, a ≠ 186 → a ≠ 187 → a ≠ r → I' a = I a) ∧ (∀ j, j ≠ 3 → j ≠ 4 → I' 187 j = I 187 j) ∧ ∀ j, j < 3 ∨ q < j → I' 186 j = I 186 j
theorem lfr.trans {q r : Nat} {I I' I'' : MI} (h : lfr q r I I') (k : lfr q r I' I'') : lfr q r I I'' := ⟨fun a a1 a2 a3 => (k.1 a a1 a2 a3).trans (h.1 a a1 a2 a3), fun j j1 j2 => (k.2.1 j j1 j2).trans (h.2.1 j j1 j2), fun j hj => (k.2.2 j hj).trans (h.2.2 j hj)⟩
theorem lfr_0 {q r : Nat} {I : MI} : lfr q r I I := ⟨fun _ _ _ _ => rfl, fun _ _ _ => rfl, fun _ _ => rfl⟩
theorem lfr.up {q r q' r' : Nat} {I I' : MI} (h : lfr q r I I') (hq : q ≤ q') (hr : r = r' ∨ r = 187) : lfr q' r' I I' := ⟨fun a a1 a2 a3 => h.1 a a1 a2 (by omega), h.2.1, fun j hj => h.2.2 j (by omega)⟩
theorem lfr_9 {I : MI} {v : Int32} : lfr 9 187 I (sI I 186 9 v) := ⟨fun a a1 a2 a3 => sI_c a1, fun j j1 j2 => by rw [sI_c (by omega)], fun j hj => sI_j (by omega)⟩
theorem lfr_r {I : MI} {j : Nat} {v : Int32} : lfr 9 189 I (sI I 189 j v) := ⟨fun a a1 a2 a3 => sI_c a3, fun j j1 j2 => by rw [sI_c (by omega)], fun j hj => by rw [sI_c (by omega)]⟩
theorem lfr_f {I : MI} {k p : Int32} : lfr 8 187 I (sI (sI I 187 3 k) 187 4 p) := ⟨fun a a1 a2 a3 => by rw [sI_c a2, sI_c a2], fun j j1 j2 => by rw [sI_j j2, sI_j j1], fun j hj => by rw [sI_c (by omega), sI_c (by omega)]⟩
theorem xfr.l {I I' : MI} (h : xfr I I') : lfr 8 187 I I' := ⟨fun a a1 _ _ => h.1 a a1, fun j _ _ => by rw [h.1 187 (by omega)], fun j hj => h.2 j (by omega) (by omega) (by omega) (by omega) (by omega)⟩
def LM (y : Nat → Nat) (n w : Nat) (S : Sm) (I : MI) : Prop := (PM y n I ∧ w ≤ n) ∧ RM y n w I ∧ (I 187 3 = nI S.fl ∧ I 187 4 = if S.fl = 0 then nM else nI S.pl) ∧ I 186 8 = nI (if S.fl = 1 then 1 else 0)
theorem PM.to {y : Nat → Nat} {n : Nat} {I I' : MI} (h : I' 186 2 = I 186 2) (k : ∀ j, 10 ≤ j → I' 187 j = I 187 j) (T : PM y n I) : PM y n I' := ⟨⟨h.trans T.1.1, T.1.2⟩, fun j hj => (k (10 + j) (by omega)).trans (T.2.1 j hj), T.2.2⟩
theorem RM.to {y : Nat → Nat} {n w : Nat} {I I' : MI} (h : ∀ j, 3 ≤ j → j ≤ 7 → I' 186 j = I 186 j) (R : RM y n w I) : RM y n w I' := by
  unfold RM
  rw [h 3 (by omega) (by omega), h 4 (by omega) (by omega), h 5 (by omega) (by omega), h 6 (by omega) (by omega), h 7 (by omega) (by omega)]
  exact R
theorem LM.fr {y : Nat → Nat} {n w : Nat} {S : Sm} {I I' : MI} (h : ∀ j, j ≤ 8 → I' 186 j = I 186 j) (k : I' 187 = I 187) (M : LM y n w S I) : LM y n w S I' := by
  obtain ⟨⟨m1, m2⟩, m3, ⟨m4, m5⟩, m6⟩ := M
  exact ⟨⟨m1.to (h 2 (by omega)) (fun j _ => by rw [k]), m2⟩, m3.to (fun j _ hj => h j (by omega)), ⟨by rw [k]; exact m4, by rw [k]; exact m5⟩, (h 8 (by omega)).trans m6⟩
theorem LM.r {y : Nat → Nat} {n w : Nat} {S : Sm} {I : MI} {j : Nat} {v : Int32} (M : LM y n w S I) : LM y n w S (sI I 189 j v) := M.fr (fun _ _ => by rw [sI_c (by omega)]) (sI_c (by omega))
theorem LM.g {y : Nat → Nat} {n w : Nat} {S : Sm} {I : MI} {v : Int32} (M : LM y n w S I) : LM y n w S (sI I 186 9 v) := M.fr (fun _ _ => sI_j (by omega)) (sI_c (by omega))
theorem LM.s {y : Nat → Nat} {n w : Nat} {S S' : Sm} {I : MI} (M : LM y n w S I) (h : S'.fl = S.fl) (k : S'.pl = S.pl) : LM y n w S' I := by
  unfold LM
  rw [h, k]
  exact M
theorem LM.e8 {y : Nat → Nat} {n w : Nat} {S : Sm} {I : MI} (M : LM y n w S I) (hf : S.fl ≠ 1) : I 186 8 = nI 0 := by rw [M.2.2.2, if_neg hf]
theorem LM.w8 {y : Nat → Nat} {n w : Nat} {S : Sm} {I : MI} (M : LM y n w S I) (hf : S.fl = 1) : I 186 8 = nI 1 := by rw [M.2.2.2, if_pos hf]
/-- a fault so far lies before -/
def bf (S : Sm) (c : Nat) : Prop := S.fl ≠ 0 → S.fl ≠ 1 → S.pl < c
theorem cm_ends {y : Nat → Nat} {n w : Nat} {S : Sm} {I : MI} {L : ML} (M : LM y n w S I) (hf : S.fl ≠ 1) {b : Bool} {K : Bool → MI → ML → Prop} (hK : ∀ I', lfr 8 187 I I' → LM y n w (sty w S) I' → K b I' L) : CV m_M_ends [vr 22 186] b I L K := by
  refine v_M_ends_0 ⟨fun _ => ⟨Or.inr rfl, vp3A, vp4A, ?_⟩, fun z => absurd (M.e8 hf) z⟩
  rw [cl3, cl4, M.2.1.2.1]
  refine hK _ ⟨fun a a1 a2 a3 => by rw [sI_c a2, sI_c a2, sI_c a1], fun j j1 j2 => by rw [sI_j j2, sI_j j1, sI_c (by omega)], fun j hj => by rw [sI_c (by omega), sI_c (by omega), sI_j (by omega)]⟩ ⟨⟨M.1.1.to (by rw [sI_c (by omega), sI_c (by omega), sI_j (by omega)]) (fun j hj => by rw [sI_j (by omega), sI_j (by omega), sI_c (by omega)]), M.1.2⟩, M.2.1.to (fun j h1 h2 => by rw [sI_c (by omega), sI_c (by omega), sI_j (by omega)]), ⟨?_, ?_⟩, ?_⟩
  · rw [sI_j (by omega), sI_at]
    rfl
  · rw [sI_at]
    rfl
  · rw [sI_c (by omega), sI_c (by omega), sI_at]
    rfl
theorem cm_endsW {I : MI} {L : ML} (e8 : I 186 8 = nI 1) {b : Bool} {K : Bool → MI → ML → Prop} (hK : K b I L) : CV m_M_ends [vr 22 186] b I L K := v_M_ends_0 ⟨fun z => absurd (e8.symm.trans z) (by decide), fun _ => hK⟩
theorem cm_also {y : Nat → Nat} {n w k p : Nat} {S : Sm} {I : MI} {L : ML} (M : LM y n w S I) (hf : S.fl ≠ 1) (hS : S.fl ≤ 4) (hb : bf S p) (hp : p ≤ 600) (hk : 2 ≤ k) {b : Bool} {K : Bool → MI → ML → Prop} (hK : ∀ I', lfr 8 187 I I' → LM y n w (blm k p S) I' → K b I' L) : CV m_M_also [vr 22 186, vi (nI k), vi (nI p)] b I L K := by
  refine v_M_also_0 ⟨fun z => absurd (M.e8 hf) z, fun _ => ⟨vp3A, ?_⟩⟩
  obtain ⟨⟨m1, m2⟩, m3, ⟨m4, m5⟩, m6⟩ := id M
  rw [cl3, cl4, m4]
  unfold blm at hK
  by_cases h0 : S.fl = 0
  · rw [if_pos h0] at hK
    rw [h0]
    refine ⟨fun _ => ⟨vp3A, vp4A, hK _ lfr_f ⟨⟨m1.to (by rw [sI_c (by omega), sI_c (by omega)]) (fun j hj => by rw [sI_j (by omega), sI_j (by omega)]), m2⟩, m3.to (fun j h1 h2 => by rw [sI_c (by omega), sI_c (by omega)]), ⟨?_, ?_⟩, ?_⟩⟩, fun z => absurd rfl z⟩
    · rw [sI_j (by omega), sI_at]
      rfl
    · rw [sI_at]
      exact (if_neg (show ¬ k = 0 by omega)).symm
    · rw [sI_c (by omega), sI_c (by omega), m6, if_neg hf]
      exact congrArg nI (if_neg (show ¬ k = 1 by omega)).symm
  · rw [if_neg h0] at hK
    have q := hb h0 hf
    rw [if_neg h0] at m5
    refine ⟨fun z => absurd z (by rw [show (0 : Int32) = nI 0 from rfl, n_eq (by omega) (by omega)]; exact h0), fun _ => ⟨vp4A, ?_⟩⟩
    rw [m5, n_lt (by omega) (by omega)]
    exact ⟨fun _ => hK I lfr_0 M, fun z => absurd q z⟩
theorem cm_adv {y : Nat → Nat} {n w : Nat} {S : Sm} {I : MI} {L : ML} (M : LM y n w S I) {b : Bool} {K : Bool → MI → ML → Prop} (hK : ∀ I', lfr 8 187 I I' → LM y n (adv y n w) S I' → K b I' L) : CV m_M_advance [vr 22 186] b I L K := by
  obtain ⟨⟨m1, m2⟩, m3, ⟨m4, m5⟩, m6⟩ := M
  refine cm_advance m1 (nxt_le (y := y) m2).2.1 m3.1 m3.2.2.2.2.2 (fun I' f r => hK I' f.l ⟨⟨f.pm m1, (adv_le (y := y) m2).2.1⟩, r, ⟨?_, ?_⟩, ?_⟩)
  · rw [f.1 187 (by omega)]
    exact m4
  · rw [f.1 187 (by omega)]
    exact m5
  · rw [f.2 8 (by omega) (by omega) (by omega) (by omega) (by omega)]
    exact m6
theorem cm_isInN {x lo hi : Nat} (hx : x < 2147483648) (hl : lo < 2147483648) (hh : hi < 2147483648) {b : Bool} {I : MI} {L : ML} {K : Int32 → Bool → MI → ML → Prop} (hy : lo ≤ x ∧ x ≤ hi → K (nI 1) b I L) (hf : ¬ (lo ≤ x ∧ x ≤ hi) → K (nI 0) b I L) : CI m_M_isIn [vi (nI x), vi (nI lo), vi (nI hi)] b I L K := by
  refine v_M_isIn_0 ?_
  rw [n_lt hx hl, n_lt hh hx]
  exact ⟨fun z => ⟨Or.inl rfl, hf (by omega)⟩, fun z => ⟨fun q => ⟨Or.inl rfl, hf (by omega)⟩, fun q => ⟨Or.inr rfl, hy (by omega)⟩⟩⟩
theorem bf_up {S : Sm} {c c' : Nat} (h : bf S c) (k : c ≤ c') : bf S c' := fun a b => Nat.lt_of_lt_of_le (h a b) k
theorem blm_bf {k w c : Nat} {S : Sm} (h : bf S c) (hc : w < c) : bf (blm k w S) c := by
  unfold blm
  by_cases h0 : S.fl = 0
  · rw [if_pos h0]
    exact fun _ _ => hc
  · rw [if_neg h0]
    exact h
theorem blm_n1 {k w : Nat} {S : Sm} (hk : 2 ≤ k) (h : S.fl ≠ 1) : (blm k w S).fl ≠ 1 := by
  unfold blm
  by_cases h0 : S.fl = 0
  · rw [if_pos h0]
    exact show k ≠ 1 by omega
  · rw [if_neg h0]
    exact h
theorem accW_0 {i a x w : Nat} {S : Sm} (h : S.fl = 0) (k : mayW i a x S.nb = true) : (accW i a x w S).fl = 0 ∧ (accW i a x w S).pl = S.pl ∧ (accW i a x w S).gr = (if isPW i a = true then (if S.gr < x then x else S.gr) else S.gr) ∧ (accW i a x w S).vv = (if isKW i = true then setKd S.vv x (i - 1) else S.vv) ∧ (accW i a x w S).tt = S.tt ∧ (accW i a x w S).nb = (fun j => if j = a then x else S.nb j) := by
  unfold accW
  rw [if_pos h, if_pos k]
  exact ⟨rfl, rfl, rfl, rfl, rfl, rfl⟩
theorem accW_1 {i a x w : Nat} {S : Sm} (h : S.fl = 0) (k : mayW i a x S.nb = false) : accW i a x w S = blm 2 w S := by
  unfold accW
  rw [if_pos h, if_neg (by rw [k]; exact Bool.false_ne_true)]
theorem accW_2 {i a x w : Nat} {S : Sm} (h : S.fl ≠ 0) : accW i a x w S = S := if_neg h
theorem accW_bf {i a x w : Nat} {S : Sm} (h1 : S.fl ≠ 1) (h : bf S (w + 1)) : (accW i a x w S).fl ≠ 1 ∧ bf (accW i a x w S) (w + 1) := by
  by_cases h0 : S.fl = 0
  · cases c : mayW i a x S.nb with
    | true =>
      obtain ⟨q1, q2, -⟩ := accW_0 (w := w) h0 c
      exact ⟨by rw [q1]; decide, fun z => absurd q1 z⟩
    | false =>
      rw [accW_1 h0 c]
      exact ⟨blm_n1 (by omega) h1, blm_bf h (by omega)⟩
  · rw [accW_2 h0]
    exact ⟨h1, h⟩
/-- a number of a line -/
theorem cm_num {y : Nat → Nat} {n w i a lo hi : Nat} {S : Sm} {I : MI} {L : ML} (M : LM y n w S I) (hS : S.fl ≤ 4) (hl : lo ≤ 99) (hh : hi ≤ 99) (hlh : lo ≤ hi) (hin : kin y n w = 2 → S.fl = 0 → (mayW i a (nmb y n w) S.nb = true ↔ lo ≤ nmb y n w ∧ nmb y n w ≤ hi)) (hb : ¬ (lo ≤ nmb y n w ∧ nmb y n w ≤ hi) → bf S w) {b : Bool} {K : Int32 → Bool → MI → ML → Prop} (h1 : S.fl ≠ 1 → kin y n w = 2 → ∀ I' v, lfr 8 187 I I' → LM y n (adv y n w) (accW i a (nmb y n w) w S) I' → lo ≤ v → v ≤ hi → ((lo ≤ nmb y n w ∧ nmb y n w ≤ hi) → v = nmb y n w) → K (nI v) b I' L) (h2 : S.fl ≠ 1 → kin y n w ≠ 2 → ∀ I', lfr 8 187 I I' → LM y n w (sty w S) I' → K (nI lo) b I' L) (h3 : S.fl = 1 → K (nI lo) b I L) : CI m_M_numbered [vr 22 186, vi (nI lo), vi (nI hi)] b I L K := by
  refine v_M_numbered_0 ?_
  have w6 := M.1.1.1.2
  have hw := M.1.2
  by_cases hf : S.fl = 1
  · have e8 := M.w8 hf
    exact ⟨fun _ => cm_endsW e8 (h3 hf), fun z => absurd (show ¬ I 186 8 = 0 by rw [e8]; decide) z⟩
  · have e5 := M.2.1.2.2.1
    have e4 := M.2.1.2.1
    refine ⟨fun z => absurd (M.e8 hf) z, fun _ => ?_⟩
    rw [e5, show (1 : Int32) = nI 1 from rfl, n_eq (by have := tk_le y n w; omega) (by omega), tkq_1]
    refine ⟨fun k2 => ?_, fun k2 => cm_ends M hf (h2 hf k2)⟩
    have hx := nmb_le k2
    rw [M.2.1.2.2.2.1 k2]
    have h1 := h1 hf k2
    by_cases c : lo ≤ nmb y n w ∧ nmb y n w ≤ hi
    · refine cm_isInN (by omega) (by omega) (by omega) (fun _ => ?_) (fun z => absurd c z)
      refine ⟨fun _ => cm_adv M (fun I1 f1 M1 => cm_isInN (by omega) (by omega) (by omega) (fun _ => ?_) (fun z => absurd c z)), fun z => absurd (by decide) z⟩
      refine ⟨fun z => absurd z (by decide), fun _ => h1 I1 _ f1 (M1.s ?_ ?_) c.1 c.2 (fun _ => rfl)⟩
      · by_cases h0 : S.fl = 0
        · rw [(accW_0 h0 ((hin k2 h0).mpr c)).1, h0]
        · rw [accW_2 h0]
      · by_cases h0 : S.fl = 0
        · rw [(accW_0 h0 ((hin k2 h0).mpr c)).2.1]
        · rw [accW_2 h0]
    · refine cm_isInN (by omega) (by omega) (by omega) (fun z => absurd z c) (fun _ => ?_)
      refine ⟨fun z => absurd rfl z, fun _ => ?_⟩
      rw [e4]
      refine cm_also (k := 2) M hf hS (hb c) (by omega) (by omega) (fun I1 f1 M1 => cm_adv M1 (fun I2 f2 M2 => cm_isInN (by omega) (by omega) (by omega) (fun z => absurd z c) (fun _ => ?_)))
      refine ⟨fun _ => h1 I2 _ (f1.trans f2) ?_ (Nat.le_refl _) hlh (fun z => absurd z c), fun z => absurd rfl z⟩
      by_cases h0 : S.fl = 0
      · rw [accW_1 h0 (by
          cases q : mayW i a (nmb y n w) S.nb with
          | true => exact absurd ((hin k2 h0).mp q) c
          | false => rfl)]
        exact M2
      · rw [accW_2 h0]
        unfold blm at M2
        rw [if_neg h0] at M2
        exact M2
theorem cm_person {y : Nat → Nat} {n w i a : Nat} {S : Sm} {I : MI} {L : ML} (M : LM y n w S I) (hS : SmI S) (hP : isPW i a = true) (hin : S.fl = 0 → (mayW i a (nmb y n w) S.nb = true ↔ nmb y n w ≤ 15)) (hb : ¬ nmb y n w ≤ 15 → bf S w) {b : Bool} {K : Int32 → Bool → MI → ML → Prop} (h1 : S.fl ≠ 1 → kin y n w = 2 → ∀ I' v, lfr 9 187 I I' → LM y n (adv y n w) (accW i a (nmb y n w) w S) I' → v ≤ 15 → (nmb y n w ≤ 15 → v = nmb y n w) → ((S.fl = 0 → I 186 9 = nI S.gr) → (accW i a (nmb y n w) w S).fl = 0 → v = nmb y n w ∧ I' 186 9 = nI (accW i a (nmb y n w) w S).gr) → K (nI v) b I' L) (h2 : S.fl ≠ 1 → kin y n w ≠ 2 → ∀ I', lfr 9 187 I I' → LM y n w (sty w S) I' → K (nI 0) b I' L) (h3 : S.fl = 1 → ∀ I', lfr 9 187 I I' → LM y n w S I' → K (nI 0) b I' L) : CI m_M_personTold [vr 22 186] b I L K := by
  refine v_M_personTold_0 (cm_num (i := i) (a := a) (lo := 0) (hi := 15) M hS.1 (by omega) (by omega) (by omega) (fun _ h0 => by rw [hin h0]; omega) (fun c => hb (by omega)) (fun hf k2 I1 v f1 M1 v0 v15 hv => ?_) (fun hf k2 I1 f1 M1 => ?_) (fun hf => ?_))
  · have g9 : I1 186 9 = I 186 9 := f1.2.2 9 (by omega)
    have key : (S.fl = 0 → I 186 9 = nI S.gr) → (accW i a (nmb y n w) w S).fl = 0 → (v = nmb y n w ∧ S.gr ≤ 15 ∧ I1 186 9 = nI S.gr) ∧ (accW i a (nmb y n w) w S).gr = if S.gr < nmb y n w then nmb y n w else S.gr := fun hg q => by
      have h0 : S.fl = 0 := by
        refine Decidable.byContradiction (fun z => ?_)
        rw [accW_2 z] at q
        exact z q
      have c : mayW i a (nmb y n w) S.nb = true := by
        cases c : mayW i a (nmb y n w) S.nb with
        | true => rfl
        | false =>
          rw [accW_1 h0 c] at q
          exact absurd q (blm_fl (by decide))
      refine ⟨⟨hv (by have := (hin h0).mp c; omega), (hS.2 h0).1, g9.trans (hg h0)⟩, ?_⟩
      rw [(accW_0 h0 c).2.2.1, if_pos hP]
    refine ⟨fun z => h1 hf k2 _ v ((f1.up (by omega) (Or.inl rfl)).trans lfr_9) M1.g v15 (fun c => hv (by omega)) (fun hg q => ?_), fun z => h1 hf k2 _ v ((f1.up (by omega) (Or.inl rfl)).trans lfr_9) M1.g v15 (fun c => hv (by omega)) (fun hg q => ?_)⟩
    · obtain ⟨⟨k1, k2, k3⟩, k4⟩ := key hg q
      rw [k3, n_le (by omega) (by omega)] at z
      refine ⟨k1, ?_⟩
      rw [sI_at, k3, k4, if_neg (by omega)]
    · obtain ⟨⟨k1, k2, k3⟩, k4⟩ := key hg q
      rw [k3, n_le (by omega) (by omega)] at z
      refine ⟨k1, ?_⟩
      rw [sI_at, k4, if_pos (by omega), k1]
  · exact ⟨fun z => h2 hf k2 _ ((f1.up (by omega) (Or.inl rfl)).trans lfr_9) M1.g, fun z => h2 hf k2 _ ((f1.up (by omega) (Or.inl rfl)).trans lfr_9) M1.g⟩
  · exact ⟨fun z => h3 hf _ lfr_9 M.g, fun z => h3 hf _ lfr_9 M.g⟩
/-- the word at a line's head -/
theorem cm_takes {y : Nat → Nat} {n w sort : Nat} {S : Sm} {I : MI} {L : ML} (M : LM y n w S I) (hf : S.fl ≠ 1) (hs : sort ≤ 1) {b : Bool} {K : Int32 → Bool → MI → ML → Prop} (h1 : ∀ i, wrdS y n sort w = some i → ∀ I', lfr 8 187 I I' → LM y n (adv y n w) S I' → K (nI (i + 1)) b I' L) (h2 : wrdS y n sort w = none → ∀ I', lfr 8 187 I I' → LM y n w (sty w S) I' → K (nI 0) b I' L) : CI m_M_takes [vr 22 186, vi (nI (if sort = 0 then 1 else 12)), vi (nI (if sort = 0 then 11 else 14))] b I L K := by
  refine v_M_takes_0 ⟨fun z => absurd (M.e8 hf) z, fun _ => ?_⟩
  have hlo : (if sort = 0 then 1 else 12) < 2147483648 := by split <;> omega
  have hhi : (if sort = 0 then 11 else 14) < 2147483648 := by split <;> omega
  rw [M.2.1.2.2.1, show (3 : Int32) = nI 3 from rfl, n_eq (by have := tk_le y n w; omega) (by omega), tkq_3]
  refine ⟨fun z => cm_ends M hf (h2 ?_), fun z => ?_⟩
  · unfold wrdS
    by_cases k1 : kin y n w = 1
    · have e : wrd y n w = none := Decidable.byContradiction (fun q => z ⟨k1, q⟩)
      have e2 := fstN_none.mp e
      rw [if_pos k1]
      by_cases s0 : sort = 0
      · rw [if_pos s0]
        exact fstN_none.mpr (fun j j1 j2 => e2 j (by omega) (by omega))
      · rw [if_neg s0]
        exact fstN_none.mpr (fun j j1 j2 => e2 j (by omega) (by omega))
    · exact if_neg k1
  · obtain ⟨k1, k2⟩ := Decidable.not_not.mp z
    obtain ⟨i, hi⟩ := Option.ne_none_iff_exists'.mp k2
    have e7 := M.2.1.2.2.2.2.1 k1
    rw [hi] at e7
    have e7 : I 186 7 = nI (i + 1) := e7
    have hi14 : i < 14 := by
      have := (fstN_some hi).1
      omega
    have iw := (wrd_iff hi14).mp hi
    rw [e7]
    have ws : ∀ j, wrdS y n sort w = some j → j = i := fun j hj => by
      obtain ⟨⟨q1, q2⟩, q3, q4⟩ := wrdS_some hj
      have := (wrd_iff q1).mpr q4
      rw [hi] at this
      injection this with this
      exact this.symm
    refine cm_isInN (by omega) hlo hhi (fun c => ?_) (fun c => ?_)
    · refine ⟨fun _ => cm_adv M (fun I1 f1 M1 => ?_), fun z => absurd (by decide) z⟩
      rw [e7]
      refine h1 i ?_ I1 f1 M1
      cases q : wrdS y n sort w with
      | some j => rw [ws j q]
      | none =>
        have q2 := wrdS_none q k1 i hi14 (by
          by_cases s0 : sort = 0
          · rw [if_pos s0, if_pos s0] at c
            rw [if_pos s0]
            omega
          · rw [if_neg s0, if_neg s0] at c
            rw [if_neg s0]
            omega)
        rw [iw] at q2
        cases q2
    · refine ⟨fun z => absurd rfl z, fun _ => cm_ends M hf (h2 ?_)⟩
      cases q : wrdS y n sort w with
      | none => rfl
      | some j =>
        refine absurd ?_ c
        have e := ws j q
        obtain ⟨⟨q1, q2⟩, -⟩ := wrdS_some q
        subst e
        by_cases s0 : sort = 0
        · rw [if_pos s0] at q2
          rw [if_pos s0, if_pos s0]
          omega
        · rw [if_neg s0] at q2
          rw [if_neg s0, if_neg s0]
          omega
theorem cm_endsLine {y : Nat → Nat} {n w : Nat} {S : Sm} {I : MI} {L : ML} (M : LM y n w S I) {b : Bool} {K : Bool → MI → ML → Prop} (h1 : S.fl ≠ 1 → kin y n w = 3 → ∀ I', lfr 8 187 I I' → LM y n (adv y n w) S I' → K b I' L) (h2 : S.fl ≠ 1 → kin y n w ≠ 3 → ∀ I', lfr 8 187 I I' → LM y n w (sty w S) I' → K b I' L) (h3 : S.fl = 1 → K b I L) : CV m_M_endsLine [vr 22 186] b I L K := by
  refine v_M_endsLine_0 ?_
  by_cases hf : S.fl = 1
  · have e8 := M.w8 hf
    exact ⟨fun _ => cm_endsW e8 (h3 hf), fun z => absurd (show ¬ I 186 8 = 0 by rw [e8]; decide) z⟩
  · refine ⟨fun z => absurd (M.e8 hf) z, fun _ => ?_⟩
    rw [M.2.1.2.2.1, show (2 : Int32) = nI 2 from rfl, n_eq (by have := tk_le y n w; omega) (by omega), tkq_2]
    exact ⟨fun k3 => cm_ends M hf (h2 hf k3), fun k3 => cm_adv M (h1 hf (Decidable.not_not.mp k3))⟩
