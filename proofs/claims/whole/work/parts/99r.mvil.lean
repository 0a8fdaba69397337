/-! TEXTS: the reference's village line -/
theorem mayW_K {i a x : Nat} {nb : Nat → Nat} (h : isKW i = true) : mayW i a x nb = true ↔ x ≤ 15 := by
  unfold mayW
  have h6 := of_decide_eq_true h
  rw [if_pos (isKW_P h), show decide ((i = 8 ∧ a = 1) ∧ x = nb 0) = false from decide_eq_false (by omega), Bool.not_false, Bool.and_true, decide_eq_true_iff]
  omega
theorem mw80 {x : Nat} {nb : Nat → Nat} : mayW 8 0 x nb = true ↔ x ≤ 15 := by
  show (decide (x < 16) && !decide ((8 = 8 ∧ 0 = 1) ∧ x = nb 0)) = true ↔ _
  rw [show decide ((8 = 8 ∧ 0 = 1) ∧ x = nb 0) = false from decide_eq_false (by omega), Bool.not_false, Bool.and_true, decide_eq_true_iff]
  omega
theorem mw70 {x : Nat} {nb : Nat → Nat} : mayW 7 0 x nb = true ↔ x ≤ 15 := by
  show (decide (x < 16) && !decide ((7 = 8 ∧ 0 = 1) ∧ x = nb 0)) = true ↔ _
  rw [show decide ((7 = 8 ∧ 0 = 1) ∧ x = nb 0) = false from decide_eq_false (by omega), Bool.not_false, Bool.and_true, decide_eq_true_iff]
  omega
theorem mw81 {x : Nat} {nb : Nat → Nat} : mayW 8 1 x nb = true ↔ x ≤ 15 ∧ x ≠ nb 0 := by
  show (decide (x < 16) && !decide ((8 = 8 ∧ 1 = 1) ∧ x = nb 0)) = true ↔ _
  rw [Bool.and_eq_true, decide_eq_true_iff, Bool.not_eq_true', decide_eq_false_iff_not]
  omega
theorem mw82 {x : Nat} {nb : Nat → Nat} : mayW 8 2 x nb = true ↔ 1 ≤ x ∧ x ≤ 3 := by
  show decide (1 ≤ x ∧ x ≤ 3) = true ↔ _
  exact decide_eq_true_iff
theorem mw83 {x : Nat} {nb : Nat → Nat} : mayW 8 3 x nb = true ↔ 1 ≤ x ∧ x ≤ 9 := by
  show decide (1 ≤ x ∧ x ≤ 9) = true ↔ _
  exact decide_eq_true_iff
theorem mw71 {x : Nat} {nb : Nat → Nat} : mayW 7 1 x nb = true ↔ 1 ≤ x := by
  show decide (1 ≤ x) = true ↔ _
  exact decide_eq_true_iff
theorem mw00 {x : Nat} {nb : Nat → Nat} : mayW 0 0 x nb = true ↔ 1 ≤ x ∧ x ≤ 16 := by
  show decide (1 ≤ x ∧ x ≤ 16) = true ↔ _
  exact decide_eq_true_iff
theorem mw90 {x : Nat} {nb : Nat → Nat} : mayW 9 0 x nb = true ↔ x ≤ 3 := by
  show decide (x ≤ 3) = true ↔ _
  exact decide_eq_true_iff
theorem mwT0 {x : Nat} {nb : Nat → Nat} : mayW 10 0 x nb = true ↔ x ≤ 30 := by
  show decide (x ≤ 30) = true ↔ _
  exact decide_eq_true_iff
theorem mwT1 {x : Nat} {nb : Nat → Nat} : mayW 10 1 x nb = true ↔ x ≤ 30 := by
  show decide (x ≤ 30) = true ↔ _
  exact decide_eq_true_iff
theorem NP.r {y : Nat → Nat} {n i w a : Nat} {S : Sm} {I : MI} {j : Nat} {v : Int32} (P : NP y n i w a S I) : NP y n i w a S (sI I 189 j v) := ⟨P.1.r, P.2.1, P.2.2.1, P.2.2.2.1, P.2.2.2.2.1, fun z => by rw [sI_c (by omega)]; exact P.2.2.2.2.2 z⟩
theorem Qb.r {sort : Nat} {I : MI} {j : Nat} {v : Int32} (h : j ≠ if sort = 0 then 1 else 0) (q : Qb sort I) : Qb sort (sI I 189 j v) := by
  obtain ⟨m, hm, em⟩ := q
  exact ⟨m, hm, by rw [sI_j (Ne.symm h)]; exact em⟩
theorem sty_fl {w : Nat} {S : Sm} : (sty w S).fl ≠ 0 := show (1 : Nat) ≠ 0 by decide
theorem nmR_w {i : Nat} {r : Nat × Nat × Sm} (h : r.2.1 < needW i) : nmR i r = sty r.1 r.2.2 := if_pos h
theorem nmR_e {i : Nat} {r : Nat × Nat × Sm} (h : needW i ≤ r.2.1) : nmR i r = r.2.2 := if_neg (by omega)
theorem needW_K {i : Nat} (h : isKW i = true) : needW i = 1 := by
  have h6 := of_decide_eq_true h
  unfold needW
  rw [if_neg (by omega), if_neg (by omega), if_neg (by omega), if_neg (by omega), if_neg (by omega)]
theorem cm_kinds {y : Nat → Nat} {n i : Nat} (hk : isKW i = true) {b : Bool} {L : ML} {K : Bool → MI → ML → Prop} : ∀ f w a (S : Sm) (I : MI) (x2 : Int32), n - w < f → x2 = nI (if a = 0 then 1 else 0) → NP y n i w a S I → QR 0 S I → (∀ I', lfr 9 189 I I' → LM y n (nmL y n i f w a S).1 (nmR i (nmL y n i f w a S)) I' → QR 0 (nmR i (nmL y n i f w a S)) I' → K b I' L) → SW m_M_kindsLine 2 [vr 22 186, vi (nI (i - 1)), vi x2] [] b I L (kV K)
  | 0, w, a, S, I, x2, h, _, _, _, _ => by omega
  | f + 1, w, a, S, I, x2, h, hx, P, Q, hK => by
    have h6 := of_decide_eq_true hk
    have step : (kin y n w = 2 ∨ a = 0) → CI m_M_personTold [vr 22 186] b I L (fun v_1 b_1 I_1 L_1 => (vp_in ((5 : Int32) + v_1) 200 ∧ SW m_M_kindsLine 2 [vr 22 186, vi (nI (i - 1)), vi (0 : Int32)] [] b_1 (sI I_1 189 (((5 : Int32) + v_1).toNatClampNeg) (nI (i - 1))) L_1 (kV K))) := fun hka => by
      refine cm_perP P (by omega) (isKW_P hk) (fun _ => mayW_K hk) (fun k2 I1 v S' eS f1 P1 v15 hv => ?_) (fun k2 I1 f1 M1 => ?_)
      · rw [show (5 : Int32) = nI 5 from rfl, n_add, n_cl (by omega)]
        refine ⟨vpN (by omega) (by omega), ?_⟩
        have e : nmL y n i (f + 1) w a S = nmL y n i f (adv y n w) (a + 1) S' := by
          rw [eS]
          exact if_pos ⟨k2, Or.inr hk⟩
        rw [e] at hK
        have hlt := (adv_le (y := y) P.1.1.2).2.2 (kin_lt (by rw [k2]; decide))
        have ha := P1.1.1.2
        have e9 : I1 189 = I 189 := f1.1 189 (by omega) (by omega) (by omega)
        refine cm_kinds hk f (adv y n w) (a + 1) S' _ _ (by omega) (congrArg nI (if_neg (by omega)).symm) P1.r ⟨(Q.1.fr e9).r (show 5 + v ≠ 1 by omega), fun z => ⟨fun _ => ⟨?_, ?_⟩, fun q => absurd rfl q⟩⟩ (fun I' f' => hK I' (((f1.up (by omega) (Or.inr rfl)).trans lfr_r).trans f'))
        · rw [sI_c (by omega)]
          exact P1.2.2.2.2.2 z
        · have hv := hv z
          rw [eS] at z ⊢
          obtain ⟨h0, c⟩ := accW_f0 z
          rw [(accW_0 h0 c).2.2.2.1, if_pos hk, ← hv]
          refine vilQ_kd (by omega) ?_
          rw [e9]
          exact ((Q.2 h0).1 rfl).2
      · have a0 : a = 0 := by
          rcases hka with q | q
          · exact absurd q k2
          · exact q
        rw [nm_no k2] at hK
        rw [nmR_w (i := i) (r := (w, a, S)) (show a < needW i by rw [needW_K hk]; omega)] at hK
        rw [show (5 : Int32) + nI 0 = nI 5 from rfl, n_cl (by omega)]
        have e9 : I1 189 = I 189 := f1.1 189 (by omega) (by omega) (by omega)
        refine ⟨vpN (by omega) (by omega), v_M_kindsLine_2 ⟨fun _ => hK _ ((f1.up (by omega) (Or.inr rfl)).trans lfr_r) M1.r (QR_1 ((Q.1.fr e9).r (by decide)) sty_fl), fun z => absurd ?_ z⟩⟩
        rw [sI_c (by omega), M1.w8 rfl]
        decide
    refine v_M_kindsLine_2 ⟨fun z => absurd (P.1.e8 P.2.2.2.1) z, fun _ => ?_⟩
    by_cases a0 : a = 0
    · rw [if_pos a0] at hx
      rw [hx]
      exact ⟨fun _ => step (Or.inr a0), fun z => absurd (by decide) z⟩
    · rw [if_neg a0] at hx
      rw [hx]
      refine ⟨fun z => absurd rfl z, fun _ => ?_⟩
      rw [P.1.2.1.2.2.1, show (1 : Int32) = nI 1 from rfl, n_eq (by have := tk_le y n w; omega) (by omega), tkq_1]
      refine ⟨fun k2 => ?_, fun k2 => step (Or.inl (Decidable.not_not.mp k2))⟩
      rw [nm_no k2] at hK
      rw [nmR_e (i := i) (r := (w, a, S)) (show needW i ≤ a by rw [needW_K hk]; omega)] at hK
      exact hK I lfr_0 P.1 Q
/-! a tie -/
def tieSt (v_1 v_2 v_3 v_4 : Int32) (K : Bool → MI → ML → Prop) (b_4 : Bool) (I_4 : MI) (L_4 : ML) : Prop := (vp_in (1 : Int32) 200 ∧ (((40 : Int32) ≤ (I_4 189 (((1 : Int32)).toNatClampNeg)) → K b_4 I_4 L_4) ∧ (¬ (40 : Int32) ≤ (I_4 189 (((1 : Int32)).toNatClampNeg)) → (vp_in (1 : Int32) 200 ∧ (vp_in ((37 : Int32) + ((4 : Int32) * (I_4 189 (((1 : Int32)).toNatClampNeg)))) 200 ∧ (vp_in (((37 : Int32) + ((4 : Int32) * (I_4 189 (((1 : Int32)).toNatClampNeg)))) + (1 : Int32)) 200 ∧ (vp_in (((37 : Int32) + ((4 : Int32) * (I_4 189 (((1 : Int32)).toNatClampNeg)))) + (2 : Int32)) 200 ∧ (vp_in (((37 : Int32) + ((4 : Int32) * (I_4 189 (((1 : Int32)).toNatClampNeg)))) + (3 : Int32)) 200 ∧ (vp_in (1 : Int32) 200 ∧ (vp_in (1 : Int32) 200 ∧ K b_4 (sI (sI (sI (sI (sI I_4 189 (((37 : Int32) + ((4 : Int32) * (I_4 189 (((1 : Int32)).toNatClampNeg)))).toNatClampNeg) v_1) 189 ((((37 : Int32) + ((4 : Int32) * (I_4 189 (((1 : Int32)).toNatClampNeg)))) + (1 : Int32)).toNatClampNeg) v_2) 189 ((((37 : Int32) + ((4 : Int32) * (I_4 189 (((1 : Int32)).toNatClampNeg)))) + (2 : Int32)).toNatClampNeg) v_3) 189 ((((37 : Int32) + ((4 : Int32) * (I_4 189 (((1 : Int32)).toNatClampNeg)))) + (3 : Int32)).toNatClampNeg) v_4) 189 (((1 : Int32)).toNatClampNeg) (((sI (sI (sI (sI I_4 189 (((37 : Int32) + ((4 : Int32) * (I_4 189 (((1 : Int32)).toNatClampNeg)))).toNatClampNeg) v_1) 189 ((((37 : Int32) + ((4 : Int32) * (I_4 189 (((1 : Int32)).toNatClampNeg)))) + (1 : Int32)).toNatClampNeg) v_2) 189 ((((37 : Int32) + ((4 : Int32) * (I_4 189 (((1 : Int32)).toNatClampNeg)))) + (2 : Int32)).toNatClampNeg) v_3) 189 ((((37 : Int32) + ((4 : Int32) * (I_4 189 (((1 : Int32)).toNatClampNeg)))) + (3 : Int32)).toNatClampNeg) v_4) 189 (((1 : Int32)).toNatClampNeg)) + (1 : Int32))) L_4))))))))))
theorem tieSt_ok {v1 v2 v3 v4 : Int32} {m : Nat} {K : Bool → MI → ML → Prop} {b : Bool} {I : MI} {L : ML} (hm : m ≤ 40) (e1 : I 189 1 = nI m) (h1 : 40 ≤ m → K b I L) (h2 : m < 40 → K b (sI (sI (sI (sI (sI I 189 (37 + 4 * m) v1) 189 (37 + 4 * m + 1) v2) 189 (37 + 4 * m + 2) v3) 189 (37 + 4 * m + 3) v4) 189 1 (nI (m + 1))) L) : tieSt v1 v2 v3 v4 K b I L := by
  unfold tieSt
  have v1 : vp_in (1 : Int32) 200 := vpN (k := 1) (by omega) (by omega)
  simp only [cl1]
  rw [e1, show (37 : Int32) + (4 : Int32) * nI m = nI (37 + 4 * m) from by rw [show (37 : Int32) = nI 37 from rfl, show (4 : Int32) = nI 4 from rfl, n_mul, n_add], show nI (37 + 4 * m) + (1 : Int32) = nI (37 + 4 * m + 1) from n_add _ 1, show nI (37 + 4 * m) + (2 : Int32) = nI (37 + 4 * m + 2) from n_add _ 2, show nI (37 + 4 * m) + (3 : Int32) = nI (37 + 4 * m + 3) from n_add _ 3, n_cl (by omega), n_cl (by omega), n_cl (by omega), n_cl (by omega), sI_j (by omega), sI_j (by omega), sI_j (by omega), sI_j (by omega), e1, show nI m + (1 : Int32) = nI (m + 1) from n_add m 1, show (40 : Int32) = nI 40 from rfl, n_le (by omega) (by omega)]
  refine ⟨v1, h1, fun z => ⟨v1, vpN (by omega) (by omega), vpN (by omega) (by omega), vpN (by omega) (by omega), vpN (by omega) (by omega), v1, v1, h2 (by omega)⟩⟩
def tieJ (v_1 : Int32) (K : Bool → MI → ML → Prop) (v_2 : Int32) (b_2 : Bool) (I_2 : MI) (L_2 : ML) : Prop := CI m_M_numbered [vr 22 186, vi (1 : Int32), vi (3 : Int32)] b_2 I_2 L_2 (fun v_3 b_3 I_3 L_3 => CI m_M_numbered [vr 22 186, vi (1 : Int32), vi (9 : Int32)] b_3 I_3 L_3 (fun v_4 b_4 I_4 L_4 => tieSt v_1 v_2 v_3 v_4 K b_4 I_4 L_4))
def tieR (K : Bool → MI → ML → Prop) (b : Bool) (I : MI) (L : ML) : Prop := CI m_M_personTold [vr 22 186] b I L (fun v_1 b_1 I_1 L_1 => ((¬ (I_1 186 5) = (1 : Int32) → CI m_M_personTold [vr 22 186] b_1 I_1 L_1 (fun v b I L => tieJ v_1 K v b I L)) ∧ (¬ (¬ (I_1 186 5) = (1 : Int32)) → ((¬ (I_1 186 6) = v_1 → CI m_M_personTold [vr 22 186] b_1 I_1 L_1 (fun v b I L => tieJ v_1 K v b I L)) ∧ (¬ (¬ (I_1 186 6) = v_1) → CV m_M_also [vr 22 186, vi (2 : Int32), vi (I_1 186 4)] b_1 I_1 L_1 (fun b_8 I_8 L_8 => CI m_M_personTold [vr 22 186] b_8 I_8 L_8 (fun v b I L => tieJ v_1 K v b I L)))))))
theorem cm_tie1 {y : Nat → Nat} {n w v1 : Nat} {S : Sm} {I : MI} {L : ML} (P : NP y n 8 w 1 S I) (hv : v1 ≤ 15) (hv1 : S.fl = 0 → v1 = S.nb 0) {b : Bool} {J : Int32 → Bool → MI → ML → Prop} (h1 : kin y n w = 2 → ∀ I' v S', S' = accW 8 1 (nmb y n w) w S → lfr 9 187 I I' → NP y n 8 (adv y n w) 2 S' I' → v ≤ 15 → kpt 1 v S S' → J (nI v) b I' L) (h2 : kin y n w ≠ 2 → ∀ I', lfr 9 187 I I' → LM y n w (sty w S) I' → J (nI 0) b I' L) : ((¬ (I 186 5) = (1 : Int32) → CI m_M_personTold [vr 22 186] b I L J) ∧ (¬ (¬ (I 186 5) = (1 : Int32)) → ((¬ (I 186 6) = nI v1 → CI m_M_personTold [vr 22 186] b I L J) ∧ (¬ (¬ (I 186 6) = nI v1) → CV m_M_also [vr 22 186, vi (2 : Int32), vi (I 186 4)] b I L (fun b_8 I_8 L_8 => CI m_M_personTold [vr 22 186] b_8 I_8 L_8 J))))) := by
  obtain ⟨M, hS, hN, hf, hb, hg⟩ := id P
  have w6 := M.1.1.1.2
  have hw := M.1.2
  rw [M.2.1.2.2.1, show (1 : Int32) = nI 1 from rfl, n_eq (by have := tk_le y n w; omega) (by omega), tkq_1]
  refine ⟨fun k2 => cm_person (i := 8) (a := 0) M hS rfl (fun _ => mw80) (fun _ => hb) (fun _ z => absurd z k2) (fun _ _ => h2 k2) (fun z => absurd z hf), fun k2 => ?_⟩
  have k2 := Decidable.not_not.mp k2
  have hx := nmb_le k2
  have hlt := (adv_le (y := y) hw).2.2 (kin_lt (by rw [k2]; decide))
  rw [M.2.1.2.2.2.1 k2, n_eq (by omega) (by omega), M.2.1.2.1]
  refine ⟨fun c => cm_perP P (by omega) rfl (fun h0 => ?_) (fun k2 I' v S' eS f P1 v15 hv' => h1 k2 I' v S' eS f P1 v15 (fun z => ?_)) h2, fun c => ?_⟩
  · rw [mw81, ← hv1 h0]
    omega
  · rw [hv' z]
    rw [eS] at z ⊢
    exact accW_kpt (i := 8) (a := 1) rfl z
  · have c := Decidable.not_not.mp c
    have eB : accW 8 1 (nmb y n w) w S = blm 2 w S := by
      by_cases h0 : S.fl = 0
      · refine accW_1 h0 ?_
        cases q : mayW 8 1 (nmb y n w) S.nb with
        | false => rfl
        | true =>
          rw [mw81, ← hv1 h0] at q
          exact absurd c q.2
      · rw [accW_2 h0]
        unfold blm
        rw [if_neg h0]
    have nz : (blm 2 w S).fl ≠ 0 := blm_fl (by decide)
    refine cm_also (k := 2) M hf hS.1 hb (by omega) (by omega) (fun I1 f1 M1 => cm_person (i := 8) (a := 1) M1 (blm_I (by omega) (by omega) hS) rfl (fun z => absurd z nz) (fun q => absurd (by omega) q) (fun _ _ I2 v f2 M2 v15 _ _ => ?_) (fun _ z => absurd k2 z) (fun z => absurd z (blm_n1 (by omega) hf)))
    rw [accW_2 nz] at M2
    refine h1 k2 I2 v (blm 2 w S) eB.symm ((f1.up (by omega) (Or.inl rfl)).trans f2) ⟨M2, blm_I (by omega) (by omega) hS, fun z => absurd z nz, blm_n1 (by omega) hf, bf_up (blm_bf (bf_up hb (by omega : w ≤ w + 1)) (by omega)) hlt, fun z => absurd z nz⟩ v15 (fun z => absurd z nz)
theorem cm_tieR {y : Nat → Nat} {n w : Nat} {S : Sm} {I : MI} {L : ML} (P : NP y n 8 w 0 S I) (Q : QR 0 S I) {b : Bool} {K : Bool → MI → ML → Prop} (hK : ∀ I', lfr 9 189 I I' → LM y n (nmL y n 8 600 w 0 S).1 (nmR 8 (nmL y n 8 600 w 0 S)) I' → QR 0 (telW 8 (nmR 8 (nmL y n 8 600 w 0 S))) I' → K b I' L) : tieR K b I L := by
  obtain ⟨m, hm, em⟩ := Q.1
  have hm : m ≤ 40 := hm
  have em : I 189 1 = nI m := em
  have W : ∀ (I' : MI) (v1 v2 v3 v4 : Int32) (w' a' : Nat) (S' : Sm), nmL y n 8 600 w 0 S = (w', a', S') → a' < 4 → lfr 9 187 I I' → LM y n w' (sty w' S') I' → tieSt v1 v2 v3 v4 K b I' L := fun I' v1 v2 v3 v4 w' a' S' e ha f M => by
    rw [e, nmR_w (i := 8) (r := (w', a', S')) ha, telW_1 sty_fl] at hK
    have e9 : I' 189 = I 189 := f.1 189 (by omega) (by omega) (by omega)
    refine tieSt_ok hm (by rw [e9]; exact em) (fun _ => hK I' (f.up (by omega) (Or.inr rfl)) M (QR_1 (Q.1.fr e9) sty_fl)) (fun h => hK _ ((((((f.up (by omega) (Or.inr rfl)).trans lfr_r).trans lfr_r).trans lfr_r).trans lfr_r).trans lfr_r) M.r.r.r.r.r (QR_1 ⟨m + 1, by show m + 1 ≤ 40; omega, sI_at _ _ _ _⟩ sty_fl))
  refine cm_perP P (by omega) rfl (fun _ => mw80) (fun k0 I1 v1 S1 eS1 f1 P1 v15 hv1 => ?_) (fun k0 I1 f1 M1 => ?_)
  · have g1 : S1.fl = 0 → (S.fl = 0 ∧ S1.vv = S.vv ∧ S1.tt = S.tt) ∧ v1 = S1.nb 0 ∧ ∀ j, j ≠ 0 → S1.nb j = S.nb j := fun z => by
      rw [hv1 z]
      rw [eS1] at z ⊢
      exact accW_kpt (i := 8) (a := 0) rfl z
    have n1 : nmL y n 8 600 w 0 S = nmL y n 8 599 (adv y n w) 1 S1 := by
      rw [eS1]
      exact nm_go (f := 599) k0 (by decide)
    refine cm_tie1 P1 v15 (fun z => (g1 z).2.1) (fun k1 I2 v2 S2 eS2 f2 P2 v25 g2 => ?_) (fun k1 I2 f2 M2 => ?_)
    · have n2 : nmL y n 8 600 w 0 S = nmL y n 8 598 (adv y n (adv y n w)) 2 S2 := by
        rw [n1, eS2]
        exact nm_go (f := 598) k1 (by decide)
      unfold tieJ
      refine cm_numP (lo := 1) (hi := 3) P2 (by omega) rfl (by omega) (by omega) (by omega) (fun _ _ => mw82) (fun k2 I3 v3 S3 eS3 f3 P3 _ v33 g3 => ?_) (fun k2 I3 f3 M3 => ?_)
      · have n3 : nmL y n 8 600 w 0 S = nmL y n 8 597 (adv y n (adv y n (adv y n w))) 3 S3 := by
          rw [n2, eS3]
          exact nm_go (f := 597) k2 (by decide)
        refine cm_numP (lo := 1) (hi := 9) P3 (by omega) rfl (by omega) (by omega) (by omega) (fun _ _ => mw83) (fun k3 I4 v4 S4 eS4 f4 P4 _ v49 g4 => ?_) (fun k3 I4 f4 M4 => ?_)
        · have n4 : nmL y n 8 600 w 0 S = (adv y n (adv y n (adv y n (adv y n w))), 4, S4) := by
            rw [n3, eS4]
            exact (nm_go (f := 596) k3 (by decide)).trans (nm_end (f := 595) (by decide) rfl)
          rw [n4, nmR_e (i := 8) (r := (adv y n (adv y n (adv y n (adv y n w))), 4, S4)) (show 4 ≤ 4 by omega)] at hK
          have f : lfr 9 187 I I4 := ((f1.trans f2).trans f3).trans f4
          have e9 : I4 189 = I 189 := f.1 189 (by omega) (by omega) (by omega)
          have key : S4.fl = 0 → (S.fl = 0 ∧ S4.vv = S.vv ∧ m < 40 ∧ m = S.vv.m) ∧ v1 = S4.nb 0 ∧ v2 = S4.nb 1 ∧ v3 = S4.nb 2 ∧ v4 = S4.nb 3 := fun z => by
            obtain ⟨⟨a1, a2, -⟩, a3, a4⟩ := g4 z
            obtain ⟨⟨b1, b2, -⟩, b3, b4⟩ := g3 a1
            obtain ⟨⟨c1, c2, -⟩, c3, c4⟩ := g2 b1
            obtain ⟨⟨d1, d2, -⟩, d3, d4⟩ := g1 c1
            have ev : S4.vv = S.vv := by rw [a2, b2, c2, d2]
            have fu := (P4.2.2.1 z).1
            have em2 := ((Q.2 d1).1 rfl).2.1.2.1
            have mb := (P.2.1.2 d1).2.1.1.2.1
            rw [em, n_eq (by omega) (by omega)] at em2
            refine ⟨⟨d1, ev, ?_, em2⟩, ?_, ?_, ?_, a3⟩
            · refine Nat.not_le.mp (fun q => ?_)
              unfold fulB at fu
              rw [ev, ← em2, decide_eq_true (⟨rfl, q⟩ : 8 = 8 ∧ 40 ≤ m)] at fu
              cases fu
            · rw [a4 0 (by omega), b4 0 (by omega), c4 0 (by omega)]
              exact d3
            · rw [a4 1 (by omega), b4 1 (by omega)]
              exact c3
            · rw [a4 2 (by omega)]
              exact b3
          refine tieSt_ok hm (by rw [e9]; exact em) (fun q => hK I4 (f.up (by omega) (Or.inr rfl)) P4.1 (QR_1 (Q.1.fr e9) ?_)) (fun h => hK _ ((((((f.up (by omega) (Or.inr rfl)).trans lfr_r).trans lfr_r).trans lfr_r).trans lfr_r).trans lfr_r) P4.1.r.r.r.r.r ⟨⟨m + 1, by show m + 1 ≤ 40; omega, sI_at _ _ _ _⟩, fun z => ⟨fun _ => ⟨?_, ?_⟩, fun q => absurd rfl q⟩⟩)
          · rw [telW_fl.1]
            intro z
            have := (key z).1.2.2.1
            omega
          · rw [telW_fl.1] at z
            rw [sI_c (by omega), sI_c (by omega), sI_c (by omega), sI_c (by omega), sI_c (by omega), (telW_0 z).1]
            exact P4.2.2.2.2.2 z
          · rw [telW_fl.1] at z
            obtain ⟨⟨h0, ev, -, e1⟩, q1, q2, q3, q4⟩ := key z
            rw [(telW_0 z).2.1, show telV 8 S4 = addG S4.vv (S4.nb 0) (S4.nb 1) (S4.nb 2) (S4.nb 3) from rfl, ev, ← q1, ← q2, ← q3, ← q4, e1]
            refine vilQ_tie ?_
            rw [e9]
            exact ((Q.2 h0).1 rfl).2
        · exact W I4 _ _ _ _ _ 3 S3 (n3.trans (nm_no (f := 596) k3)) (by omega) (((f1.trans f2).trans f3).trans f4) M4
      · exact cm_numW (M3.w8 rfl) (W I3 _ _ _ _ _ 2 S2 (n2.trans (nm_no (f := 597) k2)) (by omega) ((f1.trans f2).trans f3) M3)
    · unfold tieJ
      exact cm_numW (M2.w8 rfl) (cm_numW (M2.w8 rfl) (W I2 _ _ _ _ _ 1 S1 (n1.trans (nm_no (f := 598) k1)) (by omega) (f1.trans f2) M2))
  · have k5 : ¬ I1 186 5 = (1 : Int32) := by
      rw [M1.2.1.2.2.1, show (1 : Int32) = nI 1 from rfl, n_eq (by have := tk_le y n w; omega) (by omega), tkq_1]
      exact k0
    refine ⟨fun _ => cm_personW M1 rfl (fun I2 f2 M2 => ?_), fun z => absurd k5 z⟩
    unfold tieJ
    exact cm_numW (M2.w8 rfl) (cm_numW (M2.w8 rfl) (W I2 _ _ _ _ _ 0 S (nm_no (f := 599) k0) (by omega) (f1.trans f2) M2))
theorem ful_no {i p : Nat} {S : Sm} (h : S.fl = 0 → fulB i S = false) : ful i p S = S := by
  unfold ful
  cases c : fulB i S with
  | false => exact if_neg Bool.false_ne_true
  | true =>
    rw [if_pos rfl]
    unfold blm
    refine if_neg (fun z => ?_)
    rw [h z] at c
    cases c
theorem ful_is {i p : Nat} {S : Sm} (h : S.fl = 0 → fulB i S = true) : ful i p S = blm 3 p S := by
  unfold ful
  cases c : fulB i S with
  | true => exact if_pos rfl
  | false =>
    rw [if_neg Bool.false_ne_true]
    unfold blm
    refine (if_neg (fun z => ?_)).symm
    rw [h z] at c
    cases c
theorem cm_tie {y : Nat → Nat} {n w p : Nat} {S : Sm} {I : MI} {L : ML} (M : LM y n w S I) (hp : p < w) (hS : SmI S) (hf : S.fl ≠ 1) (hb : bf S p) (Q : QR 0 S I) {b : Bool} {K : Bool → MI → ML → Prop} (hK : ∀ I', lfr 9 189 I I' → LM y n (nmL y n 8 600 w 0 (ful 8 p S)).1 (nmR 8 (nmL y n 8 600 w 0 (ful 8 p S))) I' → QR 0 (telW 8 (nmR 8 (nmL y n 8 600 w 0 (ful 8 p S)))) I' → K b I' L) : CV m_M_tieLine [vr 22 186, vi (nI p)] b I L K := by
  obtain ⟨m, hm, em⟩ := Q.1
  have hm : m ≤ 40 := hm
  have em : I 189 1 = nI m := em
  have w6 := M.1.1.1.2
  have hw := M.1.2
  have em2 : S.fl = 0 → m = S.vv.m := fun h0 => by
    have em2 := ((Q.2 h0).1 rfl).2.1.2.1
    have mb := (hS.2 h0).2.1.1.2.1
    rw [em, n_eq (by omega) (by omega)] at em2
    exact em2
  have q40 : ((I 189 (((1 : Int32)).toNatClampNeg)) < (40 : Int32)) = (m < 40) := by
    rw [cl1, em, show (40 : Int32) = nI 40 from rfl, n_lt (by omega) (by omega)]
  refine v_M_tieLine_0 ⟨vpN (k := 1) (by omega) (by omega), fun z => ?_, fun z => ?_⟩
  · rw [q40] at z
    rw [ful_no (fun h0 => by
      have e := em2 h0
      unfold fulB
      rw [decide_eq_false (by omega), decide_eq_false (by omega)]
      rfl)] at hK
    refine cm_tieR ⟨M, hS, fun h0 => ⟨?_, fun j hj => absurd hj (Nat.not_lt_zero _)⟩, hf, bf_up hb (by omega), fun h0 => ((Q.2 h0).1 rfl).1⟩ Q hK
    have e := em2 h0
    unfold fulB
    rw [decide_eq_false (by omega), decide_eq_false (by omega)]
    rfl
  · rw [q40] at z
    rw [ful_is (fun h0 => by
      have e := em2 h0
      unfold fulB
      rw [decide_eq_true (⟨rfl, by omega⟩ : 8 = 8 ∧ 40 ≤ S.vv.m)]
      rfl)] at hK
    have nz : (blm 3 p S).fl ≠ 0 := blm_fl (by decide)
    refine cm_also (k := 3) M hf hS.1 hb (by omega) (by omega) (fun I1 f1 M1 => ?_)
    exact cm_tieR ⟨M1, blm_I (by omega) (by omega) hS, fun h0 => absurd h0 nz, blm_n1 (by omega) hf, blm_bf (bf_up hb (by omega)) hp, fun h0 => absurd h0 nz⟩ (QR_1 (Q.1.fr (f1.1 189 (by omega) (by omega) (by omega))) nz) (fun I' f' => hK I' ((f1.up (by omega) (Or.inr rfl)).trans f'))
