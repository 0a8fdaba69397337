/-! TEXTS: the reference's village line, whole -/
theorem Qb0_r {I : MI} {j : Nat} {v : Int32} (h : j ≠ 1) (q : Qb 0 I) : Qb 0 (sI I 189 j v) := q.r h
theorem fulB_v {i : Nat} {S : Sm} (h : i ≠ 8) (h2 : i < 11) : fulB i S = false := by
  unfold fulB
  rw [decide_eq_false (by omega), decide_eq_false (by omega)]
  rfl
theorem accW_n1 {i a x w : Nat} {S : Sm} (h : S.fl ≠ 1) : (accW i a x w S).fl ≠ 1 := by
  by_cases h0 : S.fl = 0
  · cases c : mayW i a x S.nb with
    | true =>
      rw [(accW_0 h0 c).1]
      decide
    | false =>
      rw [accW_1 h0 c]
      exact blm_n1 (by omega) h
  · rw [accW_2 h0]
    exact h
theorem ful_n1 {i p : Nat} {S : Sm} (h : S.fl ≠ 1) : (ful i p S).fl ≠ 1 := by
  unfold ful
  by_cases c : fulB i S = true
  · rw [if_pos c]
    exact blm_n1 (by omega) h
  · rw [if_neg c]
    exact h
theorem nmL_n1 {y : Nat → Nat} {n i : Nat} : ∀ f w a S, S.fl ≠ 1 → (nmL y n i f w a S).2.2.fl ≠ 1
  | 0, _, _, _, h => h
  | f + 1, w, a, S, h => by
    unfold nmL
    by_cases c : kin y n w = 2 ∧ (a < needW i ∨ isKW i = true)
    · rw [if_pos c]
      exact nmL_n1 f _ _ _ (accW_n1 h)
    · rw [if_neg c]
      exact h
theorem cm_villageLine {y : Nat → Nat} {n w : Nat} {S : Sm} {I : MI} {L : ML} (M : LM y n w S I) (hS : SmI S) (hf : S.fl ≠ 1) (hb : bf S w) (Q : QR 0 S I) {b : Bool} {K : Bool → MI → ML → Prop} (hK : ∀ I', lfr 9 189 I I' → LM y n (linS y n 0 w S).2.1 (linS y n 0 w S).2.2 I' → QR 0 (linS y n 0 w S).2.2 I' → K b I' L) : CV m_M_villageLine [vr 22 186] b I L K := by
  have w6 := M.1.1.1.2
  have hw := M.1.2
  have e4 : I 186 4 = nI w := M.2.1.2.1
  refine v_M_villageLine_0 (cm_takes (sort := 0) M hf (by omega) (fun i hi I1 f1 M1 => ?_) (fun hi I1 f1 M1 => ?_))
  · obtain ⟨⟨i14, i11⟩, k1, -⟩ := wrdS_some hi
    rw [if_pos rfl] at i11
    have hlt := (adv_le (y := y) hw).2.2 (kin_lt (by rw [k1]; decide))
    have eL : linS y n 0 w S = linR y n i (nmL y n i 600 (adv y n w) 0 (ful i w S)) := by
      unfold linS
      rw [hi]
    rw [eL] at hK
    have f1' : lfr 9 187 I I1 := f1.up (by omega) (Or.inl rfl)
    have e9 : I1 189 = I 189 := f1.1 189 (by omega) (by omega) (by omega)
    have Q1 : QR 0 S I1 := Q.fr e9 (f1.2.2 9 (by omega))
    have NQ : i ≠ 8 → NP y n i (adv y n w) 0 S I1 ∧ ful i w S = S := fun h => ⟨⟨M1, hS, fun _ => ⟨fulB_v h i11, fun j hj => absurd hj (Nat.not_lt_zero _)⟩, hf, bf_up hb (by omega), fun h0 => ((Q1.2 h0).1 rfl).1⟩, ful_no (fun _ => fulB_v h i11)⟩
    have finW : i ≠ 8 → ∀ (w' a' : Nat) (S' : Sm), S'.fl ≠ 1 → nmL y n i 600 (adv y n w) 0 S = (w', a', S') → a' < needW i → ∀ I', lfr 9 189 I1 I' → LM y n w' (sty w' S') I' → Qb 0 I' → CV m_M_endsLine [vr 22 186] b I' L K := fun h8 w' a' S' nf e ha I' f M' q => by
      rw [(NQ h8).2, e] at hK
      refine cm_close (sort := 0) (r := (w', a', S')) (by rw [nmR_w (i := i) (r := (w', a', S')) ha]; exact M') (by rw [nmR_w (i := i) (r := (w', a', S')) ha, telW_1 sty_fl]; exact QR_1 q sty_fl) nf (fun I2 f2 => hK I2 (((f1'.up (by omega) (Or.inr rfl)).trans f).trans f2))
    have finE : i ≠ 8 → ∀ (w' a' : Nat) (S' : Sm), S'.fl ≠ 1 → nmL y n i 600 (adv y n w) 0 S = (w', a', S') → needW i ≤ a' → ∀ I', lfr 9 189 I1 I' → LM y n w' S' I' → QR 0 (telW i S') I' → CV m_M_endsLine [vr 22 186] b I' L K := fun h8 w' a' S' nf e ha I' f M' q => by
      rw [(NQ h8).2, e] at hK
      refine cm_close (sort := 0) (r := (w', a', S')) (by rw [nmR_e (i := i) (r := (w', a', S')) ha]; exact M') (by rw [nmR_e (i := i) (r := (w', a', S')) ha]; exact q) nf (fun I2 f2 => hK I2 (((f1'.up (by omega) (Or.inr rfl)).trans f).trans f2))
    have kinds : isKW i = true → ∀ K' : Bool → MI → ML → Prop, (∀ I', CV m_M_endsLine [vr 22 186] b I' L K → K' b I' L) → SW m_M_kindsLine 2 [vr 22 186, vi (nI (i - 1)), vi (1 : Int32)] [] b I1 L (kV K') := fun hk K' hK' => by
      have h6 := of_decide_eq_true hk
      obtain ⟨P, ef⟩ := NQ (by omega)
      obtain ⟨g1, g2, g3, g4⟩ := nmL_I (y := y) (n := n) (i := i) i14 600 (adv y n w) 0 S P.1.1.2 (by omega) hS P.2.2.1
      have tk : telW i (nmR i (nmL y n i 600 (adv y n w) 0 S)) = nmR i (nmL y n i 600 (adv y n w) 0 S) := by
        unfold telW
        generalize nmR i (nmL y n i 600 (adv y n w) 0 S) = X
        by_cases h0 : X.fl = 0
        · rw [if_pos h0]
          have e1 : telV i X = X.vv := by
            unfold telV
            rw [if_neg (by omega), if_neg (by omega), if_neg (by omega), if_neg (by omega), if_neg (by omega)]
          have e2 : telT i X = X.tt := if_neg (by omega)
          rw [e1, e2, ← h0]
          rfl
        · rw [if_neg h0]
      refine cm_kinds hk 600 (adv y n w) 0 S I1 _ (by omega) rfl P Q1 (fun I' f M' q => hK' I' ?_)
      rw [ef] at hK
      refine cm_close (sort := 0) M' (by rw [tk]; exact q) ?_ (fun I2 f2 => hK I2 (((f1'.up (by omega) (Or.inr rfl)).trans f).trans f2))
      exact nmL_n1 600 _ _ _ hf
    rcases (by omega : i = 0 ∨ i = 7 ∨ i = 8 ∨ i = 9 ∨ i = 10 ∨ i = 1 ∨ i = 2 ∨ i = 3 ∨ i = 4 ∨ i = 5 ∨ i = 6) with rfl | rfl | rfl | rfl | rfl | rfl | rfl | rfl | rfl | rfl | rfl
    · -- people
      obtain ⟨P, ef⟩ := NQ (by decide)
      refine ⟨fun z => absurd rfl z, fun _ => ?_⟩
      refine cm_numP (lo := 1) (hi := 16) P (by omega) rfl (by omega) (by omega) (by omega) (fun _ _ => mw00) (fun k2 I2 v S' eS f2 P2 _ v16 g => ?_) (fun k2 I2 f2 M2 => ?_)
      · refine ⟨vpN (k := 0) (by omega) (by omega), ?_⟩
        rw [cl0]
        refine cm_isInN (lo := 2) (hi := 7) (by omega) (by omega) (by omega) (fun z => absurd z (by decide)) (fun _ => ?_)
        refine ⟨fun _ => ?_, fun z => absurd rfl z⟩
        refine ⟨fun _ => ?_, fun z => absurd (by decide) z⟩
        refine ⟨fun _ => ?_, fun z => absurd (by decide) z⟩
        refine ⟨fun _ => ?_, fun z => absurd (by decide) z⟩
        refine ⟨fun _ => ?_, fun z => absurd (by decide) z⟩
        have e2 : I2 189 = I1 189 := f2.1 189 (by omega) (by omega) (by omega)
        refine finE (by decide) _ 1 S' P2.2.2.2.1 (by
          rw [eS]
          exact (nm_go (f := 599) k2 (by decide)).trans (nm_end (f := 598) (by decide) rfl)) (by decide) _ ((f2.up (by omega) (Or.inr rfl)).trans lfr_r) P2.1.r ⟨Qb0_r (by decide) (Q1.1.fr e2), fun z => ⟨fun _ => ⟨?_, ?_⟩, fun q => absurd rfl q⟩⟩
        · rw [telW_fl.1] at z
          rw [sI_c (by omega), (telW_0 z).1]
          exact P2.2.2.2.2.2 z
        · rw [telW_fl.1] at z
          obtain ⟨⟨h0, ev, -⟩, q1, -⟩ := g z
          rw [(telW_0 z).2.1, show telV 0 S' = setPe S'.vv (S'.nb 0) from rfl, ev, ← q1]
          refine vilQ_pe ?_
          rw [e2]
          exact ((Q1.2 h0).1 rfl).2
      · refine ⟨vpN (k := 0) (by omega) (by omega), ?_⟩
        rw [cl0]
        refine cm_isInN (lo := 2) (hi := 7) (by omega) (by omega) (by omega) (fun z => absurd z (by decide)) (fun _ => ?_)
        refine ⟨fun _ => ?_, fun z => absurd rfl z⟩
        refine ⟨fun _ => ?_, fun z => absurd (by decide) z⟩
        refine ⟨fun _ => ?_, fun z => absurd (by decide) z⟩
        refine ⟨fun _ => ?_, fun z => absurd (by decide) z⟩
        refine ⟨fun _ => ?_, fun z => absurd (by decide) z⟩
        have e2 : I2 189 = I1 189 := f2.1 189 (by omega) (by omega) (by omega)
        exact finW (by decide) _ 0 S hf (nm_no (f := 599) k2) (by decide) _ ((f2.up (by omega) (Or.inr rfl)).trans lfr_r) M2.r (Qb0_r (by decide) (Q1.1.fr e2))
    · -- doubt
      obtain ⟨P, ef⟩ := NQ (by decide)
      refine ⟨fun _ => ?_, fun z => absurd (by decide) z⟩
      refine cm_isInN (lo := 2) (hi := 7) (by omega) (by omega) (by omega) (fun z => absurd z (by decide)) (fun _ => ?_)
      refine ⟨fun _ => ?_, fun z => absurd rfl z⟩
      refine ⟨fun z => absurd rfl z, fun _ => ?_⟩
      refine cm_perP P (by omega) rfl (fun _ => mw70) (fun k2 I2 v S2 eS2 f2 P2 v15 hv => ?_) (fun k2 I2 f2 M2 => ?_)
      · have g2 : S2.fl = 0 → (S.fl = 0 ∧ S2.vv = S.vv ∧ S2.tt = S.tt) ∧ v = S2.nb 0 ∧ ∀ j, j ≠ 0 → S2.nb j = S.nb j := fun z => by
          rw [hv z]
          rw [eS2] at z ⊢
          exact accW_kpt (i := 7) (a := 0) rfl z
        have n2 : nmL y n 7 600 (adv y n w) 0 S = nmL y n 7 599 (adv y n (adv y n w)) 1 S2 := by
          rw [eS2]
          exact nm_go (f := 599) k2 (by decide)
        refine cm_numP (lo := 1) (hi := 99) P2 (by omega) rfl (by omega) (by omega) (by omega) (fun k _ => by rw [mw71]; have := nmb_le k; omega) (fun k3 I3 v3 S3 eS3 f3 P3 _ v39 g3 => ?_) (fun k3 I3 f3 M3 => ?_)
        · rw [show (21 : Int32) + nI v = nI (21 + v) from n_add 21 v, n_cl (by omega)]
          refine ⟨vpN (by omega) (by omega), ?_⟩
          refine ⟨fun _ => ?_, fun z => absurd (by decide) z⟩
          refine ⟨fun _ => ?_, fun z => absurd (by decide) z⟩
          refine ⟨fun _ => ?_, fun z => absurd (by decide) z⟩
          have e2 : I3 189 = I1 189 := (f2.trans f3).1 189 (by omega) (by omega) (by omega)
          refine finE (by decide) _ 2 S3 P3.2.2.2.1 (by
            rw [n2, eS3]
            exact (nm_go (f := 598) k3 (by decide)).trans (nm_end (f := 597) (by decide) rfl)) (by decide) _ (((f2.trans f3).up (by omega) (Or.inr rfl)).trans lfr_r) P3.1.r ⟨Qb0_r (by omega) (Q1.1.fr e2), fun z => ⟨fun _ => ⟨?_, ?_⟩, fun q => absurd rfl q⟩⟩
          · rw [telW_fl.1] at z
            rw [sI_c (by omega), (telW_0 z).1]
            exact P3.2.2.2.2.2 z
          · rw [telW_fl.1] at z
            obtain ⟨⟨a1, a2, -⟩, a3, a4⟩ := g3 z
            obtain ⟨⟨h0, b2, -⟩, b3, -⟩ := g2 a1
            rw [(telW_0 z).2.1, show telV 7 S3 = setDb S3.vv (S3.nb 0) (S3.nb 1) from rfl, a2, b2, ← a3, a4 0 (by omega), ← b3]
            refine vilQ_db (by omega) ?_
            rw [e2]
            exact ((Q1.2 h0).1 rfl).2
        · rw [show (21 : Int32) + nI v = nI (21 + v) from n_add 21 v, n_cl (by omega)]
          refine ⟨vpN (by omega) (by omega), ?_⟩
          refine ⟨fun _ => ?_, fun z => absurd (by decide) z⟩
          refine ⟨fun _ => ?_, fun z => absurd (by decide) z⟩
          refine ⟨fun _ => ?_, fun z => absurd (by decide) z⟩
          have e2 : I3 189 = I1 189 := (f2.trans f3).1 189 (by omega) (by omega) (by omega)
          exact finW (by decide) _ 1 S2 P2.2.2.2.1 (n2.trans (nm_no (f := 598) k3)) (by decide) _ (((f2.trans f3).up (by omega) (Or.inr rfl)).trans lfr_r) M3.r (Qb0_r (by omega) (Q1.1.fr e2))
      · refine cm_numW (M2.w8 rfl) ?_
        rw [show (21 : Int32) + nI 0 = nI (21 + 0) from n_add 21 0, n_cl (by omega)]
        refine ⟨vpN (by omega) (by omega), ?_⟩
        refine ⟨fun _ => ?_, fun z => absurd (by decide) z⟩
        refine ⟨fun _ => ?_, fun z => absurd (by decide) z⟩
        refine ⟨fun _ => ?_, fun z => absurd (by decide) z⟩
        have e2 : I2 189 = I1 189 := f2.1 189 (by omega) (by omega) (by omega)
        exact finW (by decide) _ 0 S hf (nm_no (f := 599) k2) (by decide) _ ((f2.up (by omega) (Or.inr rfl)).trans lfr_r) M2.r (Qb0_r (by omega) (Q1.1.fr e2))
    · -- tie
      refine ⟨fun _ => ?_, fun z => absurd (by decide) z⟩
      refine cm_isInN (lo := 2) (hi := 7) (by omega) (by omega) (by omega) (fun z => absurd z (by decide)) (fun _ => ?_)
      refine ⟨fun _ => ?_, fun z => absurd rfl z⟩
      refine ⟨fun _ => ?_, fun z => absurd (by decide) z⟩
      refine ⟨fun z => absurd rfl z, fun _ => ?_⟩
      rw [e4]
      refine cm_tie M1 hlt hS hf hb Q1 (fun I' f M' q => ?_)
      refine ⟨fun _ => ?_, fun z => absurd (by decide) z⟩
      refine ⟨fun _ => ?_, fun z => absurd (by decide) z⟩
      exact cm_close (sort := 0) M' q (nmL_n1 600 _ _ _ (ful_n1 hf)) (fun I2 f2 => hK I2 (((f1'.up (by omega) (Or.inr rfl)).trans f).trans f2))
    · -- slow
      obtain ⟨P, ef⟩ := NQ (by decide)
      refine ⟨fun _ => ?_, fun z => absurd (by decide) z⟩
      refine cm_isInN (lo := 2) (hi := 7) (by omega) (by omega) (by omega) (fun z => absurd z (by decide)) (fun _ => ?_)
      refine ⟨fun _ => ?_, fun z => absurd rfl z⟩
      refine ⟨fun _ => ?_, fun z => absurd (by decide) z⟩
      refine ⟨fun _ => ?_, fun z => absurd (by decide) z⟩
      refine ⟨fun z => absurd rfl z, fun _ => ?_⟩
      refine cm_numP (lo := 0) (hi := 3) P (by omega) rfl (by omega) (by omega) (by omega) (fun _ _ => by rw [mw90]; omega) (fun k2 I2 v S' eS f2 P2 _ v16 g => ?_) (fun k2 I2 f2 M2 => ?_)
      · refine ⟨vpN (k := 2) (by omega) (by omega), ?_⟩
        rw [cl2]
        refine ⟨fun _ => ?_, fun z => absurd (by decide) z⟩
        have e2 : I2 189 = I1 189 := f2.1 189 (by omega) (by omega) (by omega)
        refine finE (by decide) _ 1 S' P2.2.2.2.1 (by
          rw [eS]
          exact (nm_go (f := 599) k2 (by decide)).trans (nm_end (f := 598) (by decide) rfl)) (by decide) _ ((f2.up (by omega) (Or.inr rfl)).trans lfr_r) P2.1.r ⟨Qb0_r (by decide) (Q1.1.fr e2), fun z => ⟨fun _ => ⟨?_, ?_⟩, fun q => absurd rfl q⟩⟩
        · rw [telW_fl.1] at z
          rw [sI_c (by omega), (telW_0 z).1]
          exact P2.2.2.2.2.2 z
        · rw [telW_fl.1] at z
          obtain ⟨⟨h0, ev, -⟩, q1, -⟩ := g z
          rw [(telW_0 z).2.1, show telV 9 S' = setSl S'.vv (S'.nb 0) from rfl, ev, ← q1]
          refine vilQ_sl ?_
          rw [e2]
          exact ((Q1.2 h0).1 rfl).2
      · refine ⟨vpN (k := 2) (by omega) (by omega), ?_⟩
        rw [cl2]
        refine ⟨fun _ => ?_, fun z => absurd (by decide) z⟩
        have e2 : I2 189 = I1 189 := f2.1 189 (by omega) (by omega) (by omega)
        exact finW (by decide) _ 0 S hf (nm_no (f := 599) k2) (by decide) _ ((f2.up (by omega) (Or.inr rfl)).trans lfr_r) M2.r (Qb0_r (by decide) (Q1.1.fr e2))
    · -- tires
      obtain ⟨P, ef⟩ := NQ (by decide)
      refine ⟨fun _ => ?_, fun z => absurd (by decide) z⟩
      refine cm_isInN (lo := 2) (hi := 7) (by omega) (by omega) (by omega) (fun z => absurd z (by decide)) (fun _ => ?_)
      refine ⟨fun _ => ?_, fun z => absurd rfl z⟩
      refine ⟨fun _ => ?_, fun z => absurd (by decide) z⟩
      refine ⟨fun _ => ?_, fun z => absurd (by decide) z⟩
      refine ⟨fun _ => ?_, fun z => absurd (by decide) z⟩
      refine ⟨fun z => absurd rfl z, fun _ => ?_⟩
      refine cm_numP (lo := 0) (hi := 30) P (by omega) rfl (by omega) (by omega) (by omega) (fun _ _ => by rw [mwT0]; omega) (fun k2 I2 v S2 eS2 f2 P2 _ v16 g2 => ?_) (fun k2 I2 f2 M2 => ?_)
      · have n2 : nmL y n 10 600 (adv y n w) 0 S = nmL y n 10 599 (adv y n (adv y n w)) 1 S2 := by
          rw [eS2]
          exact nm_go (f := 599) k2 (by decide)
        refine ⟨vpN (k := 3) (by omega) (by omega), ?_⟩
        rw [cl3]
        refine cm_numP (lo := 0) (hi := 30) P2.r (by omega) rfl (by omega) (by omega) (by omega) (fun _ _ => by rw [mwT1]; omega) (fun k3 I3 v3 S3 eS3 f3 P3 _ v39 g3 => ?_) (fun k3 I3 f3 M3 => ?_)
        · refine ⟨vpN (k := 4) (by omega) (by omega), ?_⟩
          rw [cl4]
          have e2 : I2 189 = I1 189 := f2.1 189 (by omega) (by omega) (by omega)
          have e3 : I3 189 = sI I2 189 3 (nI v) 189 := f3.1 189 (by omega) (by omega) (by omega)
          refine finE (by decide) _ 2 S3 P3.2.2.2.1 (by
            rw [n2, eS3]
            exact (nm_go (f := 598) k3 (by decide)).trans (nm_end (f := 597) (by decide) rfl)) (by decide) _ ((((f2.up (by omega) (Or.inr rfl)).trans lfr_r).trans (f3.up (by omega) (Or.inr rfl))).trans lfr_r) P3.1.r ⟨Qb0_r (by decide) ((Qb0_r (by decide) (Q1.1.fr e2)).fr e3), fun z => ⟨fun _ => ⟨?_, ?_⟩, fun q => absurd rfl q⟩⟩
          · rw [telW_fl.1] at z
            rw [sI_c (by omega), (telW_0 z).1]
            exact P3.2.2.2.2.2 z
          · rw [telW_fl.1] at z
            obtain ⟨⟨a1, a2, -⟩, a3, a4⟩ := g3 z
            obtain ⟨⟨h0, b2, -⟩, b3, -⟩ := g2 a1
            rw [(telW_0 z).2.1, show telV 10 S3 = setTi S3.vv (S3.nb 0) (S3.nb 1) from rfl, a2, b2, ← a3, a4 0 (by omega), ← b3]
            refine vilQ_ti ((Q1.2 h0).1 rfl).2 ?_ (fun j hj => ?_)
            · rw [e3, sI_at]
            · rw [e3, sI_j hj, e2]
        · refine ⟨vpN (k := 4) (by omega) (by omega), ?_⟩
          rw [cl4]
          have e2 : I2 189 = I1 189 := f2.1 189 (by omega) (by omega) (by omega)
          have e3 : I3 189 = sI I2 189 3 (nI v) 189 := f3.1 189 (by omega) (by omega) (by omega)
          exact finW (by decide) _ 1 S2 P2.2.2.2.1 (n2.trans (nm_no (f := 598) k3)) (by decide) _ ((((f2.up (by omega) (Or.inr rfl)).trans lfr_r).trans (f3.up (by omega) (Or.inr rfl))).trans lfr_r) M3.r (Qb0_r (by decide) ((Qb0_r (by decide) (Q1.1.fr e2)).fr e3))
      · refine ⟨vpN (k := 3) (by omega) (by omega), ?_⟩
        rw [cl3]
        refine cm_numW (M2.r.w8 rfl) ?_
        refine ⟨vpN (k := 4) (by omega) (by omega), ?_⟩
        rw [cl4]
        have e2 : I2 189 = I1 189 := f2.1 189 (by omega) (by omega) (by omega)
        exact finW (by decide) _ 0 S hf (nm_no (f := 599) k2) (by decide) _ (((f2.up (by omega) (Or.inr rfl)).trans lfr_r).trans lfr_r) M2.r.r (Qb0_r (by decide) (Qb0_r (by decide) (Q1.1.fr e2)))
    all_goals
      refine ⟨fun _ => ?_, fun z => absurd (by decide) z⟩
      refine cm_isInN (lo := 2) (hi := 7) (by omega) (by omega) (by omega) (fun _ => ?_) (fun z => absurd (by decide) z)
      refine ⟨fun z => absurd z (by decide), fun _ => v_M_kindsLine_0 ?_⟩
      refine kinds rfl _ (fun I' h => ?_)
      refine ⟨fun _ => ?_, fun z => absurd (by decide) z⟩
      refine ⟨fun _ => ?_, fun z => absurd (by decide) z⟩
      refine ⟨fun _ => ?_, fun z => absurd (by decide) z⟩
      refine ⟨fun _ => h, fun z => absurd (by decide) z⟩
  · have eL : linS y n 0 w S = (false, w, sty w S) := by
      unfold linS
      rw [hi]
    rw [eL] at hK
    refine ⟨fun _ => ?_, fun z => absurd (by decide) z⟩
    refine cm_isInN (lo := 2) (hi := 7) (by omega) (by omega) (by omega) (fun z => absurd z (by decide)) (fun _ => ?_)
    refine ⟨fun _ => ?_, fun z => absurd rfl z⟩
    refine ⟨fun _ => ?_, fun z => absurd (by decide) z⟩
    refine ⟨fun _ => ?_, fun z => absurd (by decide) z⟩
    refine ⟨fun _ => ?_, fun z => absurd (by decide) z⟩
    refine ⟨fun _ => ?_, fun z => absurd (by decide) z⟩
    exact v_M_endsLine_0 ⟨fun _ => cm_endsW (M1.w8 rfl) (hK I1 (f1.up (by omega) (Or.inr rfl)) M1 (QR_1 (Q.1.fr (f1.1 189 (by omega) (by omega) (by omega))) sty_fl)), fun z => absurd (show ¬ I1 186 8 = 0 by rw [M1.w8 rfl]; decide) z⟩
