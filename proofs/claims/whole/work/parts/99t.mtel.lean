/-! TEXTS: the reference's telling line -/
def telSt (x_1 x_2 x_3 x_4 : Int32) (K : Bool → MI → ML → Prop) (b_3 : Bool) (I_3 : MI) (L_3 : ML) : Prop := (vp_in (0 : Int32) 200 ∧ (((30 : Int32) ≤ (I_3 189 (((0 : Int32)).toNatClampNeg)) → K b_3 I_3 L_3) ∧ (¬ (30 : Int32) ≤ (I_3 189 (((0 : Int32)).toNatClampNeg)) → (vp_in (0 : Int32) 200 ∧ (vp_in ((1 : Int32) + ((4 : Int32) * (I_3 189 (((0 : Int32)).toNatClampNeg)))) 200 ∧ (vp_in (((1 : Int32) + ((4 : Int32) * (I_3 189 (((0 : Int32)).toNatClampNeg)))) + (1 : Int32)) 200 ∧ (vp_in (((1 : Int32) + ((4 : Int32) * (I_3 189 (((0 : Int32)).toNatClampNeg)))) + (2 : Int32)) 200 ∧ (vp_in (((1 : Int32) + ((4 : Int32) * (I_3 189 (((0 : Int32)).toNatClampNeg)))) + (3 : Int32)) 200 ∧ (vp_in (0 : Int32) 200 ∧ (vp_in (0 : Int32) 200 ∧ K b_3 (sI (sI (sI (sI (sI I_3 189 (((1 : Int32) + ((4 : Int32) * (I_3 189 (((0 : Int32)).toNatClampNeg)))).toNatClampNeg) x_1) 189 ((((1 : Int32) + ((4 : Int32) * (I_3 189 (((0 : Int32)).toNatClampNeg)))) + (1 : Int32)).toNatClampNeg) x_2) 189 ((((1 : Int32) + ((4 : Int32) * (I_3 189 (((0 : Int32)).toNatClampNeg)))) + (2 : Int32)).toNatClampNeg) x_3) 189 ((((1 : Int32) + ((4 : Int32) * (I_3 189 (((0 : Int32)).toNatClampNeg)))) + (3 : Int32)).toNatClampNeg) x_4) 189 (((0 : Int32)).toNatClampNeg) (((sI (sI (sI (sI I_3 189 (((1 : Int32) + ((4 : Int32) * (I_3 189 (((0 : Int32)).toNatClampNeg)))).toNatClampNeg) x_1) 189 ((((1 : Int32) + ((4 : Int32) * (I_3 189 (((0 : Int32)).toNatClampNeg)))) + (1 : Int32)).toNatClampNeg) x_2) 189 ((((1 : Int32) + ((4 : Int32) * (I_3 189 (((0 : Int32)).toNatClampNeg)))) + (2 : Int32)).toNatClampNeg) x_3) 189 ((((1 : Int32) + ((4 : Int32) * (I_3 189 (((0 : Int32)).toNatClampNeg)))) + (3 : Int32)).toNatClampNeg) x_4) 189 (((0 : Int32)).toNatClampNeg)) + (1 : Int32))) L_3))))))))))
theorem telSt_ok {v1 v2 v3 v4 : Int32} {m : Nat} {K : Bool → MI → ML → Prop} {b : Bool} {I : MI} {L : ML} (hm : m ≤ 30) (e1 : I 189 0 = nI m) (h1 : 30 ≤ m → K b I L) (h2 : m < 30 → K b (sI (sI (sI (sI (sI I 189 (1 + 4 * m) v1) 189 (1 + 4 * m + 1) v2) 189 (1 + 4 * m + 2) v3) 189 (1 + 4 * m + 3) v4) 189 0 (nI (m + 1))) L) : telSt v1 v2 v3 v4 K b I L := by
  unfold telSt
  have v0 : vp_in (0 : Int32) 200 := vpN (k := 0) (by omega) (by omega)
  simp only [cl0]
  rw [e1, show (1 : Int32) + (4 : Int32) * nI m = nI (1 + 4 * m) from by rw [show (1 : Int32) = nI 1 from rfl, show (4 : Int32) = nI 4 from rfl, n_mul, n_add], show nI (1 + 4 * m) + (1 : Int32) = nI (1 + 4 * m + 1) from n_add _ 1, show nI (1 + 4 * m) + (2 : Int32) = nI (1 + 4 * m + 2) from n_add _ 2, show nI (1 + 4 * m) + (3 : Int32) = nI (1 + 4 * m + 3) from n_add _ 3, n_cl (by omega), n_cl (by omega), n_cl (by omega), n_cl (by omega), sI_j (by omega), sI_j (by omega), sI_j (by omega), sI_j (by omega), e1, show nI m + (1 : Int32) = nI (m + 1) from n_add m 1, show (30 : Int32) = nI 30 from rfl, n_le (by omega) (by omega)]
  refine ⟨v0, h1, fun z => ⟨v0, vpN (by omega) (by omega), vpN (by omega) (by omega), vpN (by omega) (by omega), vpN (by omega) (by omega), v0, v0, h2 (by omega)⟩⟩
theorem mwD0 {x : Nat} {nb : Nat → Nat} : mayW 13 0 x nb = true ↔ x < 40 := by
  show decide (x < 40) = true ↔ _
  exact decide_eq_true_iff
theorem mwD1 {x : Nat} {nb : Nat → Nat} : mayW 13 1 x nb = true ↔ True := ⟨fun _ => trivial, fun _ => rfl⟩
theorem mwD2 {x : Nat} {nb : Nat → Nat} : mayW 13 2 x nb = true ↔ nb 1 ≤ x := by
  show decide (nb 1 ≤ x) = true ↔ _
  exact decide_eq_true_iff
theorem mwB0 {i x : Nat} {nb : Nat → Nat} (h : i = 11 ∨ i = 12) : mayW i 0 x nb = true ↔ True := by
  rcases h with rfl | rfl
  · exact ⟨fun _ => trivial, fun _ => (decide_eq_true (Or.inl rfl) : decide (0 = 0 ∨ x < 16) = true)⟩
  · exact ⟨fun _ => trivial, fun _ => (decide_eq_true (Or.inl rfl) : decide (0 = 0 ∨ x < 16) = true)⟩
theorem mwB1 {i x : Nat} {nb : Nat → Nat} (h : i = 11 ∨ i = 12) : mayW i 1 x nb = true ↔ x ≤ 15 := by
  rcases h with rfl | rfl
  · show decide (1 = 0 ∨ x < 16) = true ↔ _
    rw [decide_eq_true_iff]
    omega
  · show decide (1 = 0 ∨ x < 16) = true ↔ _
    rw [decide_eq_true_iff]
    omega
theorem Qb1_r {I : MI} {j : Nat} {v : Int32} (h : j ≠ 0) (q : Qb 1 I) : Qb 1 (sI I 189 j v) := q.r h
/-- what follows a telling's word -/
def telX (v_1 : Int32) (K : Bool → MI → ML → Prop) (b_1 : Bool) (I_1 : MI) (L_1 : ML) : Prop := ((¬ (v_1 - (12 : Int32)) = (2 : Int32) → CI m_M_numbered [vr 22 186, vi (0 : Int32), vi (99 : Int32)] b_1 I_1 L_1 (fun v_2 b_2 I_2 L_2 => CI m_M_numbered [vr 22 186, vi (0 : Int32), vi (15 : Int32)] b_2 I_2 L_2 (fun v_3 b_3 I_3 L_3 => telSt (v_1 - (12 : Int32)) v_2 v_3 (-1 : Int32) (fun b I L => CV m_M_endsLine [vr 22 186] b I L K) b_3 I_3 L_3))) ∧ (¬ (¬ (v_1 - (12 : Int32)) = (2 : Int32)) → CI m_M_numbered [vr 22 186, vi (0 : Int32), vi (39 : Int32)] b_1 I_1 L_1 (fun v_6 b_6 I_6 L_6 => CI m_M_numbered [vr 22 186, vi (0 : Int32), vi (99 : Int32)] b_6 I_6 L_6 (fun v_7 b_7 I_7 L_7 => CI m_M_numbered [vr 22 186, vi v_7, vi (99 : Int32)] b_7 I_7 L_7 (fun v_8 b_8 I_8 L_8 => telSt (v_1 - (12 : Int32)) v_6 v_7 v_8 (fun b I L => CV m_M_endsLine [vr 22 186] b I L K) b_8 I_8 L_8)))))
theorem cm_telR {y : Nat → Nat} {n w : Nat} {S T : Sm} {I : MI} {L : ML} (M : LM y n w T I) (hS : SmI S) (hT : SmI T) (hf : T.fl ≠ 1) (hb : bf T (w + 1)) (hfu : ∀ i, 11 ≤ i → ful i w S = T) (Q : QR 1 T I) (hst : (sty w S).gr = (sty w T).gr) {b : Bool} {K : Bool → MI → ML → Prop} (hK : ∀ I', lfr 9 189 I I' → LM y n (linS y n 1 w S).2.1 (linS y n 1 w S).2.2 I' → QR 1 (linS y n 1 w S).2.2 I' → K b I' L) : CI m_M_takes [vr 22 186, vi (12 : Int32), vi (14 : Int32)] b I L (fun v b I L => telX v K b I L) := by
  obtain ⟨m, hm, em⟩ := Q.1
  have hm : m ≤ 30 := hm
  have em : I 189 0 = nI m := em
  have w6 := M.1.1.1.2
  have hw := M.1.2
  -- when it stops short
  have W : ∀ (I0 I' : MI) (v1 v2 v3 v4 : Int32) (w' : Nat) (S' : Sm), lfr 9 187 I I' → LM y n w' (sty w' S') I' → (∀ I2, lfr 9 189 I I2 → LM y n w' (sty w' S') I2 → Qb 1 I2 → CV m_M_endsLine [vr 22 186] b I2 L K) → telSt v1 v2 v3 v4 (fun b I L => CV m_M_endsLine [vr 22 186] b I L K) b I' L := fun _ I' v1 v2 v3 v4 w' S' f M' hh => by
    have e9 : I' 189 = I 189 := f.1 189 (by omega) (by omega) (by omega)
    refine telSt_ok hm (by rw [e9]; exact em) (fun _ => hh I' (f.up (by omega) (Or.inr rfl)) M' (Q.1.fr e9)) (fun h => hh _ ((((((f.up (by omega) (Or.inr rfl)).trans lfr_r).trans lfr_r).trans lfr_r).trans lfr_r).trans lfr_r) M'.r.r.r.r.r ⟨m + 1, by show m + 1 ≤ 30; omega, sI_at _ _ _ _⟩)
  refine cm_takes (sort := 1) M hf (by omega) (fun i hi I1 f1 M1 => ?_) (fun hi I1 f1 M1 => ?_)
  · obtain ⟨⟨i14, i11⟩, k1, -⟩ := wrdS_some hi
    rw [if_neg (by decide)] at i11
    have hlt := (adv_le (y := y) hw).2.2 (kin_lt (by rw [k1]; decide))
    have eL : linS y n 1 w S = linR y n i (nmL y n i 600 (adv y n w) 0 T) := by
      unfold linS
      rw [hi, ← hfu i i11]
    rw [eL] at hK
    have f1' : lfr 9 187 I I1 := f1.up (by omega) (Or.inl rfl)
    have e9 : I1 189 = I 189 := f1.1 189 (by omega) (by omega) (by omega)
    have g9 : I1 186 9 = I 186 9 := f1.2.2 9 (by omega)
    have P : NP y n i (adv y n w) 0 T I1 := ⟨M1, hT, by rw [← hfu i i11]; exact (ful_I hS).2, hf, bf_up hb (by omega), fun h0 => by rw [g9]; exact ((Q.2 h0).2 (by decide)).1⟩
    have finW : ∀ (w' a' : Nat) (S' : Sm), S'.fl ≠ 1 → nmL y n i 600 (adv y n w) 0 T = (w', a', S') → a' < needW i → ∀ I', lfr 9 189 I I' → LM y n w' (sty w' S') I' → Qb 1 I' → CV m_M_endsLine [vr 22 186] b I' L K := fun w' a' S' nf e ha I' f M' q => by
      rw [e] at hK
      refine cm_close (sort := 1) (r := (w', a', S')) (by rw [nmR_w (i := i) (r := (w', a', S')) ha]; exact M') (by rw [nmR_w (i := i) (r := (w', a', S')) ha, telW_1 sty_fl]; exact QR_1 q sty_fl) nf (fun I2 f2 => hK I2 (f.trans f2))
    -- the telling is kept
    have finE : ∀ (w' a' : Nat) (S' : Sm) (I' : MI) (v2 v3 : Nat) (v4 : Int32), nmL y n i 600 (adv y n w) 0 T = (w', a', S') → needW i ≤ a' → lfr 9 187 I I' → NP y n i w' a' S' I' → (S'.fl = 0 → (T.fl = 0 ∧ S'.tt = T.tt) ∧ v2 = S'.nb 0 ∧ v3 = S'.nb 1 ∧ v4 = if i - 11 = 2 then nI (S'.nb 2) else nM) → telSt (nI (i - 11)) (nI v2) (nI v3) v4 (fun b I L => CV m_M_endsLine [vr 22 186] b I L K) b I' L := fun w' a' S' I' v2 v3 v4 e ha f P' g => by
      rw [e] at hK
      have e9' : I' 189 = I 189 := f.1 189 (by omega) (by omega) (by omega)
      have key : S'.fl = 0 → m < 30 ∧ m = T.tt.n := fun z => by
        obtain ⟨⟨t0, ev⟩, -⟩ := g z
        have em2 := ((Q.2 t0).2 (by decide)).2.1
        have mb := (hT.2 t0).2.2.1
        rw [em, n_eq (by omega) (by omega)] at em2
        have fu := (P'.2.2.1 z).1
        refine ⟨Nat.not_le.mp (fun q => ?_), em2⟩
        unfold fulB at fu
        rw [ev, ← em2, decide_eq_true (⟨i11, q⟩ : 11 ≤ i ∧ 30 ≤ m), Bool.or_true] at fu
        cases fu
      refine telSt_ok hm (by rw [e9']; exact em) (fun q => cm_close (sort := 1) (r := (w', a', S')) (by rw [nmR_e (i := i) (r := (w', a', S')) ha]; exact P'.1) (by
        rw [nmR_e (i := i) (r := (w', a', S')) ha]
        refine QR_1 (Q.1.fr e9') ?_
        rw [telW_fl.1]
        intro z
        have := (key z).1
        omega) P'.2.2.2.1 (fun I2 f2 => hK I2 ((f.up (by omega) (Or.inr rfl)).trans f2))) (fun h => cm_close (sort := 1) (r := (w', a', S')) (by rw [nmR_e (i := i) (r := (w', a', S')) ha]; exact P'.1.r.r.r.r.r) (by
        rw [nmR_e (i := i) (r := (w', a', S')) ha]
        refine ⟨⟨m + 1, by show m + 1 ≤ 30; omega, sI_at _ _ _ _⟩, fun z => ⟨fun q => absurd q (by decide), fun _ => ⟨?_, ?_⟩⟩⟩
        · rw [telW_fl.1] at z
          rw [sI_c (by omega), sI_c (by omega), sI_c (by omega), sI_c (by omega), sI_c (by omega), (telW_0 z).1]
          exact P'.2.2.2.2.2 z
        · rw [telW_fl.1] at z
          obtain ⟨⟨t0, ev⟩, q1, q2, q3⟩ := g z
          rw [(telW_0 z).2.2, show telT i S' = addA S'.tt (i - 11) (S'.nb 0) (S'.nb 1) (if i = 13 then S'.nb 2 else 0) from if_pos i11, ev, ← q1, ← q2, (key z).2]
          refine telQ_act ?_ ?_
          · rw [q3]
            by_cases c : i = 13
            · rw [if_pos (by omega), if_pos (by omega), if_pos c]
            · rw [if_neg (by omega), if_neg (by omega)]
          · rw [e9']
            exact ((Q.2 t0).2 (by decide)).2) P'.2.2.2.1 (fun I2 f2 => hK I2 ((((((((f.up (by omega) (Or.inr rfl)).trans lfr_r).trans lfr_r).trans lfr_r).trans lfr_r).trans lfr_r)).trans f2)))
    have eso : nI (i + 1) - (12 : Int32) = nI (i - 11) := by
      rw [show (12 : Int32) = nI 12 from rfl, n_sub (by omega), show i + 1 - 12 = i - 11 by omega]
    unfold telX
    rw [eso, show (2 : Int32) = nI 2 from rfl, n_eq (by omega) (by omega)]
    refine ⟨fun c => ?_, fun c => ?_⟩
    · have i2 : i = 11 ∨ i = 12 := by omega
      have nP : ∀ a, isPW i a = false := fun a => by
        rcases i2 with rfl | rfl <;> rfl
      have nd : needW i = 2 := by
        rcases i2 with rfl | rfl <;> rfl
      refine cm_numP (lo := 0) (hi := 99) P i14 (nP 0) (by omega) (by omega) (by omega) (fun k _ => by rw [mwB0 i2]; have := nmb_le k; exact ⟨fun _ => ⟨by omega, by omega⟩, fun _ => trivial⟩) (fun k2 I2 v2 S2 eS2 f2 P2 _ v29 g2 => ?_) (fun k2 I2 f2 M2 => ?_)
      · have n2 : nmL y n i 600 (adv y n w) 0 T = nmL y n i 599 (adv y n (adv y n w)) 1 S2 := by
          rw [eS2]
          exact nm_go (f := 599) k2 (by omega)
        refine cm_numP (lo := 0) (hi := 15) P2 i14 (nP 1) (by omega) (by omega) (by omega) (fun k _ => by rw [mwB1 i2]; omega) (fun k3 I3 v3 S3 eS3 f3 P3 _ v39 g3 => ?_) (fun k3 I3 f3 M3 => ?_)
        · refine finE _ 2 S3 I3 v2 v3 _ (by
            rw [n2, eS3]
            exact (nm_go (f := 598) k3 (by omega)).trans (nm_end (f := 597) (by omega) (isPW_K (nP 0)))) (by omega) ((f1'.trans f2).trans f3) P3 (fun z => ?_)
          obtain ⟨⟨a1, -, a2⟩, a3, a4⟩ := g3 z
          obtain ⟨⟨b1, -, b2⟩, b3, b4⟩ := g2 a1
          exact ⟨⟨b1, a2.trans b2⟩, b3.trans (a4 0 (by omega)).symm, a3, (if_neg c).symm⟩
        · exact W I I3 _ _ _ _ _ S2 ((f1'.trans f2).trans f3) M3 (finW _ 1 S2 P2.2.2.2.1 (n2.trans (nm_no (f := 598) k3)) (by omega))
      · exact cm_numW (M2.w8 rfl) (W I I2 _ _ _ _ _ T (f1'.trans f2) M2 (finW _ 0 T hf (nm_no (f := 599) k2) (by omega)))
    · have e13 : i = 13 := by omega
      subst e13
      refine cm_numP (lo := 0) (hi := 39) P i14 rfl (by omega) (by omega) (by omega) (fun k _ => by rw [mwD0]; omega) (fun k2 I2 v2 S2 eS2 f2 P2 _ v29 g2 => ?_) (fun k2 I2 f2 M2 => ?_)
      · have n2 : nmL y n 13 600 (adv y n w) 0 T = nmL y n 13 599 (adv y n (adv y n w)) 1 S2 := by
          rw [eS2]
          exact nm_go (f := 599) k2 (by decide)
        refine cm_numP (lo := 0) (hi := 99) P2 i14 rfl (by omega) (by omega) (by omega) (fun k _ => by rw [mwD1]; have := nmb_le k; exact ⟨fun _ => ⟨by omega, by omega⟩, fun _ => trivial⟩) (fun k3 I3 v3 S3 eS3 f3 P3 _ v39 g3 => ?_) (fun k3 I3 f3 M3 => ?_)
        · have n3 : nmL y n 13 600 (adv y n w) 0 T = nmL y n 13 598 (adv y n (adv y n (adv y n w))) 2 S3 := by
            rw [n2, eS3]
            exact nm_go (f := 598) k3 (by decide)
          refine cm_numP (lo := v3) (hi := 99) P3 i14 rfl v39 (by omega) v39 (fun k h0 => by rw [mwD2, ← (g3 h0).2.1]; have := nmb_le k; omega) (fun k4 I4 v4 S4 eS4 f4 P4 _ v49 g4 => ?_) (fun k4 I4 f4 M4 => ?_)
          · refine finE _ 3 S4 I4 v2 v3 _ (by
              rw [n3, eS4]
              exact (nm_go (f := 597) k4 (by decide)).trans (nm_end (f := 596) (by decide) rfl)) (by decide) (((f1'.trans f2).trans f3).trans f4) P4 (fun z => ?_)
            obtain ⟨⟨c1, -, c2⟩, c3, c4⟩ := g4 z
            obtain ⟨⟨a1, -, a2⟩, a3, a4⟩ := g3 c1
            obtain ⟨⟨b1, -, b2⟩, b3, b4⟩ := g2 a1
            exact ⟨⟨b1, c2.trans (a2.trans b2)⟩, b3.trans ((a4 0 (by omega)).symm.trans (c4 0 (by omega)).symm), a3.trans (c4 1 (by omega)).symm, by rw [c3]; rfl⟩
          · exact W I I4 _ _ _ _ _ S3 (((f1'.trans f2).trans f3).trans f4) M4 (finW _ 2 S3 P3.2.2.2.1 (n3.trans (nm_no (f := 597) k4)) (by decide))
        · exact cm_numW (M3.w8 rfl) (W I I3 _ _ _ _ _ S2 ((f1'.trans f2).trans f3) M3 (finW _ 1 S2 P2.2.2.2.1 (n2.trans (nm_no (f := 598) k3)) (by decide)))
      · exact cm_numW (M2.w8 rfl) (cm_numW (M2.w8 rfl) (W I I2 _ _ _ _ _ T (f1'.trans f2) M2 (finW _ 0 T hf (nm_no (f := 599) k2) (by decide))))
  · have eL : linS y n 1 w S = (false, w, sty w S) := by
      unfold linS
      rw [hi]
    rw [eL] at hK
    unfold telX
    refine ⟨fun _ => cm_numW (M1.w8 rfl) (cm_numW (M1.w8 rfl) (W I I1 _ _ _ _ w T (f1.up (by omega) (Or.inl rfl)) M1 (fun I2 f2 M2 q2 => ?_))), fun z => absurd (by decide) z⟩
    exact v_M_endsLine_0 ⟨fun _ => cm_endsW (M2.w8 rfl) (hK I2 f2 (M2.s rfl rfl) (QR_1 q2 sty_fl)), fun z => absurd (show ¬ I2 186 8 = 0 by rw [M2.w8 rfl]; decide) z⟩
theorem cm_tellingLine {y : Nat → Nat} {n w : Nat} {S : Sm} {I : MI} {L : ML} (M : LM y n w S I) (hS : SmI S) (hf : S.fl ≠ 1) (hb : bf S w) (Q : QR 1 S I) {b : Bool} {K : Bool → MI → ML → Prop} (hK : ∀ I', lfr 9 189 I I' → LM y n (linS y n 1 w S).2.1 (linS y n 1 w S).2.2 I' → QR 1 (linS y n 1 w S).2.2 I' → K b I' L) : CV m_M_tellingLine [vr 22 186] b I L K := by
  obtain ⟨m, hm, em⟩ := Q.1
  have hm : m ≤ 30 := hm
  have em : I 189 0 = nI m := em
  have w6 := M.1.1.1.2
  have hw := M.1.2
  have em2 : S.fl = 0 → m = S.tt.n := fun h0 => by
    have em2 := ((Q.2 h0).2 (by decide)).2.1
    have mb := (hS.2 h0).2.2.1
    rw [em, n_eq (by omega) (by omega)] at em2
    exact em2
  have q30 : ((I 189 (((0 : Int32)).toNatClampNeg)) < (30 : Int32)) = (m < 30) := by
    rw [cl0, em, show (30 : Int32) = nI 30 from rfl, n_lt (by omega) (by omega)]
  refine v_M_tellingLine_0 ⟨vpN (k := 0) (by omega) (by omega), fun z => ?_, fun z => ?_⟩
  · rw [q30] at z
    refine cm_telR M hS hS hf (bf_up hb (by omega)) (fun i i11 => ful_no (fun h0 => ?_)) Q rfl hK
    have e := em2 h0
    unfold fulB
    rw [decide_eq_false (by omega), decide_eq_false (by omega)]
    rfl
  · rw [q30] at z
    have nz : (blm 3 w S).fl ≠ 0 := blm_fl (by decide)
    rw [M.2.1.2.1]
    refine cm_also (k := 3) M hf hS.1 hb (by omega) (by omega) (fun I1 f1 M1 => ?_)
    refine cm_telR M1 hS (blm_I (by omega) (by omega) hS) (blm_n1 (by omega) hf) (blm_bf (bf_up hb (by omega)) (by omega)) (fun i i11 => ful_is (fun h0 => ?_)) (QR_1 (Q.1.fr (f1.1 189 (by omega) (by omega) (by omega))) nz) ?_ (fun I' f' => hK I' ((f1.up (by omega) (Or.inr rfl)).trans f'))
    · have e := em2 h0
      unfold fulB
      rw [decide_eq_true (⟨i11, by omega⟩ : 11 ≤ i ∧ 30 ≤ S.tt.n), Bool.or_true]
    · show S.gr = (blm 3 w S).gr
      unfold blm
      split <;> rfl
