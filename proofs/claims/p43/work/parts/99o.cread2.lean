/-! TEXTS: the class reads lines, a text -/
theorem fulB_0 {i : Nat} {S : Sm} {I : MI} {a : Nat} (C : RC S a I) (H : SmI S) (h0 : S.fl = 0) : I 140 3 = nI S.vv.m ∧ I 147 0 = nI S.tt.n ∧ S.vv.m ≤ 40 ∧ S.tt.n ≤ 30 := by
  obtain ⟨-, r2, r3, -⟩ := C.2 h0
  obtain ⟨-, g2, g3⟩ := H.2 h0
  exact ⟨r2.1.2.1, r3.1, g2.1.2.1, g3.1⟩
theorem c_readLine {y : Nat → Nat} {n w sort : Nat} {S : Sm} {I : MI} {L : ML} (hs : sort ≤ 1) (T : TP y n I) (hw : w < n) (R : RT y n w I) (C : RC S 0 I) (H : SmI S) {K : Int32 → Bool → MI → ML → Prop} (hK : ∀ I', qfr I I' → RT y n (linS y n sort w S).2.1 I' → RC (linS y n sort w S).2.2 0 I' → K (nI (linS y n sort w S).1.toNat) true I' L) : CI m_Reader_readLine [vr 13 139, vi (nI sort)] true I L K := by
  have T2 := T.1.2
  have stray : wrdS y n sort w = none → ∀ I1 : MI, qfr I I1 → RT y n w I1 → CI m_Reader_stray [vr 13 139] true I1 L (fun v_11 b_11 I_11 L_11 => ((v_11 = 0 ∨ v_11 = 1) ∧ K v_11 b_11 I_11 L_11)) := fun e I1 f1 R1 => by
    have el : linS y n sort w S = (false, w, sty w S) := by
      unfold linS
      rw [e]
    rw [el] at hK
    exact c_stray R1 (fun I' f r => ⟨Or.inl rfl, hK I' (f1.trans f.1) (f.rt R1) r⟩)
  -- the line behind its word
  have behind : ∀ i, wrdS y n sort w = some i → ∀ I1 : MI, qfr I I1 → RT y n (adv y n w) I1 → RC (ful i w S) 0 I1 → SW m_Reader_readLine 75 [vr 13 139, un, vi (nI i), vi (nI 0)] [] true I1 L (kI K) := by
    intro i e
    have hi := (wrdS_some e).1.1
    have el : linS y n sort w S = linR y n i (nmL y n i 600 (adv y n w) 0 (ful i w S)) := by
      unfold linS
      rw [e]
    obtain ⟨a1, a2, a3⟩ := adv_le (y := y) (Nat.le_of_lt hw)
    have a3 := a3 hw
    obtain ⟨f1, f2⟩ := ful_I (i := i) (w := w) H
    rw [el] at hK
    have loop : ∀ f a w' (S' : Sm), a + f = 600 → w' ≤ n → n - w' < f → SmI S' → nbI i a S' → (∀ I', qfr I I' → RT y n (linR y n i (nmL y n i f w' a S')).2.1 I' → RC (linR y n i (nmL y n i f w' a S')).2.2 0 I' → K (nI (linR y n i (nmL y n i f w' a S')).1.toNat) true I' L) → ∀ I1 : MI, qfr I I1 → RT y n w' I1 → RC S' a I1 → SW m_Reader_readLine 75 [vr 13 139, un, vi (nI i), vi (nI a)] [] true I1 L (kI K) := by
      intro f
      induction f with
      | zero => exact fun a w' S' _ _ h => absurd h (Nat.not_lt_zero _)
      | succ f ih =>
        intro a w' S' haf hw' hf H' N' kk I1 q1 R1 C1
        have hnd : needW i ≤ 4 := by
          unfold needW
          repeat' split
          all_goals omega
        -- the numbers are through
        have exit : ¬ (kin y n w' = 2 ∧ (a < needW i ∨ isKW i = true)) → CI m_Reader_needed [vi (nI i)] true I1 L (fun v_1 b_1 I_1 L_1 => ((nI a < v_1 → CI m_Reader_stray [vr 13 139] b_1 I_1 L_1 (fun v_2 b_2 I_2 L_2 => ((v_2 = 0 ∨ v_2 = 1) ∧ K v_2 b_2 I_2 L_2))) ∧ (¬ nI a < v_1 → (((I_1 139 6) = (3 : Int32) → ((¬ (I_1 139 2) = 0 → CV m_Reader_next [vr 13 139] b_1 I_1 L_1 (fun b_3 I_3 L_3 => (((1 : Int32) = 0 ∨ (1 : Int32) = 1) ∧ K (1 : Int32) b_3 I_3 L_3))) ∧ (¬ (¬ (I_1 139 2) = 0) → CV m_Reader_tell [vr 13 139, vi (nI i)] b_1 I_1 L_1 (fun b_4 I_4 L_4 => CV m_Reader_next [vr 13 139] b_4 I_4 L_4 (fun b_5 I_5 L_5 => (((1 : Int32) = 0 ∨ (1 : Int32) = 1) ∧ K (1 : Int32) b_5 I_5 L_5)))))) ∧ (¬ (I_1 139 6) = (3 : Int32) → CI m_Reader_stray [vr 13 139] b_1 I_1 L_1 (fun v_6 b_6 I_6 L_6 => ((v_6 = 0 ∨ v_6 = 1) ∧ K v_6 b_6 I_6 L_6))))))) := fun c => by
          have en : nmL y n i (f + 1) w' a S' = (w', a, S') := by
            unfold nmL
            rw [if_neg c]
          rw [en] at kk
          refine c_needed hi ?_
          have ks := kin_le y n w'
          rw [n_lt (by omega) (by omega), R1.2.1, show (3 : Int32) = nI 3 from rfl, n_eq (by omega) (by omega)]
          have sy : (a < needW i ∨ ¬ kin y n w' = 3) → CI m_Reader_stray [vr 13 139] true I1 L (fun v_2 b_2 I_2 L_2 => ((v_2 = 0 ∨ v_2 = 1) ∧ K v_2 b_2 I_2 L_2)) := fun d => by
            have er : linR y n i (w', a, S') = (false, w', sty w' S') := if_pos d
            rw [er] at kk
            exact c_stray R1 (fun I' g r => ⟨Or.inl rfl, kk I' (q1.trans g.1) (g.rt R1) r⟩)
          refine ⟨fun d => sy (Or.inl d), fun d => ⟨fun d2 => ?_, fun d2 => sy (Or.inr d2)⟩⟩
          have er : linR y n i (w', a, S') = (true, adv y n w', telW i S') := if_neg (fun z => z.elim d (fun z => z d2))
          rw [er] at kk
          have T1 := q1.tp T
          have nx := nxt_le (y := y) hw'
          have hfl := H'.1
          rw [C1.1.1, show ((0 : Int32)) = nI 0 from rfl, n_eq (by omega) (by omega)]
          refine ⟨fun z => ?_, fun z => ?_⟩
          · have et : telW i S' = S' := if_neg z
            rw [et] at kk
            exact c_next T1 nx.2.1 R1.1 (fun I' g r => ⟨Or.inr rfl, kk I' (q1.trans g.q) r ((C1.less (Nat.zero_le _)).r g)⟩)
          · refine c_tellR hi (by omega) (Decidable.not_not.mp z) C1 N' (fun I2 g2 r2 => ?_)
            exact c_next (g2.1.tp T1) nx.2.1 (by rw [g2.2 5 (by omega) (by omega)]; exact R1.1) (fun I' g r => ⟨Or.inr rfl, kk I' ((q1.trans g2.1).trans g.q) r (r2.r g)⟩)
        -- one more number
        have more : kin y n w' = 2 → (a < needW i ∨ isKW i = true) → CV m_Reader_accept [vr 13 139, vi (nI i), vi (nI a)] true I1 L (fun b_14 I_14 L_14 => CV m_Reader_next [vr 13 139] b_14 I_14 L_14 (fun b_15 I_15 L_15 => SW m_Reader_readLine 75 [vr 13 139, un, vi (nI i), vi (nI a + (1 : Int32))] [] b_15 I_15 L_15 (kI K))) := fun k2 d => by
          have en : nmL y n i (f + 1) w' a S' = nmL y n i f (adv y n w') (a + 1) (accW i a (nmb y n w') w' S') := by
            show (if kin y n w' = 2 ∧ (a < needW i ∨ isKW i = true) then _ else _) = _
            rw [if_pos ⟨k2, d⟩]
          rw [en] at kk
          have wn : w' < n := kin_lt (by rw [k2]; decide)
          obtain ⟨b1, b2, b3⟩ := adv_le (y := y) hw'
          have b3 := b3 wn
          have nx := nxt_le (y := y) hw'
          obtain ⟨g1, g2⟩ := accW_I (w := w') hi (nmb_le k2) H' N'
          refine c_accept hi (by omega) k2 R1 C1 H' N' (fun I2 f2 r2 => ?_)
          rw [show nI a + (1 : Int32) = nI (a + 1) from n_add a 1]
          refine c_next (f2.1.tp (q1.tp T)) nx.2.1 (by rw [f2.2 5 (by omega) (by omega)]; exact R1.1) (fun I3 f3 r3 => ?_)
          exact ih (a + 1) (adv y n w') _ (by omega) b2 (by omega) g1 g2 kk I3 ((q1.trans f2.1).trans f3.q) r3 (r2.r f3)
        have ks := kin_le y n w'
        refine v_Reader_readLine_75 ⟨fun z => absurd z (by rw [show (600 : Int32) = nI 600 from rfl, n_le (by omega) (by omega)]; omega), fun _ => ?_⟩
        rw [R1.2.1, show (2 : Int32) = nI 2 from rfl, n_eq (by omega) (by omega)]
        refine ⟨fun z => exit (fun d => z d.1), fun z => c_needed hi ?_⟩
        have k2 := Decidable.not_not.mp z
        rw [n_lt (by omega) (by omega)]
        refine ⟨fun d => more k2 (Or.inl d), fun d => c_isKind hi ?_⟩
        cases hk : isKW i with
        | false => exact ⟨fun _ => exit (fun g => g.2.elim d (fun z => by rw [hk] at z; cases z)), fun g => absurd rfl g⟩
        | true => exact ⟨fun g => absurd g (by decide), fun _ => more k2 (Or.inr hk)⟩
    intro I1 q1 R1 C1
    exact loop 600 0 (adv y n w) (ful i w S) (by omega) a2 (by omega) f1 f2 hK I1 q1 R1 C1
  have nx := nxt_le (y := y) (Nat.le_of_lt hw)
  have ks := kin_le y n w
  refine v_Reader_readLine_0 ?_
  rw [R.2.1, show (1 : Int32) = nI 1 from rfl, n_eq (by omega) (by omega)]
  refine ⟨fun z => ⟨fun q => absurd rfl q, fun _ => stray ?_ I (fun _ _ => rfl) R⟩, fun z => ?_⟩
  · unfold wrdS
    rw [if_neg z]
  have k1 := Decidable.not_not.mp z
  refine c_wordOf T R (Nat.le_of_lt hw) hs k1 ?_
  cases e : wrdS y n sort w with
  | none => exact ⟨fun q => absurd rfl q, fun _ => stray e I (fun _ _ => rfl) R⟩
  | some i =>
    have hi := (wrdS_some e).1.1
    have bh := behind i e
    -- on, with the fault or without
    have go : ∀ I1 : MI, tfr I I1 → RC (ful i w S) 0 I1 → CV m_Reader_next [vr 13 139] true I1 L (fun b_13 I_13 L_13 => SW m_Reader_readLine 75 [vr 13 139, un, vi (nI i), vi (0 : Int32)] [] b_13 I_13 L_13 (kI K)) := fun I1 g1 c1 => c_next (g1.1.tp T) nx.2.1 (by rw [g1.2 5 (by omega) (by omega)]; exact R.1) (fun I' g r => bh I' (g1.1.trans g.q) r (c1.r g))
    have no : (S.fl = 0 → fulB i S = false) → CV m_Reader_next [vr 13 139] true I L (fun b_13 I_13 L_13 => SW m_Reader_readLine 75 [vr 13 139, un, vi (nI i), vi (0 : Int32)] [] b_13 I_13 L_13 (kI K)) := fun h => go I tfr_0 (by
      unfold ful
      by_cases h0 : S.fl = 0
      · rw [if_neg (by rw [h h0]; exact Bool.false_ne_true)]
        exact C
      · cases c : fulB i S with
        | false =>
          rw [if_neg Bool.false_ne_true]
          exact C
        | true =>
          rw [if_pos rfl]
          unfold blm
          rw [if_neg h0]
          exact C)
    have yes : (S.fl = 0 → fulB i S = true) → CV m_Reader_blame [vr 13 139, vi (nI 3)] true I L (fun b_3 I_3 L_3 => CV m_Reader_next [vr 13 139] b_3 I_3 L_3 (fun b_13 I_13 L_13 => SW m_Reader_readLine 75 [vr 13 139, un, vi (nI i), vi (0 : Int32)] [] b_13 I_13 L_13 (kI K))) := fun h => c_blame (k := 3) H.1 R C (fun I1 g1 c1 => go I1 g1 (by
      unfold ful
      by_cases h0 : S.fl = 0
      · rw [if_pos (h h0)]
        exact c1
      · unfold blm at c1 ⊢
        rw [if_neg h0] at c1 ⊢
        rw [ite_self]
        exact c1)) (by decide)
    -- the acts
    have acts : ((nI i < (11 : Int32) → CV m_Reader_next [vr 13 139] true I L (fun b_13 I_13 L_13 => SW m_Reader_readLine 75 [vr 13 139, un, vi (nI i), vi (0 : Int32)] [] b_13 I_13 L_13 (kI K))) ∧ (¬ nI i < (11 : Int32) → (((I 147 0) < (30 : Int32) → CV m_Reader_next [vr 13 139] true I L (fun b_14 I_14 L_14 => SW m_Reader_readLine 75 [vr 13 139, un, vi (nI i), vi (0 : Int32)] [] b_14 I_14 L_14 (kI K))) ∧ (¬ (I 147 0) < (30 : Int32) → CV m_Reader_blame [vr 13 139, vi (3 : Int32)] true I L (fun b_15 I_15 L_15 => CV m_Reader_next [vr 13 139] b_15 I_15 L_15 (fun b_16 I_16 L_16 => SW m_Reader_readLine 75 [vr 13 139, un, vi (nI i), vi (0 : Int32)] [] b_16 I_16 L_16 (kI K))))))) ∨ (S.fl = 0 ∧ i = 8 ∧ 40 ≤ S.vv.m) := by
      by_cases c8 : S.fl = 0 ∧ i = 8 ∧ 40 ≤ S.vv.m
      · exact Or.inr c8
      · refine Or.inl ?_
        rw [show (11 : Int32) = nI 11 from rfl, n_lt (by omega) (by omega)]
        refine ⟨fun c => no (fun h0 => ?_), fun c => ⟨fun d => no (fun h0 => ?_), fun d => yes (fun h0 => ?_)⟩⟩
        · unfold fulB
          rw [decide_eq_false (fun g => c8 ⟨h0, g⟩), decide_eq_false (fun g => by omega)]
          rfl
        · obtain ⟨-, e2, -, e4⟩ := fulB_0 (i := i) C H h0
          rw [e2, show (30 : Int32) = nI 30 from rfl, n_lt (by omega) (by omega)] at d
          unfold fulB
          rw [decide_eq_false (fun g => by omega), decide_eq_false (fun g => by omega)]
          rfl
        · obtain ⟨-, e2, -, e4⟩ := fulB_0 (i := i) C H h0
          rw [e2, show (30 : Int32) = nI 30 from rfl, n_lt (by omega) (by omega)] at d
          unfold fulB
          rw [decide_eq_true (⟨by omega, by omega⟩ : 11 ≤ i ∧ 30 ≤ S.tt.n), Bool.or_true]
    refine ⟨fun _ => ⟨fun c => ?_, fun c => ⟨fun d => yes (fun h0 => ?_), fun d => ?_⟩⟩, fun q => absurd (show ¬ nI i = nM by rw [n_eqm (by omega)]; exact id) q⟩
    · have c : ¬ nI i = nI 8 := c
      rw [n_eq (by omega) (by omega)] at c
      rcases acts with g | g
      · exact g
      · exact absurd g.2.1 c
    · have c := Decidable.not_not.mp c
      have c : nI i = nI 8 := c
      rw [n_eq (by omega) (by omega)] at c
      obtain ⟨e1, -, e3, -⟩ := fulB_0 (i := i) C H h0
      rw [e1, show (40 : Int32) = nI 40 from rfl, n_le (by omega) (by omega)] at d
      unfold fulB
      rw [decide_eq_true ⟨c, d⟩]
      rfl
    · rcases acts with g | g
      · exact g
      · obtain ⟨e1, -, e3, -⟩ := fulB_0 (i := i) C H g.1
        rw [e1, show (40 : Int32) = nI 40 from rfl, n_le (by omega) (by omega)] at d
        exact absurd g.2.2 d
theorem c_read {y : Nat → Nat} {n sort : Nat} {I : MI} {L : ML} (hs : sort ≤ 1) (T : TP y n I) {b : Bool} {K : Bool → MI → ML → Prop} (hK : ∀ I', qfr I I' → RC (parS y n sort) 0 I' → K true I' L) : CV m_Reader_read [vr 13 139, vi (nI sort), vr 17 4] b I L K := by
  have T2 := T.1.2
  refine v_Reader_read_0 (v_Village_clear_0 (c_fillB (fun I1 f1 g1 => c_fillB (fun I2 f2 g2 => ?_))))
  simp only [Nat.reduceAdd] at f1 g1 f2 g2
  have w0 := rnT_le (f := isBl) (y := y) (n := n) (p := 0) (Nat.zero_le _)
  -- all is as at the start
  have q0 : ∀ c, c < 139 ∨ 153 ≤ c → sI (sI (sI (sI (sI I2 140 3 (0 : Int32)) 140 8 (0 : Int32)) 140 9 (0 : Int32)) 140 10 (0 : Int32)) 147 0 (0 : Int32) c = I c := fun c hc => by
    rw [sI_c (by omega), sI_c (by omega), sI_c (by omega), sI_c (by omega), sI_c (by omega), f2 c (by omega), f1 c (by omega), sI_c (by omega), sI_c (by omega), sI_c (by omega), sI_c (by omega), sI_c (by omega)]
  have e139 : ∀ j, sI (sI (sI (sI (sI I2 140 3 (0 : Int32)) 140 8 (0 : Int32)) 140 9 (0 : Int32)) 140 10 (0 : Int32)) 147 0 (0 : Int32) 139 j = sI (sI (sI (sI I 139 5 (0 : Int32)) 139 2 (0 : Int32)) 139 3 (-1 : Int32)) 139 9 (0 : Int32) 139 j := fun j => by
    rw [sI_c (by omega), sI_c (by omega), sI_c (by omega), sI_c (by omega), sI_c (by omega), f2 139 (by omega), f1 139 (by omega), sI_c (by omega)]
  have C0 : RC S0 0 (sI (sI (sI (sI (sI I2 140 3 (0 : Int32)) 140 8 (0 : Int32)) 140 9 (0 : Int32)) 140 10 (0 : Int32)) 147 0 (0 : Int32)) := by
    refine ⟨⟨?_, ?_⟩, fun _ => ⟨?_, ⟨⟨?_, ?_, ?_, ?_, ?_⟩, fun p hp => ⟨?_, ?_⟩, fun t ht => absurd ht (Nat.not_lt_zero _)⟩, ⟨?_, fun k hk => absurd hk (Nat.not_lt_zero _)⟩, fun j hj => absurd hj (Nat.not_lt_zero _)⟩⟩
    · rw [e139, sI_j (by omega), sI_j (by omega), sI_at]
      rfl
    · rw [e139, sI_j (by omega), sI_at]
      rfl
    · rw [e139, sI_at]
      rfl
    · rw [sI_c (by omega), sI_j (by omega), sI_j (by omega), sI_j (by omega), sI_j (by omega), f2 140 (by omega), f1 140 (by omega), sI_at]
      rfl
    · rw [sI_c (by omega), sI_j (by omega), sI_j (by omega), sI_j (by omega), sI_at]
      rfl
    · rw [sI_c (by omega), sI_j (by omega), sI_j (by omega), sI_at]
      rfl
    · rw [sI_c (by omega), sI_j (by omega), sI_at]
      rfl
    · rw [sI_c (by omega), sI_at]
      rfl
    · simp only [Nat.reduceAdd]
      rw [sI_c (by omega), sI_c (by omega), sI_c (by omega), sI_c (by omega), sI_c (by omega), f2 141 (by omega), g1 p hp]
      rfl
    · simp only [Nat.reduceAdd]
      rw [sI_c (by omega), sI_c (by omega), sI_c (by omega), sI_c (by omega), sI_c (by omega), g2 p hp]
      rfl
    · rw [sI_at]
      rfl
  have T0 : TP y n (sI (sI (sI (sI (sI I2 140 3 (0 : Int32)) 140 8 (0 : Int32)) 140 9 (0 : Int32)) 140 10 (0 : Int32)) 147 0 (0 : Int32)) := T.fr (q0 4 (by omega)) (q0 5 (by omega))
  refine c_next T0 (Nat.zero_le _) ?_ (fun I3 f3 R3 => ?_)
  · rw [e139, sI_j (by omega), sI_j (by omega), sI_j (by omega), sI_at]
    rfl
  -- at the end
  have last : ∀ (S : Sm) (I4 : MI), qfr I I4 → SmI S → RC S 0 I4 → (last4 n sort S = parS y n sort) → ((¬ (I4 139 2) = 0 → K true I4 L) ∧ (¬ (¬ (I4 139 2) = 0) → ((¬ nI sort = 0 → K true I4 L) ∧ (¬ (¬ nI sort = 0) → (((I4 139 9) < (I4 140 0) → K true I4 L) ∧ (¬ (I4 139 9) < (I4 140 0) → (true = true ∧ K true (sI (sI I4 139 2 (4 : Int32)) 139 3 (I4 4 1)) L))))))) := by
    intro S I4 f4 H4 C4 e
    rw [← e] at hK
    unfold last4 at hK
    have hfl := H4.1
    rw [C4.1.1, show ((0 : Int32)) = nI 0 from rfl, n_eq (a := S.fl) (by omega) (by omega), n_eq (a := sort) (by omega) (by omega)]
    refine ⟨fun z => ?_, fun z => ⟨fun z2 => ?_, fun z2 => ?_⟩⟩
    · rw [if_neg (fun q => z q.1)] at hK
      exact hK I4 f4 C4
    · rw [if_neg (fun q => z2 q.2.1)] at hK
      exact hK I4 f4 C4
    · have z := Decidable.not_not.mp z
      have z2 := Decidable.not_not.mp z2
      obtain ⟨r1, r2, -, -⟩ := C4.2 z
      obtain ⟨g1, g2, -⟩ := H4.2 z
      have vn := g2.1.1.2
      rw [r1, show I4 140 0 = nI S.vv.n from r2.1.1, n_lt (by omega) (by omega)]
      refine ⟨fun q => ?_, fun q => ⟨rfl, ?_⟩⟩
      · rw [if_neg (fun g => by omega)] at hK
        exact hK I4 f4 C4
      · rw [if_pos ⟨z, z2, by omega⟩] at hK
        refine hK _ (f4.trans (fun c hc => by rw [sI_c (by omega), sI_c (by omega)])) ⟨⟨?_, ?_⟩, fun g => absurd g (by decide : ¬ (4 : Nat) = 0)⟩
        · rw [sI_j (by omega), sI_at]
          rfl
        · rw [sI_at, f4 4 (by omega), T.1.1]
          rfl
  have loop : ∀ f k w (S : Sm), k + f = 601 → w ≤ n → k ≤ w → SmI S → (last4 n sort (lins y n sort f w S).2 = parS y n sort) → ∀ I4 : MI, qfr I I4 → RT y n w I4 → RC S 0 I4 → SW m_Reader_read 49 [vr 13 139, vi (nI sort), un, vi (nI 1), vi (nI k)] [] true I4 L (kV K) := by
    intro f
    induction f with
    | zero => exact fun k w S hk hw hkw => by omega
    | succ f ih =>
      intro k w S hk hw hkw H4 e I4 f4 R4 C4
      have ks := kin_le y n w
      -- one more turn, with nothing to read
      have stop : ∀ (S' : Sm) (I5 : MI), qfr I I5 → SmI S' → RC S' 0 I5 → (last4 n sort S' = parS y n sort) → SW m_Reader_read 49 [vr 13 139, vi (nI sort), un, vi (0 : Int32), vi (nI (k + 1))] [] true I5 L (kV K) := fun S' I5 f5 H5 C5 e5 => by
        have g := last S' I5 f5 H5 C5 e5
        exact v_Reader_read_49 ⟨fun _ => g, fun _ => ⟨fun _ => g, fun z => absurd rfl z⟩⟩
      unfold lins at e
      refine v_Reader_read_49 ⟨fun z => absurd z (by rw [show (600 : Int32) = nI 600 from rfl, n_lt (by omega) (by omega)]; omega), fun _ => ⟨fun z => absurd z (by decide), fun _ => ?_⟩⟩
      rw [R4.2.1, show ((0 : Int32)) = nI 0 from rfl, n_eq (by omega) (by omega), show nI k + (1 : Int32) = nI (k + 1) from n_add k 1]
      refine ⟨fun z => ?_, fun z => ?_⟩
      · rw [if_pos z] at e
        exact stop S I4 f4 H4 C4 e
      · rw [if_neg z] at e
        have wn := kin_lt z
        obtain ⟨l1, l2, l3⟩ := linS_I (sort := sort) T2 wn H4
        refine c_readLine hs (f4.tp T) wn R4 C4 H4 (fun I5 f5 R5 C5 => ?_)
        have fr := f4.trans f5
        cases c : (linS y n sort w S).1 with
        | true =>
          rw [if_pos c] at e
          have l3 := l3 c
          exact ⟨fun q => absurd q (by decide), fun _ => ih (k + 1) _ _ (by omega) l2 (by omega) l1 e I5 fr R5 C5⟩
        | false =>
          rw [if_neg (by rw [c]; exact Bool.false_ne_true)] at e
          exact ⟨fun _ => stop _ I5 fr l1 C5 e, fun q => absurd rfl q⟩
  exact loop 601 0 (whr y n 0) S0 (by omega) w0.2 (Nat.zero_le _) S0_I rfl I3 (fun c hc => by rw [f3.q c hc, q0 c hc]) R3 (C0.r f3)
