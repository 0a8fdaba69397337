/-! WHAT-IFS: join, the reference -/
theorem WM_jn {v : Vil} {t : Tel} {o a c : Nat} {I1 I' : MI} {L1 L' : ML} (W : WM v t wi0 o (mkW v v.m t wi0) I1 L1) (P : plP I1) (ha : a < v.n) (hc : c < v.n) (S : ∀ j, j < 27 → j ≠ 23 → j ≠ 24 → I' 186 j = I1 186 j) (s2 : I' 187 = I1 187) (s3 : L' 186 = L1 186) (e23 : I' 186 23 = nI a) (e24 : I' 186 24 = nI c) : WM v t wi0 o (joW v t a c) I' L' := by
  obtain ⟨⟨a1, a2, a3, a4, a5⟩, ⟨b1, b2, b3⟩, c1, d1, e1⟩ := W
  have P := P
  obtain ⟨p1, p2, p3, p4, p5, p6⟩ := P
  refine ⟨⟨rfl, addV_ok a3 ha hc, a3, a4, a5⟩, ⟨b1, (S 11 (by omega) (by omega) (by omega)).trans b2, vilM_fr s2 b3⟩, ?_, ?_, ?_⟩
  · unfold rtP telM at c1 ⊢
    rw [s2, S 12 (by omega) (by omega) (by omega)]
    exact c1
  · unfold rxP at d1 ⊢
    rw [S 26 (by omega) (by omega) (by omega), S 25 (by omega) (by omega) (by omega), S 13 (by omega) (by omega) (by omega), S 14 (by omega) (by omega) (by omega), S 15 (by omega) (by omega) (by omega), S 16 (by omega) (by omega) (by omega), S 22 (by omega) (by omega) (by omega), s3]
    exact d1
  · refine ⟨⟨rfl, rfl, rfl, rfl⟩, fun k hk => ⟨if_neg (by omega), if_neg (by omega), if_neg (by omega), if_neg (by omega)⟩, fun q hq => Or.inr ⟨Or.inl ?_, rfl⟩, fun q hq => Or.inr ⟨Or.inl ?_, rfl⟩, Or.inr ⟨⟨?_, ?_⟩, rfl, if_pos rfl, if_pos rfl, rfl, rfl⟩⟩
    · rw [S 17 (by omega) (by omega) (by omega), p1, n_eqm (by omega)]
      exact id
    · rw [S 17 (by omega) (by omega) (by omega), p1, n_eqm (by omega)]
      exact id
    · rw [e23]
      exact congrArg nI (if_pos rfl : (if v.m = v.m then a else v.fr v.m) = a).symm
    · rw [e24]
      exact congrArg nI (if_pos rfl : (if v.m = v.m then c else v.to v.m) = c).symm
theorem cm_join {v : Vil} {t : Tel} {o : Nat} {far : Int32} {I : MI} {L : ML} (W : WM v t wi0 o (mkW v v.m t wi0) I L) (P : plP I) {b : Bool} {K : Int32 → Bool → MI → ML → Prop} (hK : ∀ I' L', mfr I I' → K (qJo far (joF v t v.n 0)) b I' L') : SW m_M_join 14 [vr 22 186, un, un, vi far, vi (nI 0), un] [] b I L (kI K) := by
  have hv : v.ok 40 := W.1.2.2.1
  have hn := hv.1.2
  -- the people are those of the village, joined or not
  have ppl : ∀ (I1 : MI) (L1 : ML), (∃ w, WM v t wi0 o w I1 L1) → ∀ G : Int32 → Bool → MI → ML → Prop, G (nI v.n) b I1 L1 → CI m_M_people [vr 22 186] b I1 L1 G := fun I1 L1 ⟨w, h⟩ G g => by
    refine cm_people h ?_
    have e : w.v.n = v.n := h.2.2.2.2.1.1
    rw [e]
    exact g
  have inner : ∀ a, a < v.n → ∀ n c, c + n = v.n → ∀ (I1 : MI) (L1 : ML), mfr I I1 → (∀ j, j < 27 → j ≠ 23 → j ≠ 24 → I1 186 j = I 186 j) → L1 186 = L 186 → (∃ w, WM v t wi0 o w I1 L1) → (∀ c', fstN (joB v t a) n c = some c' → ∀ I' L', mfr I I' → K (if far = nI 0 then nI a else nI c') b I' L') → (fstN (joB v t a) n c = none → ∀ I' L', mfr I I' → (∀ j, j < 27 → j ≠ 23 → j ≠ 24 → I' 186 j = I 186 j) → L' 186 = L 186 → (∃ w, WM v t wi0 o w I' L') → SW m_M_join 14 [vr 22 186, un, un, vi far, vi (nI (a + 1)), un] [] b I' L' (kI K)) → SW m_M_join 26 [vr 22 186, un, un, vi far, vi (nI a), vi (nI c)] [] b I1 L1 (kI K) := by
    intro a ha n
    induction n with
    | zero =>
      intro c hc I1 L1 f1 g1 h1 W1 _ hno
      refine v_M_join_26 (ppl I1 L1 W1 _ ⟨fun _ => ?_, fun q => absurd (by rw [n_le (by omega) (by omega)]; omega) q⟩)
      rw [show nI a + (1 : Int32) = nI (a + 1) from n_add a 1]
      exact hno rfl I1 L1 f1 g1 h1 W1
    | succ n ih =>
      intro c hc I1 L1 f1 g1 h1 W1 hyes hno
      have hc2 : c < v.n := by omega
      have es : fstN (joB v t a) (n + 1) c = if joB v t a c = true then some c else fstN (joB v t a) n (c + 1) := rfl
      rw [es] at hyes hno
      have nxt : joB v t a c = false → ∀ (I3 : MI) (L3 : ML), mfr I I3 → (∀ j, j < 27 → j ≠ 23 → j ≠ 24 → I3 186 j = I 186 j) → L3 186 = L 186 → (∃ w, WM v t wi0 o w I3 L3) → SW m_M_join 26 [vr 22 186, un, un, vi far, vi (nI a), vi (nI (c + 1))] [] b I3 L3 (kI K) := fun z I3 L3 q1 q2 q3 q4 => by
        rw [if_neg (by rw [z]; exact Bool.false_ne_true)] at hyes hno
        exact ih (c + 1) (by omega) I3 L3 q1 q2 q3 q4 hyes hno
      refine v_M_join_26 (ppl I1 L1 W1 _ ⟨fun q => absurd q (by rw [n_le (by omega) (by omega)]; omega), fun _ => ?_⟩)
      rw [show nI c + (1 : Int32) = nI (c + 1) from n_add c 1]
      rw [n_eq (by omega) (by omega)]
      refine ⟨fun q => ?_, fun q => nxt ?_ I1 L1 f1 g1 h1 W1⟩
      · have W2 := WM_jn (I' := sI (sI I1 186 23 (nI a)) 186 24 (nI c)) (L' := L1) W P ha hc2 (fun j q1 q2 q3 => by rw [sI_j q3, sI_j q2, g1 j q1 q2 q3]) (by rw [sI_c (by omega), sI_c (by omega), f1 187 (by omega)]) h1 (by rw [sI_j (by omega), sI_at]) (sI_at _ _ _ _)
        refine cm_isClean W2 (fun I3 L3 f3 l3 => ?_)
        have W3 := W2.frM f3 (l3 186 (by decide))
        have fr : mfr I I3 := f1.trans (fun a ha => by rw [f3.1 a (by omega), sI_c (by omega), sI_c (by omega)])
        have fj : ∀ j, j < 27 → j ≠ 23 → j ≠ 24 → I3 186 j = I 186 j := fun j q1 q2 q3 => by rw [f3.2 j (by omega) (by omega), sI_j q3, sI_j q2, g1 j q1 q2 q3]
        cases z : cleanB (joW v t a c) with
        | true =>
          have e : joB v t a c = true := by
            unfold joB
            rw [decide_eq_false q, z]
            rfl
          rw [if_pos e] at hyes
          have kk := hyes c rfl I3 L3 fr
          refine ⟨fun q => absurd q (by decide), fun _ => ⟨fun y => ?_, fun y => ?_⟩⟩
          · rw [if_pos (show far = nI 0 from y)] at kk
            exact kk
          · rw [if_neg (show ¬ far = nI 0 from y)] at kk
            exact kk
        | false =>
          refine ⟨fun _ => nxt ?_ I3 L3 fr fj ((l3 186 (by decide)).trans h1) ⟨_, W3⟩, fun q => absurd rfl q⟩
          unfold joB
          rw [z, Bool.and_false]
      · unfold joB
        rw [decide_eq_true (Decidable.not_not.mp q)]
        rfl
  have outer : ∀ n a, a + n = v.n → ∀ (I1 : MI) (L1 : ML), mfr I I1 → (∀ j, j < 27 → j ≠ 23 → j ≠ 24 → I1 186 j = I 186 j) → L1 186 = L 186 → (∃ w, WM v t wi0 o w I1 L1) → (∀ I' L', mfr I I' → K (qJo far (joF v t n a)) b I' L') → SW m_M_join 14 [vr 22 186, un, un, vi far, vi (nI a), un] [] b I1 L1 (kI K) := by
    intro n
    induction n with
    | zero =>
      intro a ha I1 L1 f1 g1 h1 W1 kk
      exact v_M_join_14 (ppl I1 L1 W1 _ ⟨fun _ => kk I1 L1 f1, fun q => absurd (by rw [n_le (by omega) (by omega)]; omega) q⟩)
    | succ n ih =>
      intro a ha I1 L1 f1 g1 h1 W1 kk
      have es : joF v t (n + 1) a = match fstN (joB v t a) v.n 0 with
        | some c => some (a, c)
        | none => joF v t n (a + 1) := rfl
      refine v_M_join_14 (ppl I1 L1 W1 _ ⟨fun q => absurd q (by rw [n_le (by omega) (by omega)]; omega), fun _ => ?_⟩)
      refine inner a (by omega) v.n 0 (by omega) I1 L1 f1 g1 h1 W1 (fun c' hc' I' L' q1 => ?_) (fun hno I' L' q1 q2 q3 q4 => ?_)
      · have kk := kk I' L' q1
        rw [es, hc'] at kk
        exact kk
      · refine ih (a + 1) (by omega) I' L' q1 q2 q3 q4 (fun I' L' p1 => ?_)
        have kk := kk I' L' p1
        rw [es, hno] at kk
        exact kk
  exact outer v.n 0 (by omega) I L (fun _ _ => rfl) (fun _ _ _ _ => rfl) rfl ⟨_, W⟩ hK
theorem op_join : H_join := by
  intro a1 a2 a3 _
  refine Op2.q (fun B => if tkB B a1 a2 = true then qJo a3 (joF (B.vl a1.toNatClampNeg) (B.tlOf a2) (B.vl a1.toNatClampNeg).n 0) else nM) (fun B I b L K ok hc k => ?_) (fun B I b L K ok hm k => ?_)
  · refine v_S_join_0 (c_takeW ok hc (fun g2 I1 L1 f1 W1 l0 => ?_) (fun g2 => ?_))
    · rw [g2, if_pos rfl] at k
      obtain ⟨q, hq, e, ek, hv, ht⟩ := tk_in ok g2
      refine ⟨fun _ => ?_, fun q => absurd (by decide) q⟩
      refine c_join (by rw [e, ek]; exact hv) ht l0 (fun I2 L2 f2 => k b I2 L2 (fun a ha => (f2 a (by omega)).trans (f1 a (by omega))))
    · have kk := k b I L (fun _ _ => rfl)
      rw [g2] at kk
      exact ⟨fun q => absurd rfl q, fun _ => kk⟩
  · refine v_M_join_0 (cm_bothP ok hm (fun g2 I1 L1 o f1 W1 P => ?_) (fun g2 I1 f1 => ?_))
    · rw [g2, if_pos rfl] at k
      refine ⟨fun _ => ?_, fun q => absurd (by decide) q⟩
      exact cm_join W1 P (fun I2 L2 f2 => k b I2 L2 (fun a ha => (f2 a (by omega)).trans (f1 a (by omega))))
    · have kk := k b I1 L (fun a ha => f1 a (by omega))
      rw [g2] at kk
      exact ⟨fun q => absurd rfl q, fun _ => kk⟩
