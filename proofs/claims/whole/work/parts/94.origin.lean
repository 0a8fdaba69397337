/-! WHAT-IFS: origin -/
def orE (B : Bk) (a1 a2 : Int32) (d : Nat) (h : Int32) (p : Nat) : Nat := cntB (fun q => hold (bgW B a1 a2 (2 ^ p)) d q ^^ bt h q) (B.wd a1 a2).v.n
def qOr (e : Nat → Nat) (n : Nat) (far : Int32) : Int32 := if far = nI 0 then optI (lsN e n) else nI (lsV e (lsN e n))
theorem or_xor {B : Bk} {a1 a2 : Int32} {d p : Nat} {h : Int32} (hn : (B.wd a1 a2).v.n ≤ 16) (hh : inR h (2 ^ (B.wd a1 a2).v.n) = true) : hdI (bgW B a1 a2 (2 ^ p)) d ^^^ h = bI (B.wd a1 a2).v.n (fun q => hold (bgW B a1 a2 (2 ^ p)) d q ^^ bt h q) := by
  have hb := (inR_2p hn).mp hh
  refine bI_of (by omega) (fun i hi => ?_)
  rw [b_xor, show bt (hdI (bgW B a1 a2 (2 ^ p)) d) i = (decide (i < (B.wd a1 a2).v.n) && hold (bgW B a1 a2 (2 ^ p)) d i) from bI_bit _ (show (bgW B a1 a2 (2 ^ p)).v.n ≤ 32 from Nat.le_trans hn (by omega))]
  by_cases c : i < (B.wd a1 a2).v.n
  · rw [decide_eq_true c, Bool.true_and, Bool.true_and]
  · rw [decide_eq_false c, Bool.false_and, Bool.false_and, hb i (by omega) hi]
    rfl
theorem c_origin {B : Bk} {a1 a2 h far : Int32} {d : Nat} {I : MI} {L : ML} (ok : B.ok) (g2 : tkB B a1 a2 = true) (hn : (B.wd a1 a2).v.n ≤ 16) (hd : d ≤ 99) (hh : inR h (2 ^ (B.wd a1 a2).v.n) = true) (l0 : lif B a1 a2 wi0 I L) {b : Bool} {K : Int32 → Bool → MI → ML → Prop} (hK : ∀ I' L', (∀ a, a < 154 ∨ 186 ≤ a → I' a = I a) → K (qOr (orE B a1 a2 d h) (B.wd a1 a2).v.n far) b I' L') : CI m_Search_nearestBeginning [vr 15 181, vi (nI d), vi h, vi far] b I L K := by
  have he : ∀ i, orE B a1 a2 d h i ≤ 16 := fun i => Nat.le_trans (cntB_le _ _) hn
  have loop : ∀ n i, i + n = (B.wd a1 a2).v.n → ∀ (y : Wi) (I1 : MI) (L1 : ML), (y = wi0 ∨ ∃ f, y = bgX f) → (∀ a, a < 154 ∨ 186 ≤ a → I1 a = I a) → lif B a1 a2 y I1 L1 → SW m_Search_nearestBeginning 11 [vr 15 181, vi (nI d), vi h, vi far, vi (optI (lsN (orE B a1 a2 d h) i)), vi (nI (lsV (orE B a1 a2 d h) (lsN (orE B a1 a2 d h) i))), vi (nI i), un] [] b I1 L1 (kI K) := by
    intro n
    induction n with
    | zero =>
      intro i hi y I1 L1 hy f1 l1
      obtain rfl : i = (B.wd a1 a2).v.n := by omega
      have e1 : I1 154 0 = nI (B.wd a1 a2).v.n := l1.1.1.1
      have kk := hK I1 L1 f1
      unfold qOr at kk
      refine v_Search_nearestBeginning_11 ⟨fun _ => ⟨fun c => ?_, fun c => ?_⟩, fun q => absurd (by rw [e1, n_le (by omega) (by omega)]; exact Nat.le_refl _) q⟩
      · rw [if_pos (show far = nI 0 from c)] at kk
        exact kk
      · rw [if_neg (show ¬ far = nI 0 from c)] at kk
        exact kk
    | succ n ih =>
      intro i hi y I1 L1 hy f1 l1
      have e1 : I1 154 0 = nI (B.wd a1 a2).v.n := l1.1.1.1
      have b1 := lsV_le he (lsN (orE B a1 a2 d h) i)
      have b2 := he i
      obtain ⟨n1, n2⟩ := lsN_next (e := orE B a1 a2 d h) (n := i) he
      refine v_Search_nearestBeginning_11 ⟨fun q => absurd q (by rw [e1, n_le (by omega) (by omega)]; omega), fun _ => ?_⟩
      rw [show (1 : Int32) <<< (nI i &&& 31) = nI (2 ^ i) from n_shl (by omega), show nI i + (1 : Int32) = nI (i + 1) from n_add i 1]
      refine c_begunBy ok g2 hn (by omega) hy l1 (fun I2 L2 f2 l2 => ?_)
      rw [or_xor hn hh]
      refine c_bitCount hn ?_
      have nxt := ih (i + 1) (by omega) _ I2 L2 (Or.inr ⟨_, rfl⟩) (fun a ha => (f2 a ha).trans (f1 a ha)) l2
      show (nI _ ≤ nI (orE B a1 a2 d h i) → _) ∧ (¬ nI _ ≤ nI (orE B a1 a2 d h i) → _)
      rw [n_le (by omega) (by omega)]
      refine ⟨fun c => ?_, fun c => ?_⟩
      · rw [n1 c] at nxt
        exact nxt
      · rw [n2 c] at nxt
        exact nxt
  exact v_Search_nearestBeginning_0 (loop (B.wd a1 a2).v.n 0 (by omega) wi0 I L (Or.inl rfl) (fun _ _ => rfl) l0)
theorem cm_origin {B : Bk} {a1 a2 h far : Int32} {d o : Nat} {f : Nat → Bool} {I : MI} {L : ML} (hd : d ≤ 99) (hh : inR h (2 ^ (B.wd a1 a2).v.n) = true) (W : WM (B.vl a1.toNatClampNeg) (B.tlOf a2) (bgX f) o (B.wx a1 a2 (bgX f)) I L) {b : Bool} {K : Int32 → Bool → MI → ML → Prop} (hK : ∀ I' L', mfr I I' → K (qOr (orE B a1 a2 d h) (B.wd a1 a2).v.n far) b I' L') : SW m_M_origin 23 [vr 22 186, un, un, vi (nI d), vi h, vi far, vi nM, vi (nI 0), vi (nI 0), un, un] [] b I L (kI K) := by
  have hn : (B.wd a1 a2).v.n ≤ 16 := W.1.2.1.1.2
  have hn1 : 1 ≤ (B.wd a1 a2).v.n := W.1.2.1.1.1
  have he : ∀ i, orE B a1 a2 d h i ≤ 16 := fun i => Nat.le_trans (cntB_le _ _) hn
  have loop : ∀ n i, i + n = (B.wd a1 a2).v.n → ∀ (x7 : Int32) (f : Nat → Bool) (I1 : MI) (L1 : ML), mfr I I1 → WM (B.vl a1.toNatClampNeg) (B.tlOf a2) (bgX f) o (B.wx a1 a2 (bgX f)) I1 L1 → (∀ j, lsN (orE B a1 a2 d h) i = some j → x7 = nI (orE B a1 a2 d h j)) → SW m_M_origin 23 [vr 22 186, un, un, vi (nI d), vi h, vi far, vi (optI (lsN (orE B a1 a2 d h) i)), vi x7, vi (nI i), un, un] [] b I1 L1 (kI K) := by
    intro n
    induction n with
    | zero =>
      intro i hi x7 f I1 L1 f1 W1 h7
      obtain rfl : i = (B.wd a1 a2).v.n := by omega
      have kk := hK I1 L1 f1
      unfold qOr at kk
      obtain ⟨j, hj⟩ := lsN_some (e := orE B a1 a2 d h) he hn1
      have h7 := h7 j hj
      refine v_M_origin_23 (cm_people W1 ⟨fun _ => ⟨fun c => ?_, fun c => ?_⟩, fun q => absurd (show nI (B.wd a1 a2).v.n ≤ nI (B.wd a1 a2).v.n by rw [n_le (by omega) (by omega)]; exact Nat.le_refl _) q⟩)
      · rw [if_pos (show far = nI 0 from c)] at kk
        exact kk
      · rw [if_neg (show ¬ far = nI 0 from c), hj] at kk
        rw [h7]
        exact kk
    | succ n ih =>
      intro i hi x7 f I1 L1 f1 W1 h7
      have b2 := he i
      obtain ⟨n1, n2⟩ := lsN_next (e := orE B a1 a2 d h) (n := i) he
      refine v_M_origin_23 (cm_people W1 ⟨fun q => absurd (show nI (B.wd a1 a2).v.n ≤ nI i from q) (by rw [n_le (by omega) (by omega)]; omega), fun _ => ?_⟩)
      rw [show (1 : Int32) <<< (nI i &&& 31) = nI (2 ^ i) from n_shl (by omega), show nI i + (1 : Int32) = nI (i + 1) from n_add i 1]
      refine cm_isBegunBy (by omega) W1 (fun I2 L2 f2 W2 D => ?_)
      refine cm_holdersOf (u := nI 0) (by omega) W2 D ?_
      rw [if_pos rfl, or_xor hn hh]
      refine cm_bitsI hn ?_
      have fr : mfr I I2 := f1.trans f2
      have nxt := fun x7 h => ih (i + 1) (by omega) x7 (fun z => (2 ^ i).testBit z) I2 L2 fr W2 h
      show (optI _ < nI 0 → _) ∧ (¬ optI _ < nI 0 → ((nI (orE B a1 a2 d h i) < x7 → _) ∧ (¬ nI (orE B a1 a2 d h i) < x7 → _)))
      cases hl : lsN (orE B a1 a2 d h) i with
      | none =>
        rw [hl] at n1 n2
        have n2 := n2 (by show ¬ 1000 ≤ _; omega)
        have g := nxt (nI (orE B a1 a2 d h i)) (fun j hj => by
          rw [n2] at hj
          cases hj
          rfl)
        rw [n2] at g
        exact ⟨fun _ => g, fun z => absurd (show nM < nI 0 by decide) z⟩
      | some j =>
        have h7 := h7 j hl
        have hj := lsN_lt hl
        subst h7
        have b3 := he j
        rw [hl] at n1 n2
        refine ⟨fun z => absurd (show nI j < nI 0 from z) (by rw [n_lt (by omega) (by omega)]; omega), fun _ => ?_⟩
        rw [n_lt (by omega) (by omega)]
        refine ⟨fun z => ?_, fun z => ?_⟩
        · have n2 := n2 (by show ¬ orE B a1 a2 d h j ≤ _; omega)
          have g := nxt (nI (orE B a1 a2 d h i)) (fun j hj => by
            rw [n2] at hj
            cases hj
            rfl)
          rw [n2] at g
          exact g
        · have n1 := n1 (by show orE B a1 a2 d h j ≤ _; omega)
          have g := nxt (nI (orE B a1 a2 d h j)) (fun j2 hj => by
            rw [n1] at hj
            cases hj
            rfl)
          rw [n1] at g
          exact g
  exact loop (B.wd a1 a2).v.n 0 (by omega) (nI 0) f I L (fun _ _ => rfl) W (fun j hj => by cases hj)
theorem op_origin : H_origin := by
  intro a1 a2 a3 a4 a5 _
  refine Op2.q (fun B => if (inR a3 100 && (tkB B a1 a2 && inR a4 (2 ^ (B.wd a1 a2).v.n))) = true then qOr (orE B a1 a2 a3.toNatClampNeg a4) (B.wd a1 a2).v.n a5 else nM) (fun B I b L K ok hc k => ?_) (fun B I b L K ok hm k => ?_)
  · refine v_S_origin_0 (c_onDay (n := 99) (by decide) (fun g1 => ?_) (fun g1 => ?_))
    · obtain ⟨d, hd, rfl⟩ := (inR_iff (by decide)).mp g1
      rw [g1, Bool.true_and] at k
      refine ⟨fun q => absurd q (by decide), fun _ => ?_⟩
      refine c_areThere ok hc (fun g3 => ?_) (fun g3 => ?_)
      · refine ⟨fun q => absurd q (by decide), fun _ => ?_⟩
        refine c_takeW ok hc (fun g2 I1 L1 f1 W1 l0 => ?_) (fun g2 => ?_)
        · have hn := W1.vil.2.1.2
          have g4 := at_tk (a3 := a4) ok g2
          rw [g3] at g4
          rw [g2, ← g4, Bool.and_self, if_pos rfl, n_cl (by omega)] at k
          refine ⟨fun _ => ?_, fun q => absurd (by decide) q⟩
          exact c_origin ok g2 hn (by omega) g4.symm l0 (fun I2 L2 f2 => k b I2 L2 (fun a ha => (f2 a (by omega)).trans (f1 a (by omega))))
        · have kk := k b I L (fun _ _ => rfl)
          rw [g2, Bool.false_and] at kk
          exact ⟨fun q => absurd rfl q, fun _ => kk⟩
      · refine ⟨fun _ => ?_, fun q => absurd rfl q⟩
        have kk := k b I L (fun _ _ => rfl)
        have e : (tkB B a1 a2 && inR a4 (2 ^ (B.wd a1 a2).v.n)) = false := by
          cases g2 : tkB B a1 a2 with
          | false => rfl
          | true => rw [← at_tk (a3 := a4) ok g2, g3]; rfl
        rw [e] at kk
        exact kk
    · refine ⟨fun _ => ?_, fun q => absurd rfl q⟩
      have kk := k b I L (fun _ _ => rfl)
      rw [g1, Bool.false_and] at kk
      exact kk
  · refine v_M_origin_0 ?_
    refine cm_areBegun ok hm (fun g1 g2 g4 I1 L1 o f f1 W1 => ?_) (fun g I1 L1 f1 => ?_)
    · obtain ⟨d, hd, rfl⟩ := (inR_iff (by decide)).mp g1
      rw [g1, g2, g4, Bool.and_self, Bool.and_self, if_pos rfl, n_cl (by omega)] at k
      refine ⟨fun _ => ?_, fun q => absurd (by decide) q⟩
      exact cm_origin (by omega) g4 W1 (fun I2 L2 f2 => k b I2 L2 (fun a ha => (f2 a (by omega)).trans (f1 a (by omega))))
    · have kk := k b I1 L1 (fun a ha => f1 a (by omega))
      rw [g] at kk
      exact ⟨fun q => absurd rfl q, fun _ => kk⟩
