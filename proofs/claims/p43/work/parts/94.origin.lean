/-! WHAT-IFS: origin -/
def orE (B : Bk) (a1 a2 : Int32) (d : Nat) (h : Int32) (p : Nat) : Nat := cntB (fun q => hold (bgW B a1 a2 (2 ^ p)) d q ^^ bt h q) (B.wd a1 a2).v.n
def qOr (e : Nat → Nat) (n : Nat) (far : Int32) : Int32 := if far = nI 0 then optI (lsN e n) else nI (lsV e (lsN e n))
theorem or_xor {B : Bk} {a1 a2 : Int32} {d p : Nat} {h : Int32} (hn : (B.wd a1 a2).v.n ≤ 16) (hh : inR h (2 ^ (B.wd a1 a2).v.n) = true) : hdI (bgW B a1 a2 (2 ^ p)) d ^^^ h = bI (B.wd a1 a2).v.n (fun q => hold (bgW B a1 a2 (2 ^ p)) d q ^^ bt h q) := by
  have hb := (inR_2p hn).mp hh
  refine bI_of (by omega) (fun i hi => ?_)
  rw [b_xor, show bt (hdI (bgW B a1 a2 (2 ^ p)) d) i = (decide (i < (B.wd a1 a2).v.n) && hold (bgW B a1 a2 (2 ^ p)) d i) from bI_bit _ (show (bgW B a1 a2 (2 ^ p)).v.n ≤ 32 from Nat.le_trans hn (by omega))]
  by_cases c : i < (B.wd a1 a2).v.n
  · rw [decide_eq_true c, Bool.true_and, Bool.true_and]
  · rw [decide_eq_false c, Bool.false_and, Bool.false_and, hb i (by omega) hi]
    rfl
theorem c_origin {B : Bk} {a1 a2 h far : Int32} {d : Nat} {I : MI} {L : ML} (ok : B.ok) (g2 : tkB B a1 a2 = true) (hn : (B.wd a1 a2).v.n ≤ 16) (hd : d ≤ 99) (hh : inR h (2 ^ (B.wd a1 a2).v.n) = true) (l0 : lif B a1 a2 wi0 I L) {b : Bool} {K : Int32 → Bool → MI → ML → Prop} (hK : ∀ I' L', (∀ a, a < 154 ∨ 186 ≤ a → I' a = I a) → K (qOr (orE B a1 a2 d h) (B.wd a1 a2).v.n far) b I' L') : CI m_Search_nearestBeginning [vr 15 181, vi (nI d), vi h, vi far] b I L K := by
  have he : ∀ i, orE B a1 a2 d h i ≤ 16 := fun i => Nat.le_trans (cntB_le _ _) hn
  have loop : ∀ n i, i + n = (B.wd a1 a2).v.n → ∀ (y : Wi) (I1 : MI) (L1 : ML), (y = wi0 ∨ ∃ f, y = bgX f) → (∀ a, a < 154 ∨ 186 ≤ a → I1 a = I a) → lif B a1 a2 y I1 L1 → SW m_Search_nearestBeginning 11 [vr 15 181, vi (nI d), vi h, vi far, vi (optI (lsN (orE B a1 a2 d h) i)), vi (nI (lsV (orE B a1 a2 d h) (lsN (orE B a1 a2 d h) i))), vi (nI i), un] [] b I1 L1 (kI K) := by
    intro n
    induction n with
    | zero =>
      intro i hi y I1 L1 hy f1 l1
      obtain rfl : i = (B.wd a1 a2).v.n := by omega
      have e1 : I1 154 0 = nI (B.wd a1 a2).v.n := l1.1.1.1
      have kk := hK I1 L1 f1
      unfold qOr at kk
      refine v_Search_nearestBeginning_11 ⟨fun _ => ⟨fun c => ?_, fun c => ?_⟩, fun q => absurd (by rw [e1, n_le (by omega) (by omega)]; exact Nat.le_refl _) q⟩
      · rw [if_pos (show far = nI 0 from c)] at kk
        exact kk
      · rw [if_neg (show ¬ far = nI 0 from c)] at kk
        exact kk
    | succ n ih =>
      intro i hi y I1 L1 hy f1 l1
      have e1 : I1 154 0 = nI (B.wd a1 a2).v.n := l1.1.1.1
      have b1 := lsV_le he (lsN (orE B a1 a2 d h) i)
      have b2 := he i
      obtain ⟨n1, n2⟩ := lsN_next (e := orE B a1 a2 d h) (n := i) he
      refine v_Search_nearestBeginning_11 ⟨fun q => absurd q (by rw [e1, n_le (by omega) (by omega)]; omega), fun _ => ?_⟩
      rw [show (1 : Int32) <<< (nI i &&& 31) = nI (2 ^ i) from n_shl (by omega), show nI i + (1 : Int32) = nI (i + 1) from n_add i 1]
      refine c_begunBy ok g2 hn (by omega) hy l1 (fun I2 L2 f2 l2 => ?_)
      rw [or_xor hn hh]
      refine c_bitCount hn ?_
      have nxt := ih (i + 1) (by omega) _ I2 L2 (Or.inr ⟨_, rfl⟩) (fun a ha => (f2 a ha).trans (f1 a ha)) l2
      show (nI _ ≤ nI (orE B a1 a2 d h i) → _) ∧ (¬ nI _ ≤ nI (orE B a1 a2 d h i) → _)
      rw [n_le (by omega) (by omega)]
      refine ⟨fun c => ?_, fun c => ?_⟩
      · rw [n1 c] at nxt
        exact nxt
      · rw [n2 c] at nxt
        exact nxt
  exact v_Search_nearestBeginning_0 (loop (B.wd a1 a2).v.n 0 (by omega) wi0 I L (Or.inl rfl) (fun _ _ => rfl) l0)
theorem oc_origin : ∀ a1 a2 a3 a4 a5 : Int32, (a5 = 0 ∨ a5 = 1) → OpC m_S_origin [vi a1, vi a2, vi a3, vi a4, vi a5] (fun B => if (inR a3 100 && (tkB B a1 a2 && inR a4 (2 ^ (B.wd a1 a2).v.n))) = true then qOr (orE B a1 a2 a3.toNatClampNeg a4) (B.wd a1 a2).v.n a5 else nM) := by
  intro a1 a2 a3 a4 a5 _
  intro B I b L K ok hc k
  dsimp only at k
  · refine v_S_origin_0 (c_onDay (n := 99) (by decide) (fun g1 => ?_) (fun g1 => ?_))
    · obtain ⟨d, hd, rfl⟩ := (inR_iff (by decide)).mp g1
      rw [g1, Bool.true_and] at k
      refine ⟨fun q => absurd q (by decide), fun _ => ?_⟩
      refine c_areThere ok hc (fun g3 => ?_) (fun g3 => ?_)
      · refine ⟨fun q => absurd q (by decide), fun _ => ?_⟩
        refine c_takeW ok hc (fun g2 I1 L1 f1 W1 l0 => ?_) (fun g2 => ?_)
        · have hn := W1.vil.2.1.2
          have g4 := at_tk (a3 := a4) ok g2
          rw [g3] at g4
          rw [g2, ← g4, Bool.and_self, if_pos rfl, n_cl (by omega)] at k
          refine ⟨fun _ => ?_, fun q => absurd (by decide) q⟩
          exact c_origin ok g2 hn (by omega) g4.symm l0 (fun I2 L2 f2 => k b I2 L2 (fun a ha => (f2 a (by omega)).trans (f1 a (by omega))))
        · have kk := k b I L (fun _ _ => rfl)
          rw [g2, Bool.false_and] at kk
          exact ⟨fun q => absurd rfl q, fun _ => kk⟩
      · refine ⟨fun _ => ?_, fun q => absurd rfl q⟩
        have kk := k b I L (fun _ _ => rfl)
        have e : (tkB B a1 a2 && inR a4 (2 ^ (B.wd a1 a2).v.n)) = false := by
          cases g2 : tkB B a1 a2 with
          | false => rfl
          | true => rw [← at_tk (a3 := a4) ok g2, g3]; rfl
        rw [e] at kk
        exact kk
    · refine ⟨fun _ => ?_, fun q => absurd rfl q⟩
      have kk := k b I L (fun _ _ => rfl)
      rw [g1, Bool.false_and] at kk
      exact kk
