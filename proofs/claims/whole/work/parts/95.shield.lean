/-! WHAT-IFS: shield -/
def shW (B : Bk) (a1 a2 : Int32) (x : Nat) : Wd := B.wx a1 a2 (siX x.testBit)
def shP (B : Bk) (a1 a2 : Int32) (p x : Nat) : Bool := !x.testBit p && !anyN 201 (fun e => hold (shW B a1 a2 x) e p)
theorem sh_bit {B : Bk} {a1 a2 : Int32} {p x : Nat} (hn : (B.wd a1 a2).v.n ≤ 16) (hp : p < (B.wd a1 a2).v.n) : bt (evI (shW B a1 a2 x) 201) p = anyN 201 (fun e => hold (shW B a1 a2 x) e p) := by
  unfold evI
  have hp' : p < (shW B a1 a2 x).v.n := hp
  rw [bI_bit _ (show (shW B a1 a2 x).v.n ≤ 32 from Nat.le_trans hn (by omega)), decide_eq_true hp', Bool.true_and]
theorem c_shield {B : Bk} {a1 a2 : Int32} {p most : Nat} {I : MI} {L : ML} (ok : B.ok) (g2 : tkB B a1 a2 = true) (hn : (B.wd a1 a2).v.n ≤ 16) (hp : p < (B.wd a1 a2).v.n) (hm : most ≤ 2) (l0 : lif B a1 a2 wi0 I L) {b : Bool} {K : Int32 → Bool → MI → ML → Prop} (hK : ∀ I' L', (∀ a, a < 154 ∨ 186 ≤ a → I' a = I a) → K (optI (szF (shP B a1 a2 p) (B.wd a1 a2).v.n (most + 1) 0)) b I' L') : CI m_Search_leastShield [vr 15 181, vi (nI p), vi (nI most)] b I L K := by
  have h16 : 2 ^ (B.wd a1 a2).v.n ≤ 2 ^ 16 := Nat.pow_le_pow_right (by decide) hn
  have p1 : 1 ≤ 2 ^ (B.wd a1 a2).v.n := Nat.one_le_two_pow
  have inner : ∀ lo z, lo ≤ 3 → 2 ^ (B.wd a1 a2).v.n ≤ z → z < 9223372036854775808 → ∀ (S : List Nat) (i : Nat), wlk z S = true → (∀ x, x ∈ S → x < 2 ^ (B.wd a1 a2).v.n) → i + S.length < 1000 → ∀ (f : Nat → Bool) (I1 : MI) (L1 : ML), (∀ a, a < 154 ∨ 186 ≤ a → I1 a = I a) → lif B a1 a2 (siX f) I1 L1 → (∀ x, S.find? (shP B a1 a2 p) = some x → ∀ I' L', (∀ a, a < 154 ∨ 186 ≤ a → I' a = I a) → K (nI x) b I' L') → (S.find? (shP B a1 a2 p) = none → ∀ I' L' f, (∀ a, a < 154 ∨ 186 ≤ a → I' a = I a) → lif B a1 a2 (siX f) I' L' → SW m_Search_leastShield 2 [vr 15 181, vi (nI p), vi (nI most), vi (nI (lo + 1)), un, un, un] [] b I' L' (kI K)) → SW m_Search_leastShield 16 [vr 15 181, vi (nI p), vi (nI most), vi (nI lo), vl (gN (S.headD z)), un, vi (nI i)] [] b I1 L1 (kI K) := by
    intro lo z z2 z3 z4 S
    induction S with
    | nil =>
      intro i _ _ hi f I1 L1 f1 l1 _ hno
      have hi : i < 1000 := hi
      refine v_Search_leastShield_16 ⟨fun q => absurd q (by rw [show (1000 : Int32) = nI 1000 from rfl, n_le (by omega) (by omega)]; omega), fun _ => c_all hn l1.1.1.1 ⟨fun _ => ?_, fun q => absurd ?_ q⟩⟩
      · rw [show nI lo + (1 : Int32) = nI (lo + 1) from n_add lo 1]
        exact hno rfl I1 L1 f f1 l1
      · show nI 0 < lg_cmp (gN z) _
        rw [l_64 (by omega), lg_gt z4 (by omega)]
        omega
    | cons x S ih =>
      intro i hw hx hi f I1 L1 f1 l1 hyes hno
      have hi : i + (S.length + 1) < 1000 := hi
      have x2 := hx x (List.mem_cons_self ..)
      unfold wlk at hw
      rw [Bool.and_eq_true, decide_eq_true_iff] at hw
      refine v_Search_leastShield_16 ⟨fun q => absurd q (by rw [show (1000 : Int32) = nI 1000 from rfl, n_le (by omega) (by omega)]; omega), fun _ => c_all hn l1.1.1.1 ⟨fun q => absurd q ?_, fun _ => v_Given_silence_0 ?_⟩⟩
      · show ¬ nI 0 < lg_cmp (gN x) _
        rw [l_64 (by omega), lg_gt (by omega) (by omega)]
        omega
      show (¬ lg_cmp ((gN x >>> ((nI p).toInt64 &&& 63)) &&& 1) 0 = nI 0 → _) ∧ (¬ ¬ lg_cmp ((gN x >>> ((nI p).toInt64 &&& 63)) &&& 1) 0 = nI 0 → _)
      rw [l_cmp (by omega), show bl (gN x) p = x.testBit p by rw [bl_gN, decide_eq_true (by omega), Bool.true_and]]
      show (¬ _ = nI 0 → CL m_Search_nextSet [vl (gN x)] b (sI I1 161 11 (Int64.toInt32 (gN x))) L1 (fun v_3 b_3 I_3 L_3 => SW m_Search_leastShield 16 [vr 15 181, vi (nI p), vi (nI most), vi (nI lo), vl v_3, un, vi (nI i + nI 1)] [] b_3 I_3 L_3 (kI K))) ∧ _
      rw [l_32, n_add]
      have l2 := lif_si (g := x.testBit) (m := nI x) (fun q hq => bt_nI hq) l1
      have nxt : ∀ I' L', shP B a1 a2 p x = false → (∀ a, a < 154 ∨ 186 ≤ a → I' a = I a) → lif B a1 a2 (siX x.testBit) I' L' → SW m_Search_leastShield 16 [vr 15 181, vi (nI p), vi (nI most), vi (nI lo), vl (nxL (gN x)), un, vi (nI (i + 1))] [] b I' L' (kI K) := fun I' L' c q1 q2 => by
        have en : (x :: S).find? (shP B a1 a2 p) = S.find? (shP B a1 a2 p) := List.find?_cons_of_neg (by rw [c]; exact Bool.false_ne_true)
        rw [en] at hyes hno
        rw [hw.1]
        exact ih (i + 1) hw.2 (fun y hy => hx y (List.mem_cons_of_mem _ hy)) (by omega) _ I' L' q1 q2 hyes hno
      have fr2 : ∀ a, a < 154 ∨ 186 ≤ a → sI I1 161 11 (nI x) a = I a := fun a ha => by rw [sI_c (by omega), f1 a ha]
      rw [n_b0]
      refine ⟨fun q => c_nextSet (nxt _ L1 ?_ fr2 l2), fun q => ?_⟩
      · unfold shP
        cases z : x.testBit p with
        | true => rfl
        | false => exact absurd z q
      · have q := Decidable.not_not.mp q
        have W2 : WL (shW B a1 a2 x) (sI I1 161 11 (nI x)) L1 := lif_W ok g2 (siX_ok _) l2
        show CI m_Search_everHolders [vr 15 181] b (sI I1 161 11 (Int64.toInt32 (gN x))) L1 _
        rw [l_32]
        refine c_ever W2 W2.still (fun I3 L3 f3 m3 => ?_)
        have fr3 : ∀ a, a < 154 ∨ 186 ≤ a → I3 a = I a := fun a ha => (f3 a (by omega)).trans (fr2 a ha)
        have l3 := lif_fr (I' := I3) (L' := L3) (fun a q1 q2 => f3 a (by omega)) (fun a ha => m3 a (by omega) (by omega) (by omega)) l2
        show (¬ (evI (shW B a1 a2 x) 201 >>> (nI p &&& nI 31)) &&& nI 1 = nI 0 → _) ∧ (¬ ¬ (evI (shW B a1 a2 x) 201 >>> (nI p &&& nI 31)) &&& nI 1 = nI 0 → _)
        rw [n_bit (by omega), sh_bit hn hp, n_b0]
        refine ⟨fun c => c_nextSet ?_, fun c => ?_⟩
        · show SW m_Search_leastShield 16 [vr 15 181, vi (nI p), vi (nI most), vi (nI lo), vl (nxL (gN x)), un, vi (nI i + nI 1)] [] b I3 L3 (kI K)
          rw [n_add]
          refine nxt I3 L3 ?_ fr3 l3
          unfold shP
          cases z : anyN 201 (fun e => hold (shW B a1 a2 x) e p) with
          | true => rw [Bool.not_true, Bool.and_false]
          | false => exact absurd z c
        · have c := Decidable.not_not.mp c
          have hP : shP B a1 a2 p x = true := by
            unfold shP
            rw [q, c]
            rfl
          show K (Int64.toInt32 (gN x)) b I3 L3
          rw [l_32]
          exact hyes x (List.find?_cons_of_pos hP) I3 L3 fr3
  have outer : ∀ c lo, c + lo = most + 1 → ∀ (f : Nat → Bool) (I1 : MI) (L1 : ML), (∀ a, a < 154 ∨ 186 ≤ a → I1 a = I a) → lif B a1 a2 (siX f) I1 L1 → (∀ I' L', (∀ a, a < 154 ∨ 186 ≤ a → I' a = I a) → K (optI (szF (shP B a1 a2 p) (B.wd a1 a2).v.n c lo)) b I' L') → SW m_Search_leastShield 2 [vr 15 181, vi (nI p), vi (nI most), vi (nI lo), un, un, un] [] b I1 L1 (kI K) := by
    intro c
    induction c with
    | zero =>
      intro lo hc f I1 L1 f1 l1 kk
      exact v_Search_leastShield_2 ⟨fun _ => kk I1 L1 f1, fun q => absurd (by rw [n_lt (by omega) (by omega)]; omega) q⟩
    | succ c ih =>
      intro lo hc f I1 L1 f1 l1 kk
      obtain ⟨w1, w2, w3, w4, w5, w6⟩ := setsP_of (sets_16 _ (Nat.lt_succ_of_le hn) lo (by omega))
      refine v_Search_leastShield_2 ⟨fun q => absurd q (by rw [n_lt (by omega) (by omega)]; omega), fun _ => c_firstSet (by omega) ?_⟩
      have g := inner lo _ (by omega) w5 w6 (LsA (B.wd a1 a2).v.n lo) 0 w1 w3 (by omega) f I1 L1 f1 l1 (fun x hx I' L' q1 => ?_) (fun hx I' L' f q1 q2 => ?_)
      · rw [w2] at g
        exact g
      · have kk := kk I' L' q1
        rw [szF_some hx] at kk
        exact kk
      · refine ih (lo + 1) (by omega) f I' L' q1 q2 (fun I' L' p1 => ?_)
        have kk := kk I' L' p1
        rw [szF_none hx] at kk
        exact kk
  exact v_Search_leastShield_0 (outer (most + 1) 0 (by omega) (fun _ => false) I L (fun _ _ => rfl) l0 hK)
theorem cm_shield {B : Bk} {a1 a2 : Int32} {p k o : Nat} {I : MI} {L : ML} (hk : k ≤ 2) (hp : p < (B.wd a1 a2).v.n) (W : WM (B.vl a1.toNatClampNeg) (B.tlOf a2) wi0 o (B.wd a1 a2) I L) {b : Bool} {K : Int32 → Bool → MI → ML → Prop} (hK : ∀ I' L', mfr I I' → K (optI (szF (shP B a1 a2 p) (B.wd a1 a2).v.n (k + 1) 0)) b I' L') : SW m_M_shield 32 [vr 22 186, un, un, vi (nI p), vi (nI k), vi (nI 0), un] [] b I L (kI K) := by
  have hn : (B.wd a1 a2).v.n ≤ 16 := W.1.2.1.1.2
  have h16 : 2 ^ (B.wd a1 a2).v.n ≤ 2 ^ 16 := Nat.pow_le_pow_right (by decide) hn
  have p1 : 1 ≤ 2 ^ (B.wd a1 a2).v.n := Nat.one_le_two_pow
  have inner : ∀ lo, lo ≤ 3 → ∀ m i, i + m = 2 ^ (B.wd a1 a2).v.n → ∀ (f : Nat → Bool) (I1 : MI) (L1 : ML), mfr I I1 → WM (B.vl a1.toNatClampNeg) (B.tlOf a2) (siX f) o (B.wx a1 a2 (siX f)) I1 L1 → (∀ x, ((List.range' i m).filter (fun x => decide (cntB x.testBit (B.wd a1 a2).v.n = lo))).find? (shP B a1 a2 p) = some x → ∀ I' L', mfr I I' → K (nI x) b I' L') → (((List.range' i m).filter (fun x => decide (cntB x.testBit (B.wd a1 a2).v.n = lo))).find? (shP B a1 a2 p) = none → ∀ I' L' f, mfr I I' → WM (B.vl a1.toNatClampNeg) (B.tlOf a2) (siX f) o (B.wx a1 a2 (siX f)) I' L' → SW m_M_shield 32 [vr 22 186, un, un, vi (nI p), vi (nI k), vi (nI (lo + 1)), un] [] b I' L' (kI K)) → SW m_M_shield 42 [vr 22 186, un, un, vi (nI p), vi (nI k), vi (nI lo), vi (nI i)] [] b I1 L1 (kI K) := by
    intro lo hlo m
    induction m with
    | zero =>
      intro i hi f I1 L1 f1 W1 _ hno
      refine v_M_shield_42 (cm_people W1 ⟨fun _ => ?_, fun q => absurd ?_ q⟩)
      · rw [show nI lo + (1 : Int32) = nI (lo + 1) from n_add lo 1]
        exact hno rfl I1 L1 f f1 W1
      · show (1 : Int32) <<< (nI (B.wd a1 a2).v.n &&& 31) ≤ nI i
        rw [n_2p hn, n_le (by omega) (by omega)]
        omega
    | succ m ih =>
      intro i hi f I1 L1 f1 W1 hyes hno
      rw [List.range'_succ, List.filter_cons] at hyes hno
      have nxt := fun f I1 L1 => ih (i + 1) (by omega) f I1 L1
      refine v_M_shield_42 (cm_people W1 ⟨fun q => absurd q ?_, fun _ => cm_bitsN hn (by omega) ?_⟩)
      · show ¬ (1 : Int32) <<< (nI (B.wd a1 a2).v.n &&& 31) ≤ nI i
        rw [n_2p hn, n_le (by omega) (by omega)]
        omega
      have hc := cntB_le i.testBit (B.wd a1 a2).v.n
      rw [show nI i + (1 : Int32) = nI (i + 1) from n_add i 1]
      rw [n_eq (by omega) (by omega)]
      refine ⟨fun c => ?_, fun c => ?_⟩
      · rw [if_neg (by rw [decide_eq_false c]; exact Bool.false_ne_true)] at hyes hno
        exact nxt _ I1 L1 f1 W1 hyes hno
      · rw [if_pos (decide_eq_true (Decidable.not_not.mp c))] at hyes hno
        show (¬ (nI i >>> (nI p &&& nI 31)) &&& nI 1 = nI 1 → _) ∧ (¬ ¬ (nI i >>> (nI p &&& nI 31)) &&& nI 1 = nI 1 → _)
        rw [n_bit (by omega), bt_nI (by omega), n_b1]
        refine ⟨fun q => ?_, fun q => ?_⟩
        · have W2 : WM (B.vl a1.toNatClampNeg) (B.tlOf a2) (siX i.testBit) o (shW B a1 a2 i) (sI I1 186 16 (nI i)) L1 := WM_si (g := i.testBit) (m := nI i) (fun q hq => bt_nI hq) W1
          have q : i.testBit p = false := by
            cases z : i.testBit p with
            | true => exact absurd z q
            | false => rfl
          refine cm_everOf W2 (fun I3 L3 f3 l3 _ => ?_)
          have W3 := W2.frM f3 (l3 186 (by decide))
          have fr : mfr I I3 := f1.trans (fun a ha => by rw [f3.1 a (by omega), sI_c (by omega)])
          show (¬ (evI (shW B a1 a2 i) 201 >>> (nI p &&& nI 31)) &&& nI 1 = nI 0 → _) ∧ (¬ ¬ (evI (shW B a1 a2 i) 201 >>> (nI p &&& nI 31)) &&& nI 1 = nI 0 → _)
          rw [n_bit (by omega), sh_bit hn hp, n_b0]
          refine ⟨fun c => ?_, fun c => ?_⟩
          · have cc : shP B a1 a2 p i = false := by
              unfold shP
              cases z : anyN 201 (fun e => hold (shW B a1 a2 i) e p) with
              | true => rw [Bool.not_true, Bool.and_false]
              | false => exact absurd z c
            rw [List.find?_cons_of_neg (by rw [cc]; exact Bool.false_ne_true)] at hyes hno
            exact nxt _ I3 L3 fr W3 hyes hno
          · have c := Decidable.not_not.mp c
            have cc : shP B a1 a2 p i = true := by
              unfold shP
              rw [q, c]
              rfl
            exact hyes i (List.find?_cons_of_pos cc) I3 L3 fr
        · have cc : shP B a1 a2 p i = false := by
            unfold shP
            rw [Decidable.not_not.mp q]
            rfl
          rw [List.find?_cons_of_neg (by rw [cc]; exact Bool.false_ne_true)] at hyes hno
          exact nxt _ I1 L1 f1 W1 hyes hno
  have outer : ∀ c lo, c + lo = k + 1 → ∀ (f : Nat → Bool) (I1 : MI) (L1 : ML), mfr I I1 → WM (B.vl a1.toNatClampNeg) (B.tlOf a2) (siX f) o (B.wx a1 a2 (siX f)) I1 L1 → (∀ I' L', mfr I I' → K (optI (szF (shP B a1 a2 p) (B.wd a1 a2).v.n c lo)) b I' L') → SW m_M_shield 32 [vr 22 186, un, un, vi (nI p), vi (nI k), vi (nI lo), un] [] b I1 L1 (kI K) := by
    intro c
    induction c with
    | zero =>
      intro lo hc f I1 L1 f1 W1 kk
      exact v_M_shield_32 ⟨fun _ => kk I1 L1 f1, fun q => absurd (by rw [n_lt (by omega) (by omega)]; omega) q⟩
    | succ c ih =>
      intro lo hc f I1 L1 f1 W1 kk
      refine v_M_shield_32 ⟨fun q => absurd q (by rw [n_lt (by omega) (by omega)]; omega), fun _ => ?_⟩
      refine inner lo (by omega) (2 ^ (B.wd a1 a2).v.n) 0 (by omega) f I1 L1 f1 W1 (fun x hx I' L' q1 => ?_) (fun hx I' L' f q1 q2 => ?_)
      · rw [flt_s] at hx
        have kk := kk I' L' q1
        rw [szF_some hx] at kk
        exact kk
      · rw [flt_s] at hx
        refine ih (lo + 1) (by omega) f I' L' q1 q2 (fun I' L' p1 => ?_)
        have kk := kk I' L' p1
        rw [szF_none hx] at kk
        exact kk
  exact outer (k + 1) 0 (by omega) (fun _ => false) I L (fun _ _ => rfl) W hK
theorem op_shield : H_shield := by
  intro a1 a2 a3 a4
  refine Op2.q (fun B => if (inR a4 3 && (hpB B a1 a3 && tkB B a1 a2)) = true then optI (szF (shP B a1 a2 a3.toNatClampNeg) (B.wd a1 a2).v.n (a4.toNatClampNeg + 1) 0) else nM) (fun B I b L K ok hc k => ?_) (fun B I b L K ok hm k => ?_)
  · refine v_S_shield_0 ?_
    cases g5 : inR a4 3 with
    | true =>
      obtain ⟨q, hq, rfl⟩ := (inR_iff (by decide)).mp g5
      simp (disch := first | omega | assumption) only [n_lit, n_gLt, n_gLe, n_gEq, n_gEq2, n_gLe2, n_gLt2, n_m1, n_add, n_mul, n_lt, n_le, n_eq, n_cl, n_in, n_rem, n_mlt, n_mle, n_ltm, n_lem, n_eqm, n_meq, n_bit, n_shl, n_b0, n_b1, n_sub, n_inT, nT, nF, lT, lF, eT, eF, not_false_eq_true, not_true_eq_false, sI_at, sI_c, sI_j, aI_at, aI_c, sL_at, sL_c, sL_j, true_and, and_true, not_true_eq_false, not_false_eq_true, forall_const, true_implies, false_implies, implies_true, if_true, if_false, ite_true, ite_false, Bool.not_eq_true, Bool.not_eq_false, Bool.true_eq_false, Bool.false_eq_true, false_and, and_false, or_true, true_or, false_or, or_false]
      refine c_hasPerson ok hc (fun g3 => ?_) (fun g3 => ?_)
      · simp (disch := first | omega | assumption) only [n_lit, n_gLt, n_gLe, n_gEq, n_gEq2, n_gLe2, n_gLt2, n_m1, n_add, n_mul, n_lt, n_le, n_eq, n_cl, n_in, n_rem, n_mlt, n_mle, n_ltm, n_lem, n_eqm, n_meq, n_bit, n_shl, n_b0, n_b1, n_sub, n_inT, nT, nF, lT, lF, eT, eF, not_false_eq_true, not_true_eq_false, sI_at, sI_c, sI_j, aI_at, aI_c, sL_at, sL_c, sL_j, true_and, and_true, not_true_eq_false, not_false_eq_true, forall_const, true_implies, false_implies, implies_true, if_true, if_false, ite_true, ite_false, Bool.not_eq_true, Bool.not_eq_false, Bool.true_eq_false, Bool.false_eq_true, false_and, and_false, or_true, true_or, false_or, or_false]
        refine c_takeW ok hc (fun g2 I1 L1 f1 W1 l0 => ?_) (fun g2 => ?_)
        · have hn := W1.vil.2.1.2
          have g4 := hp_tk (a3 := a3) ok g2
          rw [g3] at g4
          obtain ⟨p, hp, rfl⟩ := (inR_iff (by omega)).mp g4.symm
          simp (disch := first | omega | assumption) only [n_lit, n_gLt, n_gLe, n_gEq, n_gEq2, n_gLe2, n_gLt2, n_m1, n_add, n_mul, n_lt, n_le, n_eq, n_cl, n_in, n_rem, n_mlt, n_mle, n_ltm, n_lem, n_eqm, n_meq, n_bit, n_shl, n_b0, n_b1, n_sub, n_inT, nT, nF, lT, lF, eT, eF, not_false_eq_true, not_true_eq_false, sI_at, sI_c, sI_j, aI_at, aI_c, sL_at, sL_c, sL_j, true_and, and_true, not_true_eq_false, not_false_eq_true, forall_const, true_implies, false_implies, implies_true, if_true, if_false, ite_true, ite_false, Bool.not_eq_true, Bool.not_eq_false, Bool.true_eq_false, Bool.false_eq_true, false_and, and_false, or_true, true_or, false_or, or_false]
          refine c_shield ok g2 hn hp (by omega) l0 (fun I2 L2 f2 => ?_)
          have kk := k b I2 L2 (fun a ha => (f2 a (by omega)).trans (f1 a (by omega)))
          rw [g2, g3, g5, n_cl (by omega), n_cl (by omega)] at kk
          exact kk
        · have kk := k b I L (fun _ _ => rfl)
          rw [g2, Bool.and_false, Bool.and_false] at kk
          simp (disch := first | omega | assumption) only [n_lit, n_gLt, n_gLe, n_gEq, n_gEq2, n_gLe2, n_gLt2, n_m1, n_add, n_mul, n_lt, n_le, n_eq, n_cl, n_in, n_rem, n_mlt, n_mle, n_ltm, n_lem, n_eqm, n_meq, n_bit, n_shl, n_b0, n_b1, n_sub, n_inT, nT, nF, lT, lF, eT, eF, not_false_eq_true, not_true_eq_false, sI_at, sI_c, sI_j, aI_at, aI_c, sL_at, sL_c, sL_j, true_and, and_true, not_true_eq_false, not_false_eq_true, forall_const, true_implies, false_implies, implies_true, if_true, if_false, ite_true, ite_false, Bool.not_eq_true, Bool.not_eq_false, Bool.true_eq_false, Bool.false_eq_true, false_and, and_false, or_true, true_or, false_or, or_false] at kk
          simp (disch := first | omega | assumption) only [n_lit, n_gLt, n_gLe, n_gEq, n_gEq2, n_gLe2, n_gLt2, n_m1, n_add, n_mul, n_lt, n_le, n_eq, n_cl, n_in, n_rem, n_mlt, n_mle, n_ltm, n_lem, n_eqm, n_meq, n_bit, n_shl, n_b0, n_b1, n_sub, n_inT, nT, nF, lT, lF, eT, eF, not_false_eq_true, not_true_eq_false, sI_at, sI_c, sI_j, aI_at, aI_c, sL_at, sL_c, sL_j, true_and, and_true, not_true_eq_false, not_false_eq_true, forall_const, true_implies, false_implies, implies_true, if_true, if_false, ite_true, ite_false, Bool.not_eq_true, Bool.not_eq_false, Bool.true_eq_false, Bool.false_eq_true, false_and, and_false, or_true, true_or, false_or, or_false]
          exact kk
      · have kk := k b I L (fun _ _ => rfl)
        rw [g3, Bool.false_and, Bool.and_false] at kk
        simp (disch := first | omega | assumption) only [n_lit, n_gLt, n_gLe, n_gEq, n_gEq2, n_gLe2, n_gLt2, n_m1, n_add, n_mul, n_lt, n_le, n_eq, n_cl, n_in, n_rem, n_mlt, n_mle, n_ltm, n_lem, n_eqm, n_meq, n_bit, n_shl, n_b0, n_b1, n_sub, n_inT, nT, nF, lT, lF, eT, eF, not_false_eq_true, not_true_eq_false, sI_at, sI_c, sI_j, aI_at, aI_c, sL_at, sL_c, sL_j, true_and, and_true, not_true_eq_false, not_false_eq_true, forall_const, true_implies, false_implies, implies_true, if_true, if_false, ite_true, ite_false, Bool.not_eq_true, Bool.not_eq_false, Bool.true_eq_false, Bool.false_eq_true, false_and, and_false, or_true, true_or, false_or, or_false] at kk
        simp (disch := first | omega | assumption) only [n_lit, n_gLt, n_gLe, n_gEq, n_gEq2, n_gLe2, n_gLt2, n_m1, n_add, n_mul, n_lt, n_le, n_eq, n_cl, n_in, n_rem, n_mlt, n_mle, n_ltm, n_lem, n_eqm, n_meq, n_bit, n_shl, n_b0, n_b1, n_sub, n_inT, nT, nF, lT, lF, eT, eF, not_false_eq_true, not_true_eq_false, sI_at, sI_c, sI_j, aI_at, aI_c, sL_at, sL_c, sL_j, true_and, and_true, not_true_eq_false, not_false_eq_true, forall_const, true_implies, false_implies, implies_true, if_true, if_false, ite_true, ite_false, Bool.not_eq_true, Bool.not_eq_false, Bool.true_eq_false, Bool.false_eq_true, false_and, and_false, or_true, true_or, false_or, or_false]
        exact kk
    | false =>
      have kk := k b I L (fun _ _ => rfl)
      rw [g5, Bool.false_and] at kk
      simp (disch := first | omega | assumption) only [n_lit, n_gLt, n_gLe, n_gEq, n_gEq2, n_gLe2, n_gLt2, n_m1, n_add, n_mul, n_lt, n_le, n_eq, n_cl, n_in, n_rem, n_mlt, n_mle, n_ltm, n_lem, n_eqm, n_meq, n_bit, n_shl, n_b0, n_b1, n_sub, n_inT, nT, nF, lT, lF, eT, eF, not_false_eq_true, not_true_eq_false, sI_at, sI_c, sI_j, aI_at, aI_c, sL_at, sL_c, sL_j, true_and, and_true, not_true_eq_false, not_false_eq_true, forall_const, true_implies, false_implies, implies_true, if_true, if_false, ite_true, ite_false, Bool.not_eq_true, Bool.not_eq_false, Bool.true_eq_false, Bool.false_eq_true, false_and, and_false, or_true, true_or, false_or, or_false] at kk
      rcases inR_out (by decide) g5 with q | ⟨j, q1, q2, rfl⟩
      · simp (disch := first | omega | assumption) only [n_lit, n_gLt, n_gLe, n_gEq, n_gEq2, n_gLe2, n_gLt2, n_m1, n_add, n_mul, n_lt, n_le, n_eq, n_cl, n_in, n_rem, n_mlt, n_mle, n_ltm, n_lem, n_eqm, n_meq, n_bit, n_shl, n_b0, n_b1, n_sub, n_inT, nT, nF, lT, lF, eT, eF, not_false_eq_true, not_true_eq_false, sI_at, sI_c, sI_j, aI_at, aI_c, sL_at, sL_c, sL_j, true_and, and_true, not_true_eq_false, not_false_eq_true, forall_const, true_implies, false_implies, implies_true, if_true, if_false, ite_true, ite_false, Bool.not_eq_true, Bool.not_eq_false, Bool.true_eq_false, Bool.false_eq_true, false_and, and_false, or_true, true_or, false_or, or_false]
        exact kk
      · simp (disch := first | omega | assumption) only [n_lit, n_gLt, n_gLe, n_gEq, n_gEq2, n_gLe2, n_gLt2, n_m1, n_add, n_mul, n_lt, n_le, n_eq, n_cl, n_in, n_rem, n_mlt, n_mle, n_ltm, n_lem, n_eqm, n_meq, n_bit, n_shl, n_b0, n_b1, n_sub, n_inT, nT, nF, lT, lF, eT, eF, not_false_eq_true, not_true_eq_false, sI_at, sI_c, sI_j, aI_at, aI_c, sL_at, sL_c, sL_j, true_and, and_true, not_true_eq_false, not_false_eq_true, forall_const, true_implies, false_implies, implies_true, if_true, if_false, ite_true, ite_false, Bool.not_eq_true, Bool.not_eq_false, Bool.true_eq_false, Bool.false_eq_true, false_and, and_false, or_true, true_or, false_or, or_false]
        exact kk
  · refine v_M_shield_0 (cm_isIn0 (n := 2) (by decide) (fun g5 => ?_) (fun g5 => ?_))
    · obtain ⟨q, hq, rfl⟩ := (inR_iff (by decide)).mp g5
      simp (disch := first | omega | assumption) only [n_lit, n_gLt, n_gLe, n_gEq, n_gEq2, n_gLe2, n_gLt2, n_m1, n_add, n_mul, n_lt, n_le, n_eq, n_cl, n_in, n_rem, n_mlt, n_mle, n_ltm, n_lem, n_eqm, n_meq, n_bit, n_shl, n_b0, n_b1, n_sub, n_inT, nT, nF, lT, lF, eT, eF, not_false_eq_true, not_true_eq_false, sI_at, sI_c, sI_j, aI_at, aI_c, sL_at, sL_c, sL_j, true_and, and_true, not_true_eq_false, not_false_eq_true, forall_const, true_implies, false_implies, implies_true, if_true, if_false, ite_true, ite_false, Bool.not_eq_true, Bool.not_eq_false, Bool.true_eq_false, Bool.false_eq_true, false_and, and_false, or_true, true_or, false_or, or_false]
      refine cm_bothW ok hm (fun g2 I1 L1 o f1 W1 => ?_) (fun g2 I1 f1 => ?_)
      · have hn := W1.1.2.1.1.2
        simp (disch := first | omega | assumption) only [n_lit, n_gLt, n_gLe, n_gEq, n_gEq2, n_gLe2, n_gLt2, n_m1, n_add, n_mul, n_lt, n_le, n_eq, n_cl, n_in, n_rem, n_mlt, n_mle, n_ltm, n_lem, n_eqm, n_meq, n_bit, n_shl, n_b0, n_b1, n_sub, n_inT, nT, nF, lT, lF, eT, eF, not_false_eq_true, not_true_eq_false, sI_at, sI_c, sI_j, aI_at, aI_c, sL_at, sL_c, sL_j, true_and, and_true, not_true_eq_false, not_false_eq_true, forall_const, true_implies, false_implies, implies_true, if_true, if_false, ite_true, ite_false, Bool.not_eq_true, Bool.not_eq_false, Bool.true_eq_false, Bool.false_eq_true, false_and, and_false, or_true, true_or, false_or, or_false]
        refine cm_isPerson W1 (fun g4 => ?_) (fun g4 => ?_)
        · have g3 := (hp_tk (a3 := a3) ok g2).trans g4
          obtain ⟨p, hp, rfl⟩ := (inR_iff (by omega)).mp g4
          simp (disch := first | omega | assumption) only [n_lit, n_gLt, n_gLe, n_gEq, n_gEq2, n_gLe2, n_gLt2, n_m1, n_add, n_mul, n_lt, n_le, n_eq, n_cl, n_in, n_rem, n_mlt, n_mle, n_ltm, n_lem, n_eqm, n_meq, n_bit, n_shl, n_b0, n_b1, n_sub, n_inT, nT, nF, lT, lF, eT, eF, not_false_eq_true, not_true_eq_false, sI_at, sI_c, sI_j, aI_at, aI_c, sL_at, sL_c, sL_j, true_and, and_true, not_true_eq_false, not_false_eq_true, forall_const, true_implies, false_implies, implies_true, if_true, if_false, ite_true, ite_false, Bool.not_eq_true, Bool.not_eq_false, Bool.true_eq_false, Bool.false_eq_true, false_and, and_false, or_true, true_or, false_or, or_false]
          refine cm_shield (by omega) hp W1 (fun I2 L2 f2 => ?_)
          have kk := k b I2 L2 (fun a ha => (f2 a (by omega)).trans (f1 a (by omega)))
          rw [g2, g3, g5, n_cl (by omega), n_cl (by omega)] at kk
          exact kk
        · have g3 := (hp_tk (a3 := a3) ok g2).trans g4
          have kk := k b I1 L1 (fun a ha => f1 a (by omega))
          rw [g3, Bool.false_and, Bool.and_false] at kk
          simp (disch := first | omega | assumption) only [n_lit, n_gLt, n_gLe, n_gEq, n_gEq2, n_gLe2, n_gLt2, n_m1, n_add, n_mul, n_lt, n_le, n_eq, n_cl, n_in, n_rem, n_mlt, n_mle, n_ltm, n_lem, n_eqm, n_meq, n_bit, n_shl, n_b0, n_b1, n_sub, n_inT, nT, nF, lT, lF, eT, eF, not_false_eq_true, not_true_eq_false, sI_at, sI_c, sI_j, aI_at, aI_c, sL_at, sL_c, sL_j, true_and, and_true, not_true_eq_false, not_false_eq_true, forall_const, true_implies, false_implies, implies_true, if_true, if_false, ite_true, ite_false, Bool.not_eq_true, Bool.not_eq_false, Bool.true_eq_false, Bool.false_eq_true, false_and, and_false, or_true, true_or, false_or, or_false] at kk
          simp (disch := first | omega | assumption) only [n_lit, n_gLt, n_gLe, n_gEq, n_gEq2, n_gLe2, n_gLt2, n_m1, n_add, n_mul, n_lt, n_le, n_eq, n_cl, n_in, n_rem, n_mlt, n_mle, n_ltm, n_lem, n_eqm, n_meq, n_bit, n_shl, n_b0, n_b1, n_sub, n_inT, nT, nF, lT, lF, eT, eF, not_false_eq_true, not_true_eq_false, sI_at, sI_c, sI_j, aI_at, aI_c, sL_at, sL_c, sL_j, true_and, and_true, not_true_eq_false, not_false_eq_true, forall_const, true_implies, false_implies, implies_true, if_true, if_false, ite_true, ite_false, Bool.not_eq_true, Bool.not_eq_false, Bool.true_eq_false, Bool.false_eq_true, false_and, and_false, or_true, true_or, false_or, or_false]
          exact kk
      · have kk := k b I1 L (fun a ha => f1 a (by omega))
        rw [g2, Bool.and_false, Bool.and_false] at kk
        simp (disch := first | omega | assumption) only [n_lit, n_gLt, n_gLe, n_gEq, n_gEq2, n_gLe2, n_gLt2, n_m1, n_add, n_mul, n_lt, n_le, n_eq, n_cl, n_in, n_rem, n_mlt, n_mle, n_ltm, n_lem, n_eqm, n_meq, n_bit, n_shl, n_b0, n_b1, n_sub, n_inT, nT, nF, lT, lF, eT, eF, not_false_eq_true, not_true_eq_false, sI_at, sI_c, sI_j, aI_at, aI_c, sL_at, sL_c, sL_j, true_and, and_true, not_true_eq_false, not_false_eq_true, forall_const, true_implies, false_implies, implies_true, if_true, if_false, ite_true, ite_false, Bool.not_eq_true, Bool.not_eq_false, Bool.true_eq_false, Bool.false_eq_true, false_and, and_false, or_true, true_or, false_or, or_false] at kk
        simp (disch := first | omega | assumption) only [n_lit, n_gLt, n_gLe, n_gEq, n_gEq2, n_gLe2, n_gLt2, n_m1, n_add, n_mul, n_lt, n_le, n_eq, n_cl, n_in, n_rem, n_mlt, n_mle, n_ltm, n_lem, n_eqm, n_meq, n_bit, n_shl, n_b0, n_b1, n_sub, n_inT, nT, nF, lT, lF, eT, eF, not_false_eq_true, not_true_eq_false, sI_at, sI_c, sI_j, aI_at, aI_c, sL_at, sL_c, sL_j, true_and, and_true, not_true_eq_false, not_false_eq_true, forall_const, true_implies, false_implies, implies_true, if_true, if_false, ite_true, ite_false, Bool.not_eq_true, Bool.not_eq_false, Bool.true_eq_false, Bool.false_eq_true, false_and, and_false, or_true, true_or, false_or, or_false]
        exact kk
    · have kk := k b I L (fun _ _ => rfl)
      rw [g5, Bool.false_and] at kk
      simp (disch := first | omega | assumption) only [n_lit, n_gLt, n_gLe, n_gEq, n_gEq2, n_gLe2, n_gLt2, n_m1, n_add, n_mul, n_lt, n_le, n_eq, n_cl, n_in, n_rem, n_mlt, n_mle, n_ltm, n_lem, n_eqm, n_meq, n_bit, n_shl, n_b0, n_b1, n_sub, n_inT, nT, nF, lT, lF, eT, eF, not_false_eq_true, not_true_eq_false, sI_at, sI_c, sI_j, aI_at, aI_c, sL_at, sL_c, sL_j, true_and, and_true, not_true_eq_false, not_false_eq_true, forall_const, true_implies, false_implies, implies_true, if_true, if_false, ite_true, ite_false, Bool.not_eq_true, Bool.not_eq_false, Bool.true_eq_false, Bool.false_eq_true, false_and, and_false, or_true, true_or, false_or, or_false] at kk
      simp (disch := first | omega | assumption) only [n_lit, n_gLt, n_gLe, n_gEq, n_gEq2, n_gLe2, n_gLt2, n_m1, n_add, n_mul, n_lt, n_le, n_eq, n_cl, n_in, n_rem, n_mlt, n_mle, n_ltm, n_lem, n_eqm, n_meq, n_bit, n_shl, n_b0, n_b1, n_sub, n_inT, nT, nF, lT, lF, eT, eF, not_false_eq_true, not_true_eq_false, sI_at, sI_c, sI_j, aI_at, aI_c, sL_at, sL_c, sL_j, true_and, and_true, not_true_eq_false, not_false_eq_true, forall_const, true_implies, false_implies, implies_true, if_true, if_false, ite_true, ite_false, Bool.not_eq_true, Bool.not_eq_false, Bool.true_eq_false, Bool.false_eq_true, false_and, and_false, or_true, true_or, false_or, or_false]
      exact kk
