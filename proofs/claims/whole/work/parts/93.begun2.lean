/-! WHAT-IFS: begun, the reference; origin -/
theorem range_s (n : Nat) : List.range' 0 (n + 1) = List.range' 0 n ++ [n] := by
  rw [List.range'_1_concat, Nat.zero_add]
theorem PLf_s (n : Nat) : PLf 0 (n + 1) = PLf 0 n ++ [2 ^ n] := by
  unfold PLf
  rw [range_s, List.map_append]
  rfl
theorem L12_s : ∀ m i, L12 i (m + 1) = L12 i m ++ blk (i + m)
  | 0, i => by
    show blk i ++ [] = [] ++ blk (i + 0)
    rw [List.append_nil, List.nil_append, Nat.add_zero]
  | m + 1, i => by
    show blk i ++ L12 (i + 1) (m + 1) = (blk i ++ L12 (i + 1) m) ++ blk (i + (m + 1))
    rw [L12_s m (i + 1), List.append_assoc, show i + 1 + m = i + (m + 1) by omega]
/-- the sets with a bound on their bits, first and second half -/
theorem flt_le (c n : Nat) (A : List Nat) (h : (List.range' 0 (2 ^ n)).filter (fun x => decide (cntB x.testBit n ≤ c)) = A) : (List.range' 0 (2 ^ (n + 1))).filter (fun x => decide (cntB x.testBit (n + 1) ≤ c + 1)) = (List.range' 0 (2 ^ n)).filter (fun x => decide (cntB x.testBit n ≤ c + 1)) ++ A.map (fun x => 2 ^ n + x) := by
  have hx : ∀ x, x ∈ List.range' 0 (2 ^ n) → x < 2 ^ n := fun x h => by
    have := List.mem_range'_1.mp h
    omega
  rw [rng_s, List.filter_append, List.filter_map, ← h]
  congr 1
  · exact List.filter_congr (fun x h => by rw [pc_low (hx x h)])
  · congr 1
    exact List.filter_congr (fun x h => by
      show decide (cntB (2 ^ n + x).testBit (n + 1) ≤ c + 1) = _
      rw [pc_add (hx x h)]
      exact decide_eq_decide.mpr ⟨fun _ => by omega, fun _ => by omega⟩)
theorem flt_0 (n : Nat) : (List.range' 0 (2 ^ n)).filter (fun x => decide (cntB x.testBit n ≤ 0)) = [0] := by
  rw [← LsA_0 n, ← flt_s n 0]
  exact List.filter_congr (fun x _ => decide_eq_decide.mpr ⟨fun _ => by omega, fun _ => by omega⟩)
theorem flt_1 : ∀ n, (List.range' 0 (2 ^ n)).filter (fun x => decide (cntB x.testBit n ≤ 1)) = 0 :: PLf 0 n
  | 0 => rfl
  | n + 1 => by
    rw [flt_le 0 n [0] (flt_0 n), flt_1 n, PLf_s]
    rfl
theorem flt_2 : ∀ n, (List.range' 0 (2 ^ n)).filter (fun x => decide (cntB x.testBit n ≤ 2)) = 0 :: L12 0 n
  | 0 => rfl
  | n + 1 => by
    rw [flt_le 1 n (0 :: PLf 0 n) (flt_1 n), flt_2 n, L12_s, Nat.zero_add]
    rfl
theorem flt_2' (n : Nat) : (List.range' 1 (2 ^ n - 1)).filter (fun x => decide (cntB x.testBit n ≤ 2)) = L12 0 n := by
  have h := flt_2 n
  have e1 : 1 ≤ 2 ^ n := Nat.one_le_two_pow
  have e : List.range' 0 (2 ^ n) = 0 :: List.range' 1 (2 ^ n - 1) := by
    rw [show 2 ^ n = (2 ^ n - 1) + 1 by omega, List.range'_succ]
    rfl
  rw [e, List.filter_cons] at h
  have c : decide (cntB (0 : Nat).testBit n ≤ 2) = true := by
    rw [zero_bits]
    have z : ∀ n, cntB (fun _ => false) n = 0 := by
      intro n
      induction n with
      | zero => rfl
      | succ n ih =>
        show cntB (fun _ => false) n + 0 = 0
        rw [ih]
    rw [z]
    decide
  rw [if_pos c] at h
  exact (List.cons.inj h).2
theorem cm_isBegunBy {B : Bk} {a1 a2 h : Int32} {x d o : Nat} {f : Nat → Bool} {I : MI} {L : ML} (hd : d ≤ 200) (W : WM (B.vl a1.toNatClampNeg) (B.tlOf a2) (bgX f) o (B.wx a1 a2 (bgX f)) I L) {b : Bool} {K : Int32 → Bool → MI → ML → Prop} (hK : ∀ I' L', mfr I I' → WM (B.vl a1.toNatClampNeg) (B.tlOf a2) (bgX x.testBit) o (bgW B a1 a2 x) I' L' → dayQ (bgW B a1 a2 x) d I' → K (nI (bgP B a1 a2 d h x).toNat) b I' L') : CI m_M_isBegunBy [vr 22 186, vi (nI x), vi (nI d), vi h] b I L K := by
  have W2 : WM (B.vl a1.toNatClampNeg) (B.tlOf a2) (bgX x.testBit) o (bgW B a1 a2 x) (sI I 186 25 (nI x)) L := WM_b1 (g := x.testBit) (m := nI x) (fun p hp => bt_nI hp) W
  refine v_M_isBegunBy_0 (cm_runs W2 (Or.inr rfl) (fun N I3 L3 f3 l3 n1 D R hN _ => ?_))
  have hN := hN rfl
  clear R
  have W3 := W2.frM f3 (l3 186 (by decide))
  have D := D.2.2.2.1 d (by omega)
  have kk := hK I3 L3 (fun a ha => by rw [f3.1 a ha, sI_c (by omega)]) W3 D
  refine cm_holdersOf (u := nI 0) hd W3 D ?_
  rw [if_pos rfl]
  refine ⟨fun q => ⟨Or.inl rfl, ?_⟩, fun q => ⟨Or.inr rfl, ?_⟩⟩
  · rw [show bgP B a1 a2 d h x = false from decide_eq_false q] at kk
    exact kk
  · rw [show bgP B a1 a2 d h x = true from decide_eq_true (Decidable.not_not.mp q)] at kk
    exact kk
theorem cm_areBegun {B : Bk} {a1 a2 a3 a4 : Int32} {b : Bool} {I : MI} {L : ML} {K : Int32 → Bool → MI → ML → Prop} (ok : B.ok) (hm : bkM 0 B I) (hy : inR a3 100 = true → tkB B a1 a2 = true → inR a4 (2 ^ (B.wd a1 a2).v.n) = true → ∀ I' L' o f, (∀ a, a ≠ 186 → I' a = I a) → WM (B.vl a1.toNatClampNeg) (B.tlOf a2) (bgX f) o (B.wx a1 a2 (bgX f)) I' L' → K (nI 1) b I' L') (hf : (inR a3 100 && (tkB B a1 a2 && inR a4 (2 ^ (B.wd a1 a2).v.n))) = false → ∀ I' L', (∀ a, a ≠ 186 → I' a = I a) → K (nI 0) b I' L') : CI m_M_areBegun [vr 22 186, vi a1, vi a2, vi a3, vi a4] b I L K := by
  refine v_M_areBegun_0 (cm_isIn0 (n := 99) (by decide) (fun g1 => ?_) (fun g1 => ?_))
  · rw [g1, Bool.true_and] at hf
    refine ⟨fun q => absurd q (by decide), fun _ => ?_⟩
    refine cm_bothW ok hm (fun g2 I1 L1 o f1 W1 => ?_) (fun g2 I1 f1 => ?_)
    · rw [g2, Bool.true_and] at hf
      have hn : (B.wd a1 a2).v.n ≤ 16 := W1.1.2.1.1.2
      refine ⟨fun q => absurd q (by decide), fun _ => ⟨fun q => ⟨Or.inl rfl, hf ?_ I1 L1 f1⟩, fun q => cm_people W1 ?_⟩⟩
      · cases z : inR a4 (2 ^ (B.wd a1 a2).v.n) with
        | false => rfl
        | true =>
          unfold inR at z
          rw [Bool.and_eq_true, decide_eq_true_iff] at z
          exact absurd z.1 (n_nat q 0 (by omega)).2.2.1
      · show (a4 >>> (nI (B.wd a1 a2).v.n &&& nI 31) = nI 0 → _) ∧ (¬ a4 >>> (nI (B.wd a1 a2).v.n &&& nI 31) = nI 0 → _)
        rw [there_sh hn q]
        refine ⟨fun z => ⟨Or.inr rfl, Or.inr rfl, ?_⟩, fun z => ⟨Or.inl rfl, hf ?_ I1 L1 f1⟩⟩
        · exact hy g1 g2 z _ L1 o _ (fun a ha => by rw [sI_c ha, f1 a ha]) (WM_b0 W1)
        · cases z2 : inR a4 (2 ^ (B.wd a1 a2).v.n) with
          | false => rfl
          | true => exact absurd z2 z
    · rw [g2, Bool.false_and] at hf
      exact ⟨fun _ => ⟨Or.inl rfl, hf rfl I1 L f1⟩, fun q => absurd rfl q⟩
  · rw [g1, Bool.false_and] at hf
    exact ⟨fun _ => ⟨Or.inl rfl, hf rfl I L (fun _ _ => rfl)⟩, fun q => absurd rfl q⟩
theorem cm_begun {B : Bk} {a1 a2 h k : Int32} {d o : Nat} {f : Nat → Bool} {I : MI} {L : ML} (hd : d ≤ 99) (W : WM (B.vl a1.toNatClampNeg) (B.tlOf a2) (bgX f) o (B.wx a1 a2 (bgX f)) I L) {b : Bool} {K : Int32 → Bool → MI → ML → Prop} (hK : ∀ I' L', mfr I I' → K (bgF (bgP B a1 a2 d h) k (L12 0 (B.wd a1 a2).v.n) 0) b I' L') : SW m_M_begun 27 [vr 22 186, un, un, vi (nI d), vi h, vi k, vi (nI 0), vi (nI 1)] [] b I L (kI K) := by
  have hn : (B.wd a1 a2).v.n ≤ 16 := W.1.2.1.1.2
  have h16 : 2 ^ (B.wd a1 a2).v.n ≤ 2 ^ 16 := Nat.pow_le_pow_right (by decide) hn
  have loop : ∀ n i m, i + n = 2 ^ (B.wd a1 a2).v.n → ∀ (f : Nat → Bool) (I1 : MI) (L1 : ML), mfr I I1 → WM (B.vl a1.toNatClampNeg) (B.tlOf a2) (bgX f) o (B.wx a1 a2 (bgX f)) I1 L1 → (∀ I' L', mfr I I' → K (bgF (bgP B a1 a2 d h) k ((List.range' i n).filter (fun x => decide (cntB x.testBit (B.wd a1 a2).v.n ≤ 2))) m) b I' L') → SW m_M_begun 27 [vr 22 186, un, un, vi (nI d), vi h, vi k, vi (nI m), vi (nI i)] [] b I1 L1 (kI K) := by
    intro n
    induction n with
    | zero =>
      intro i m hi f I1 L1 f1 W1 kk
      have kk := kk I1 L1 f1
      refine v_M_begun_27 (cm_people W1 ⟨fun _ => ⟨fun q => ?_, fun q => ?_⟩, fun q => absurd ?_ q⟩)
      · rw [show bgF (bgP B a1 a2 d h) k ((List.range' i 0).filter (fun x => decide (cntB x.testBit (B.wd a1 a2).v.n ≤ 2))) m = -nI 2 from if_neg q] at kk
        exact kk
      · rw [show bgF (bgP B a1 a2 d h) k ((List.range' i 0).filter (fun x => decide (cntB x.testBit (B.wd a1 a2).v.n ≤ 2))) m = nI m from if_pos (Decidable.not_not.mp q)] at kk
        exact kk
      · show (1 : Int32) <<< (nI (B.wd a1 a2).v.n &&& 31) ≤ nI i
        rw [n_2p hn, n_le (by omega) (by omega)]
        omega
    | succ n ih =>
      intro i m hi f I1 L1 f1 W1 kk
      rw [List.range'_succ, List.filter_cons] at kk
      refine v_M_begun_27 (cm_people W1 ⟨fun q => absurd q ?_, fun _ => cm_bitsN hn (by omega) ?_⟩)
      · show ¬ (1 : Int32) <<< (nI (B.wd a1 a2).v.n &&& 31) ≤ nI i
        rw [n_2p hn, n_le (by omega) (by omega)]
        omega
      have hc := cntB_le i.testBit (B.wd a1 a2).v.n
      rw [show nI i + (1 : Int32) = nI (i + 1) from n_add i 1]
      rw [show (2 : Int32) = nI 2 from rfl, n_lt (by omega) (by omega)]
      refine ⟨fun c => ?_, fun c => ?_⟩
      · rw [if_neg (by rw [decide_eq_false (by omega)]; exact Bool.false_ne_true)] at kk
        exact ih (i + 1) m (by omega) _ I1 L1 f1 W1 kk
      · rw [if_pos (decide_eq_true (by omega))] at kk
        refine cm_isBegunBy (by omega) W1 (fun I2 L2 f2 W2 _ => ?_)
        have fr : mfr I I2 := f1.trans f2
        cases cc : bgP B a1 a2 d h i with
        | true =>
          refine ⟨fun _ => ⟨fun z => ?_, fun z => ?_⟩, fun q => absurd (by decide) q⟩
          · rw [show nI m + (1 : Int32) = nI (m + 1) from n_add m 1]
            refine ih (i + 1) (m + 1) (by omega) _ I2 L2 fr W2 (fun I' L' f' => ?_)
            have kk := kk I' L' f'
            rw [show ∀ T, bgF (bgP B a1 a2 d h) k (i :: T) m = bgF (bgP B a1 a2 d h) k T (m + 1) from fun T => (if_pos cc).trans (if_neg z)] at kk
            exact kk
          · have kk := kk I2 L2 fr
            rw [show ∀ T, bgF (bgP B a1 a2 d h) k (i :: T) m = nI i from fun T => (if_pos cc).trans (if_pos (Decidable.not_not.mp z))] at kk
            exact kk
        | false =>
          refine ⟨fun q => absurd rfl q, fun _ => ?_⟩
          refine ih (i + 1) m (by omega) _ I2 L2 fr W2 (fun I' L' f' => ?_)
          have kk := kk I' L' f'
          rw [show ∀ T, bgF (bgP B a1 a2 d h) k (i :: T) m = bgF (bgP B a1 a2 d h) k T m from fun T => if_neg (by rw [cc]; exact Bool.false_ne_true)] at kk
          exact kk
  have e1 : 1 ≤ 2 ^ (B.wd a1 a2).v.n := Nat.one_le_two_pow
  refine loop (2 ^ (B.wd a1 a2).v.n - 1) 1 0 (by omega) f I L (fun _ _ => rfl) W (fun I' L' f' => ?_)
  rw [flt_2']
  exact hK I' L' f'
theorem op_begun : H_begun := by
  intro a1 a2 a3 a4 a5
  refine Op2.q (fun B => if (!decide (a5 < nM) && (inR a3 100 && (tkB B a1 a2 && inR a4 (2 ^ (B.wd a1 a2).v.n)))) = true then bgF (bgP B a1 a2 a3.toNatClampNeg a4) a5 (L12 0 (B.wd a1 a2).v.n) 0 else -nI 2) (fun B I b L K ok hc k => ?_) (fun B I b L K ok hm k => ?_)
  · refine v_S_begun_0 ⟨fun g5 => ?_, fun g5 => ?_⟩
    · have g5 : a5 < nM := g5
      have kk := k b I L (fun _ _ => rfl)
      rw [decide_eq_true g5, Bool.not_true, Bool.false_and] at kk
      exact kk
    · have g5 : ¬ a5 < nM := g5
      rw [decide_eq_false g5, Bool.not_false, Bool.true_and] at k
      refine c_onDay (n := 99) (by decide) (fun g1 => ?_) (fun g1 => ?_)
      · obtain ⟨d, hd, rfl⟩ := (inR_iff (by decide)).mp g1
        rw [g1, Bool.true_and] at k
        refine ⟨fun q => absurd q (by decide), fun _ => ?_⟩
        refine c_areThere ok hc (fun g3 => ?_) (fun g3 => ?_)
        · refine ⟨fun q => absurd q (by decide), fun _ => ?_⟩
          refine c_takeW ok hc (fun g2 I1 L1 f1 W1 l0 => ?_) (fun g2 => ?_)
          · have hn := W1.vil.2.1.2
            have g4 := at_tk (a3 := a4) ok g2
            rw [g3] at g4
            rw [g2, ← g4, Bool.and_self, if_pos rfl, n_cl (by omega)] at k
            refine ⟨fun _ => ?_, fun q => absurd (by decide) q⟩
            exact c_begun ok g2 hn (by omega) l0 (fun I2 L2 f2 => k b I2 L2 (fun a ha => (f2 a (by omega)).trans (f1 a (by omega))))
          · have kk := k b I L (fun _ _ => rfl)
            rw [g2, Bool.false_and] at kk
            exact ⟨fun q => absurd rfl q, fun _ => kk⟩
        · refine ⟨fun _ => ?_, fun q => absurd rfl q⟩
          have kk := k b I L (fun _ _ => rfl)
          have e : (tkB B a1 a2 && inR a4 (2 ^ (B.wd a1 a2).v.n)) = false := by
            cases g2 : tkB B a1 a2 with
            | false => rfl
            | true => rw [← at_tk (a3 := a4) ok g2, g3]; rfl
          rw [e] at kk
          exact kk
      · refine ⟨fun _ => ?_, fun q => absurd rfl q⟩
        have kk := k b I L (fun _ _ => rfl)
        rw [g1, Bool.false_and] at kk
        exact kk
  · refine v_M_begun_0 ⟨fun g5 => ?_, fun g5 => ?_⟩
    · have g5 : a5 < nM := g5
      have kk := k b I L (fun _ _ => rfl)
      rw [decide_eq_true g5, Bool.not_true, Bool.false_and] at kk
      exact kk
    · have g5 : ¬ a5 < nM := g5
      rw [decide_eq_false g5, Bool.not_false, Bool.true_and] at k
      refine cm_areBegun ok hm (fun g1 g2 g4 I1 L1 o f f1 W1 => ?_) (fun g I1 L1 f1 => ?_)
      · obtain ⟨d, hd, rfl⟩ := (inR_iff (by decide)).mp g1
        rw [g1, g2, g4, Bool.and_self, Bool.and_self, if_pos rfl, n_cl (by omega)] at k
        refine ⟨fun _ => ?_, fun q => absurd (by decide) q⟩
        exact cm_begun (by omega) W1 (fun I2 L2 f2 => k b I2 L2 (fun a ha => (f2 a (by omega)).trans (f1 a (by omega))))
      · have kk := k b I1 L1 (fun a ha => f1 a (by omega))
        rw [g] at kk
        exact ⟨fun q => absurd rfl q, fun _ => kk⟩
