/-! WHAT-IFS: barred ties, the class -/
def baX (f : Nat → Bool) (bf : Nat) : Wi := mkX false (fun _ => false) (fun _ => false) 0 0 (fun _ => false) (fun _ => false) f bf
theorem baX_ok {f : Nat → Bool} {bf : Nat} (h : bf ≤ 200) : (baX f bf).ok := ⟨Nat.zero_le _, h, Nat.zero_le _⟩
theorem lif_ba {B : Bk} {a1 a2 : Int32} {f g : Nat → Bool} {b0 bf : Nat} {I : MI} {L : ML} {m : Int64} (hm : ∀ p, p < 64 → bl m p = g p) (h : lif B a1 a2 (baX f b0) I L) : lif B a1 a2 (baX g bf) (sI I 161 14 (nI bf)) (sL L 161 13 m) := by
  obtain ⟨g1, g2, g3⟩ := h
  refine ⟨vilC_fr (fun a q1 q2 => sI_c (by omega)) g1, givP_fr (fun j hj => sI_j (by omega)) (sI_c (by omega)) (sI_c (by omega)) (sL_c (by omega)) g2, ?_⟩
  unfold wiP at g3 ⊢
  obtain ⟨z1, z2, z3, z4, z5, z6, z7, z8⟩ := g3
  refine ⟨?_, ?_, ?_, fun q => ?_, ?_, ?_, ?_, fun _ => sI_at _ _ _ _⟩
  · rw [sI_j (by omega)]
    exact z1
  · rw [sI_j (by omega)]
    exact z2
  · rw [sI_j (by omega)]
    exact z3
  · rw [sI_j (by omega), sI_j (by omega)]
    exact z4 q
  · rw [sI_j (by omega)]
    exact z5
  · rw [sL_j (by omega)]
    exact z6
  · rw [sL_at]
    exact hm
theorem ba_stt {B : Bk} {a1 a2 : Int32} {g : Nat → Bool} {bf : Nat} : ∀ d, d < bf → stt (B.wx a1 a2 (baX g bf)) d = stt (B.wd a1 a2) d ∧ ∀ k, (B.wx a1 a2 (baX g bf)).op d k = (B.wd a1 a2).op d k := by
  have ho : ∀ d, d < bf → ∀ k, (B.wx a1 a2 (baX g bf)).op d k = (B.wd a1 a2).op d k := fun d hd k => by
    show opW _ _ (baX g bf) d k = opW _ _ wi0 d k
    unfold opW
    show (!(false || _ || (g k && decide (bf ≤ d)))) = !(false || _ || (false && decide (0 ≤ d)))
    have e : decide (bf ≤ d) = false := decide_eq_false (by omega)
    rw [e, Bool.and_false, Bool.false_and]
  intro d hd
  exact ⟨stt_agree (w := B.wd a1 a2) (w' := B.wx a1 a2 (baX g bf)) rfl rfl (D := bf) (fun d hd s p => rfl) ho d hd, ho d hd⟩
theorem ba_rows {B : Bk} {a1 a2 : Int32} {g : Nat → Bool} {bf e : Nat} {I : MI} {L : ML} (he : e < bf) : rowC (B.wx a1 a2 (baX g bf)) e I L ↔ rowC (B.wd a1 a2) e I L := ⟨fun h => rowC_agree (w := B.wx a1 a2 (baX g bf)) rfl (ba_stt e he).1.symm (fun k => ((ba_stt e he).2 k).symm) h, fun h => rowC_agree (w := B.wd a1 a2) (w' := B.wx a1 a2 (baX g bf)) rfl (ba_stt e he).1 (ba_stt e he).2 h⟩
def baP (B : Bk) (a1 a2 : Int32) (day x : Nat) : Bool := cleanB (B.wx a1 a2 (baX x.testBit day))
theorem any_bits64 {x : Nat} (h1 : x < 2 ^ 64) (h0 : x ≠ 0) : anyN 64 x.testBit = true := by
  cases h : anyN 64 x.testBit with
  | true => rfl
  | false =>
    have h := anyN_no.mp h
    refine absurd ?_ h0
    rw [← bN_self h1, bN_cong (g := fun _ => false) h]
    decide +kernel
def qBa (o : Option Nat) : Int64 := match o with
  | none => -1
  | some x => gN x
theorem c_tryBar {B : Bk} {a1 a2 : Int32} {f0 : Nat → Bool} {day b0 x : Nat} {I : MI} {L : ML} (ok : B.ok) (g2 : tkB B a1 a2 = true) (hd : day ≤ 99) (hx : x < 2 ^ 40) (h0 : x ≠ 0) (l0 : lif B a1 a2 (baX f0 b0) I L) (rows : ∀ e, e < day → rowC (B.wd a1 a2) e I L) {b : Bool} {K : Int32 → Bool → MI → ML → Prop} (hK : ∀ I' L', (∀ a, a < 154 ∨ 186 ≤ a → I' a = I a) → lif B a1 a2 (baX x.testBit day) I' L' → (∀ e, e < day → rowC (B.wd a1 a2) e I' L') → K (nI (baP B a1 a2 day x).toNat) b I' L') : CV m_Given_bar [vr 12 161, vl (gN x), vi (nI day)] b I L (fun b_2 I_2 L_2 => CV m_Run_live [vr 14 153, vi (nI day), vi (nI 200), vi (nI 1)] b_2 I_2 L_2 (fun b_3 I_3 L_3 => CI m_Days_isClean [vr 11 165] b_3 I_3 L_3 K)) := by
  refine v_Given_bar_0 ?_
  have l2 := lif_ba (g := x.testBit) (bf := day) (m := gN x) (fun p hp => by rw [bl_gN, decide_eq_true hp, Bool.true_and]) l0
  have W2 := lif_W ok g2 (baX_ok (by omega)) l2
  refine c_lc W2 (by omega) (fun e he => (ba_rows he).mpr (rowC_fr (fun a q1 q2 => sI_c (by omega)) (fun a ha => sL_c (by omega)) (rows e he))) ?_ (fun I3 L3 f3 m3 rows3 => ?_)
  · have := laW_3 (t := B.tlOf a2) (x := baX x.testBit day) (any_bits64 (by omega) h0)
    have this : day ≤ (B.wx a1 a2 (baX x.testBit day)).la := this
    omega
  · refine hK I3 L3 (fun a ha => by rw [f3 a (by omega), sI_c (by omega)]) (lif_fr (fun a q1 q2 => f3 a (by omega)) (fun a ha => m3 a (by omega) (by omega) (by omega)) l2) (fun e he => (ba_rows he).mp (rows3 e he))
theorem shl_gN {m : Nat} (hm : m < 63) : (1 : Int64) <<< ((nI m).toInt64 &&& 63) = gN (2 ^ m) := l_ext (fun i hi => by
  rw [l_one (by omega) hi, bl_gN, decide_eq_true hi, Bool.true_and, Nat.testBit_two_pow]
  exact decide_eq_decide.mpr ⟨fun q => q.symm, fun q => q.symm⟩)
theorem c_leastBarred {B : Bk} {a1 a2 : Int32} {day most : Nat} {I : MI} {L : ML} (ok : B.ok) (g2 : tkB B a1 a2 = true) (hn : (B.wd a1 a2).v.m ≤ 40) (hd : day ≤ 99) (hm : most ≤ 2) (l0 : lif B a1 a2 wi0 I L) {b : Bool} {K : Int64 → Bool → MI → ML → Prop} (hK : ∀ I' L', (∀ a, a < 154 ∨ 186 ≤ a → I' a = I a) → K (qBa (if cleanB (B.wd a1 a2) = true then some 0 else szF (baP B a1 a2 day) (B.wd a1 a2).v.m most 1)) b I' L') : CL m_Search_leastBarred [vr 15 181, vi (nI day), vi (nI most)] b I L K := by
  have h16 : 2 ^ (B.wd a1 a2).v.m ≤ 2 ^ 40 := Nat.pow_le_pow_right (by decide) hn
  have W0 : WL (B.wd a1 a2) I L := lif_W ok g2 wi0_ok l0
  have inner : ∀ lo z, 1 ≤ lo → lo ≤ 2 → 2 ^ (B.wd a1 a2).v.m ≤ z → z < 9223372036854775808 → ∀ (S : List Nat) (i : Nat), wlk z S = true → (∀ x, x ∈ S → 1 ≤ x ∧ x < 2 ^ (B.wd a1 a2).v.m) → i + S.length < 1000 → ∀ (f : Nat → Bool) (d : Nat) (I1 : MI) (L1 : ML), (∀ a, a < 154 ∨ 186 ≤ a → I1 a = I a) → lif B a1 a2 (baX f d) I1 L1 → (∀ e, e < day → rowC (B.wd a1 a2) e I1 L1) → (∀ x, S.find? (baP B a1 a2 day) = some x → ∀ I' L', (∀ a, a < 154 ∨ 186 ≤ a → I' a = I a) → K (gN x) b I' L') → (S.find? (baP B a1 a2 day) = none → ∀ I' L' f d, (∀ a, a < 154 ∨ 186 ≤ a → I' a = I a) → lif B a1 a2 (baX f d) I' L' → (∀ e, e < day → rowC (B.wd a1 a2) e I' L') → SW m_Search_leastBarred 38 [vr 15 181, vi (nI day), vi (nI most), vi (nI (lo + 1)), un, un, un] [] b I' L' (kL K)) → SW m_Search_leastBarred 52 [vr 15 181, vi (nI day), vi (nI most), vi (nI lo), vl (gN (S.headD z)), un, vi (nI i)] [] b I1 L1 (kL K) := by
    intro lo z z1 z2 z3 z4 S
    induction S with
    | nil =>
      intro i _ _ hi f d I1 L1 f1 l1 r1 _ hno
      have hi : i < 1000 := hi
      have e3 : I1 154 3 = nI (B.wd a1 a2).v.m := l1.1.1.2.1
      refine v_Search_leastBarred_52 ⟨fun q => absurd q (by rw [show (1000 : Int32) = nI 1000 from rfl, n_le (by omega) (by omega)]; omega), fun _ => ⟨fun _ => ?_, fun q => absurd ?_ q⟩⟩
      · rw [show nI lo + (1 : Int32) = nI (lo + 1) from n_add lo 1]
        exact hno rfl I1 L1 f d f1 l1 r1
      · rw [e3, shl_gN (by omega)]
        show nI 0 ≤ lg_cmp (gN z) _
        rw [lg_ge z4 (by omega)]
        omega
    | cons x S ih =>
      intro i hw hx hi f d I1 L1 f1 l1 r1 hyes hno
      have hi : i + (S.length + 1) < 1000 := hi
      obtain ⟨x1, x2⟩ := hx x (List.mem_cons_self ..)
      have e3 : I1 154 3 = nI (B.wd a1 a2).v.m := l1.1.1.2.1
      unfold wlk at hw
      rw [Bool.and_eq_true, decide_eq_true_iff] at hw
      refine v_Search_leastBarred_52 ⟨fun q => absurd q (by rw [show (1000 : Int32) = nI 1000 from rfl, n_le (by omega) (by omega)]; omega), fun _ => ⟨fun q => absurd q ?_, fun _ => ?_⟩⟩
      · rw [e3, shl_gN (by omega)]
        show ¬ nI 0 ≤ lg_cmp (gN x) _
        rw [lg_ge (by omega) (by omega)]
        omega
      refine c_tryBar (x := x) ok g2 hd (by omega) (by omega) l1 r1 (fun I2 L2 f2 l2 r2 => ?_)
      have fr : ∀ a, a < 154 ∨ 186 ≤ a → I2 a = I a := fun a ha => (f2 a ha).trans (f1 a ha)
      cases c : baP B a1 a2 day x with
      | true =>
        refine ⟨fun q => absurd q (by decide), fun _ => ?_⟩
        exact hyes x (List.find?_cons_of_pos c) I2 L2 fr
      | false =>
        refine ⟨fun _ => c_nextSet ?_, fun q => absurd rfl q⟩
        have en : (x :: S).find? (baP B a1 a2 day) = S.find? (baP B a1 a2 day) := List.find?_cons_of_neg (by rw [c]; exact Bool.false_ne_true)
        rw [en] at hyes hno
        show SW m_Search_leastBarred 52 [vr 15 181, vi (nI day), vi (nI most), vi (nI lo), vl (nxL (gN x)), un, vi (nI i + nI 1)] [] b I2 L2 (kL K)
        rw [hw.1, n_add]
        exact ih (i + 1) hw.2 (fun y hy => hx y (List.mem_cons_of_mem _ hy)) (by omega) _ _ I2 L2 fr l2 r2 hyes hno
  have outer : ∀ c lo, c + lo = most + 1 → 1 ≤ lo → ∀ (f : Nat → Bool) (d : Nat) (I1 : MI) (L1 : ML), (∀ a, a < 154 ∨ 186 ≤ a → I1 a = I a) → lif B a1 a2 (baX f d) I1 L1 → (∀ e, e < day → rowC (B.wd a1 a2) e I1 L1) → (∀ I' L', (∀ a, a < 154 ∨ 186 ≤ a → I' a = I a) → K (qBa (szF (baP B a1 a2 day) (B.wd a1 a2).v.m c lo)) b I' L') → SW m_Search_leastBarred 38 [vr 15 181, vi (nI day), vi (nI most), vi (nI lo), un, un, un] [] b I1 L1 (kL K) := by
    intro c
    induction c with
    | zero =>
      intro lo hc h1 f d I1 L1 f1 l1 r1 kk
      exact v_Search_leastBarred_38 ⟨fun _ => kk I1 L1 f1, fun q => absurd (by rw [n_lt (by omega) (by omega)]; omega) q⟩
    | succ c ih =>
      intro lo hc h1 f d I1 L1 f1 l1 r1 kk
      obtain ⟨w1, w2, w3, w4, w5, w6⟩ := setsP_of (sets_41 _ (Nat.lt_succ_of_le hn) lo (by omega))
      refine v_Search_leastBarred_38 ⟨fun q => absurd q (by rw [n_lt (by omega) (by omega)]; omega), fun _ => c_firstSet (by omega) ?_⟩
      have g := inner lo _ h1 (by omega) w5 w6 (LsA (B.wd a1 a2).v.m lo) 0 w1 (fun x hx => ⟨LsA_pos _ _ _ h1 hx, w3 x hx⟩) (by omega) f d I1 L1 f1 l1 r1 (fun x hx I' L' q1 => ?_) (fun hx I' L' f d q1 q2 q3 => ?_)
      · rw [w2] at g
        exact g
      · have kk := kk I' L' q1
        rw [szF_some hx] at kk
        exact kk
      · refine ih (lo + 1) (by omega) (by omega) f d I' L' q1 q2 q3 (fun I' L' p1 => ?_)
        have kk := kk I' L' p1
        rw [szF_none hx] at kk
        exact kk
  refine v_Search_leastBarred_0 (c_lc (s0 := 0) W0 (by omega) (fun e he => absurd he (Nat.not_lt_zero _)) (by omega) (fun I1 L1 f1 m1 _ => ?_))
  have l1 := lif_fr (I' := I1) (L' := L1) (fun a q1 q2 => f1 a (by omega)) (fun a ha => m1 a (by omega) (by omega) (by omega)) l0
  cases c : cleanB (B.wd a1 a2) with
  | true =>
    have kk := hK I1 L1 (fun a ha => f1 a (by omega))
    rw [if_pos c] at kk
    exact ⟨fun q => absurd q (by decide), fun _ => kk⟩
  | false =>
    refine ⟨fun _ => ?_, fun q => absurd rfl q⟩
    have W1 : WL (B.wd a1 a2) I1 L1 := lif_W ok g2 wi0_ok l1
    refine c_days (d := day) W1 (by omega) (fun I2 L2 f2 m2 r2 => ?_)
    have l2 := lif_fr (I' := I2) (L' := L2) (fun a q1 q2 => f2 a (by omega)) (fun a ha => m2 a (by omega) (by omega) (by omega)) l1
    refine outer most 1 (by omega) (Nat.le_refl _) (fun _ => false) 0 I2 L2 (fun a ha => by rw [f2 a (by omega), f1 a (by omega)]) l2 r2 (fun I3 L3 f3 => ?_)
    have kk := hK I3 L3 f3
    rw [if_neg (by rw [c]; exact Bool.false_ne_true)] at kk
    exact kk
