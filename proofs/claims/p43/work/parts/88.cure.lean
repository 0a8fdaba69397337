/-! WHAT-IFS: cure, the class -/
/-- the first set of so many, by size, then by number -/
def szF (P : Nat → Bool) (n : Nat) : Nat → Nat → Option Nat
  | 0, _ => none
  | c + 1, lo => match (LsA n lo).find? P with
    | some x => some x
    | none => szF P n c (lo + 1)
def cuP (B : Bk) (a1 a2 : Int32) (day x : Nat) : Bool := cleanB (B.wx a1 a2 (dnX x.testBit day day))
theorem szF_some {P : Nat → Bool} {n c lo x : Nat} (h : (LsA n lo).find? P = some x) : szF P n (c + 1) lo = some x := by
  show (match (LsA n lo).find? P with
    | some x => some x
    | none => szF P n c (lo + 1)) = _
  rw [h]
theorem szF_none {P : Nat → Bool} {n c lo : Nat} (h : (LsA n lo).find? P = none) : szF P n (c + 1) lo = szF P n c (lo + 1) := by
  show (match (LsA n lo).find? P with
    | some x => some x
    | none => szF P n c (lo + 1)) = _
  rw [h]
theorem LsA_pos : ∀ n s x, 1 ≤ s → x ∈ LsA n s → 1 ≤ x
  | 0, s + 1, x, _, h => by cases h
  | n + 1, s + 1, x, _, h => by
    rcases List.mem_append.mp h with h | h
    · exact LsA_pos n (s + 1) x (by omega) h
    · obtain ⟨y, _, rfl⟩ := List.mem_map.mp h
      have : 1 ≤ 2 ^ n := Nat.one_le_two_pow
      show 1 ≤ y + 2 ^ n
      omega
/-- one set denied on a day: the run from there on, clean or not -/
theorem c_tryDeny {B : Bk} {a1 a2 : Int32} {f0 : Nat → Bool} {day d0 t0 x s0 : Nat} {I : MI} {L : ML} (ok : B.ok) (g2 : tkB B a1 a2 = true) (hd : day ≤ 99) (hx : x < 2 ^ 16) (hs : s0 = day ∧ x ≠ 0 ∨ s0 = 0) (l0 : lif B a1 a2 (dnX f0 d0 t0) I L) (rows : ∀ e, e < s0 → rowC (B.wd a1 a2) e I L) {b : Bool} {K : Int32 → Bool → MI → ML → Prop} (hK : ∀ I' L', (∀ a, a < 154 ∨ 186 ≤ a → I' a = I a) → lif B a1 a2 (dnX x.testBit day day) I' L' → (∀ e, e < s0 → rowC (B.wd a1 a2) e I' L') → K (nI (cuP B a1 a2 day x).toNat) b I' L') : CV m_Given_deny [vr 12 161, vi (nI x), vi (nI day), vi (nI day)] b I L (fun b_2 I_2 L_2 => CV m_Run_live [vr 14 153, vi (nI s0), vi (nI 200), vi (nI 1)] b_2 I_2 L_2 (fun b_3 I_3 L_3 => CI m_Days_isClean [vr 11 165] b_3 I_3 L_3 K)) := by
  refine v_Given_deny_0 ?_
  have l2 := lif_dn (g := x.testBit) (df := day) (dt := day) (m := nI x) (fun p hp => bt_nI hp) l0
  have W2 := lif_W ok g2 (dnX_ok (by omega) (by omega)) l2
  have se : s0 ≤ day := by omega
  refine c_lc W2 (by omega) (fun e he => (dn_rows (by omega)).mpr (rowC_fr (fun a q1 q2 => by rw [sI_c (by omega), sI_c (by omega), sI_c (by omega)]) (fun _ _ => rfl) (rows e he))) ?_ (fun I3 L3 f3 m3 rows3 => ?_)
  · rcases hs with ⟨e, h0⟩ | e
    · have := laW_2 (t := B.tlOf a2) (x := dnX x.testBit day day) (any_bits (by omega) h0)
      have this : day ≤ (B.wx a1 a2 (dnX x.testBit day day)).la := this
      omega
    · omega
  · refine hK I3 L3 (fun a ha => by rw [f3 a (by omega), sI_c (by omega), sI_c (by omega), sI_c (by omega)]) (lif_fr (fun a q1 q2 => f3 a (by omega)) (fun a ha => m3 a (by omega) (by omega) (by omega)) l2) (fun e he => (dn_rows (by omega)).mp (rows3 e he))
theorem c_leastDenied {B : Bk} {a1 a2 : Int32} {f0 : Nat → Bool} {day most d0 t0 : Nat} {I : MI} {L : ML} (ok : B.ok) (g2 : tkB B a1 a2 = true) (hn : (B.wd a1 a2).v.n ≤ 16) (hd : day ≤ 99) (hm : most ≤ 3) (l0 : lif B a1 a2 (dnX f0 d0 t0) I L) (rows : ∀ e, e < day → rowC (B.wd a1 a2) e I L) {b : Bool} {K : Int32 → Bool → MI → ML → Prop} (hK : ∀ I' L' f d t, (∀ a, a < 154 ∨ 186 ≤ a → I' a = I a) → lif B a1 a2 (dnX f d t) I' L' → (∀ e, e < day → rowC (B.wd a1 a2) e I' L') → K (optI (szF (cuP B a1 a2 day) (B.wd a1 a2).v.n most 1)) b I' L') : CI m_Search_leastDenied [vr 15 181, vi (nI day), vi (nI most)] b I L K := by
  have h16 : 2 ^ (B.wd a1 a2).v.n ≤ 2 ^ 16 := Nat.pow_le_pow_right (by decide) hn
  have p1 : 1 ≤ 2 ^ (B.wd a1 a2).v.n := Nat.one_le_two_pow
  have inner : ∀ lo z, 1 ≤ lo → lo ≤ 3 → 2 ^ (B.wd a1 a2).v.n ≤ z → z < 9223372036854775808 → ∀ (S : List Nat) (i : Nat), wlk z S = true → (∀ x, x ∈ S → 1 ≤ x ∧ x < 2 ^ (B.wd a1 a2).v.n) → i + S.length < 1000 → ∀ (f : Nat → Bool) (d t : Nat) (I1 : MI) (L1 : ML), (∀ a, a < 154 ∨ 186 ≤ a → I1 a = I a) → lif B a1 a2 (dnX f d t) I1 L1 → (∀ e, e < day → rowC (B.wd a1 a2) e I1 L1) → (∀ x, S.find? (cuP B a1 a2 day) = some x → ∀ I' L' f d t, (∀ a, a < 154 ∨ 186 ≤ a → I' a = I a) → lif B a1 a2 (dnX f d t) I' L' → (∀ e, e < day → rowC (B.wd a1 a2) e I' L') → K (nI x) b I' L') → (S.find? (cuP B a1 a2 day) = none → ∀ I' L' f d t, (∀ a, a < 154 ∨ 186 ≤ a → I' a = I a) → lif B a1 a2 (dnX f d t) I' L' → (∀ e, e < day → rowC (B.wd a1 a2) e I' L') → SW m_Search_leastDenied 2 [vr 15 181, vi (nI day), vi (nI most), vi (nI (lo + 1)), un, un, un] [] b I' L' (kI K)) → SW m_Search_leastDenied 16 [vr 15 181, vi (nI day), vi (nI most), vi (nI lo), vl (gN (S.headD z)), un, vi (nI i)] [] b I1 L1 (kI K) := by
    intro lo z z1 z2 z3 z4 S
    induction S with
    | nil =>
      intro i _ _ hi f d t I1 L1 f1 l1 r1 _ hno
      have hi : i < 1000 := hi
      refine v_Search_leastDenied_16 ⟨fun q => absurd q (by rw [show (1000 : Int32) = nI 1000 from rfl, n_le (by omega) (by omega)]; omega), fun _ => c_all hn l1.1.1.1 ⟨fun _ => ?_, fun q => absurd ?_ q⟩⟩
      · rw [show nI lo + (1 : Int32) = nI (lo + 1) from n_add lo 1]
        exact hno rfl I1 L1 f d t f1 l1 r1
      · show nI 0 < lg_cmp (gN z) _
        rw [l_64 (by omega), lg_gt z4 (by omega)]
        omega
    | cons x S ih =>
      intro i hw hx hi f d t I1 L1 f1 l1 r1 hyes hno
      have hi : i + (S.length + 1) < 1000 := hi
      obtain ⟨x1, x2⟩ := hx x (List.mem_cons_self ..)
      unfold wlk at hw
      rw [Bool.and_eq_true, decide_eq_true_iff] at hw
      refine v_Search_leastDenied_16 ⟨fun q => absurd q (by rw [show (1000 : Int32) = nI 1000 from rfl, n_le (by omega) (by omega)]; omega), fun _ => c_all hn l1.1.1.1 ⟨fun q => absurd q ?_, fun _ => ?_⟩⟩
      · show ¬ nI 0 < lg_cmp (gN x) _
        rw [l_64 (by omega), lg_gt (by omega) (by omega)]
        omega
      show CV m_Given_deny [vr 12 161, vi (Int64.toInt32 (gN x)), _, _] b I1 L1 _
      rw [l_32]
      refine c_tryDeny ok g2 hd (by omega) (Or.inl ⟨rfl, by omega⟩) l1 r1 (fun I2 L2 f2 l2 r2 => ?_)
      have fr : ∀ a, a < 154 ∨ 186 ≤ a → I2 a = I a := fun a ha => (f2 a ha).trans (f1 a ha)
      cases c : cuP B a1 a2 day x with
      | true =>
        refine ⟨fun q => absurd q (by decide), fun _ => ?_⟩
        show K (Int64.toInt32 (gN x)) b I2 L2
        rw [l_32]
        exact hyes x (List.find?_cons_of_pos c) I2 L2 _ _ _ fr l2 r2
      | false =>
        refine ⟨fun _ => c_nextSet ?_, fun q => absurd rfl q⟩
        have en : (x :: S).find? (cuP B a1 a2 day) = S.find? (cuP B a1 a2 day) := List.find?_cons_of_neg (by rw [c]; exact Bool.false_ne_true)
        rw [en] at hyes hno
        show SW m_Search_leastDenied 16 [vr 15 181, vi (nI day), vi (nI most), vi (nI lo), vl (nxL (gN x)), un, vi (nI i + nI 1)] [] b I2 L2 (kI K)
        rw [hw.1, n_add]
        exact ih (i + 1) hw.2 (fun y hy => hx y (List.mem_cons_of_mem _ hy)) (by omega) _ _ _ I2 L2 fr l2 r2 hyes hno
  have outer : ∀ c lo, c + lo = most + 1 → 1 ≤ lo → ∀ (f : Nat → Bool) (d t : Nat) (I1 : MI) (L1 : ML), (∀ a, a < 154 ∨ 186 ≤ a → I1 a = I a) → lif B a1 a2 (dnX f d t) I1 L1 → (∀ e, e < day → rowC (B.wd a1 a2) e I1 L1) → (∀ I' L' f d t, (∀ a, a < 154 ∨ 186 ≤ a → I' a = I a) → lif B a1 a2 (dnX f d t) I' L' → (∀ e, e < day → rowC (B.wd a1 a2) e I' L') → K (optI (szF (cuP B a1 a2 day) (B.wd a1 a2).v.n c lo)) b I' L') → SW m_Search_leastDenied 2 [vr 15 181, vi (nI day), vi (nI most), vi (nI lo), un, un, un] [] b I1 L1 (kI K) := by
    intro c
    induction c with
    | zero =>
      intro lo hc h1 f d t I1 L1 f1 l1 r1 kk
      exact v_Search_leastDenied_2 ⟨fun _ => kk I1 L1 f d t f1 l1 r1, fun q => absurd (by rw [n_lt (by omega) (by omega)]; omega) q⟩
    | succ c ih =>
      intro lo hc h1 f d t I1 L1 f1 l1 r1 kk
      obtain ⟨w1, w2, w3, w4, w5, w6⟩ := setsP_of (sets_16 _ (Nat.lt_succ_of_le hn) lo (by omega))
      refine v_Search_leastDenied_2 ⟨fun q => absurd q (by rw [n_lt (by omega) (by omega)]; omega), fun _ => c_firstSet (by omega) ?_⟩
      have g := inner lo _ h1 (by omega) w5 w6 (LsA (B.wd a1 a2).v.n lo) 0 w1 (fun x hx => ⟨LsA_pos _ _ _ h1 hx, w3 x hx⟩) (by omega) f d t I1 L1 f1 l1 r1 (fun x hx I' L' f d t q1 q2 q3 => ?_) (fun hx I' L' f d t q1 q2 q3 => ?_)
      · rw [w2] at g
        exact g
      · have kk := kk I' L' f d t q1 q2 q3
        rw [szF_some hx] at kk
        exact kk
      · refine ih (lo + 1) (by omega) (by omega) f d t I' L' q1 q2 q3 (fun I' L' f d t p1 p2 p3 => ?_)
        have kk := kk I' L' f d t p1 p2 p3
        rw [szF_none hx] at kk
        exact kk
  exact v_Search_leastDenied_0 (outer most 1 (by omega) (Nat.le_refl _) f0 d0 t0 I L (fun _ _ => rfl) l0 rows hK)
theorem cuP_0 (B : Bk) (a1 a2 : Int32) (day : Nat) : cuP B a1 a2 day 0 = cleanB (B.wd a1 a2) := by
  unfold cuP
  rw [zero_bits, dn_zero]
theorem LsA_0 (n : Nat) : LsA n 0 = [0] := by cases n <;> rfl
theorem szF_0t {P : Nat → Bool} {n k : Nat} (h : P 0 = true) : szF P n (k + 1) 0 = some 0 := szF_some (by rw [LsA_0]; exact List.find?_cons_of_pos h)
theorem szF_0f {P : Nat → Bool} {n k : Nat} (h : P 0 = false) : szF P n (k + 1) 0 = szF P n k 1 := szF_none (by
  rw [LsA_0]
  exact (List.find?_cons_of_neg (by rw [h]; exact Bool.false_ne_true)).trans rfl)
theorem c_leastCure {B : Bk} {a1 a2 : Int32} {day most : Nat} {I : MI} {L : ML} (ok : B.ok) (g2 : tkB B a1 a2 = true) (hn : (B.wd a1 a2).v.n ≤ 16) (hd : day ≤ 99) (hm : most ≤ 3) (l0 : lif B a1 a2 wi0 I L) {b : Bool} {K : Int32 → Bool → MI → ML → Prop} (hK : ∀ I' L', (∀ a, a < 154 ∨ 186 ≤ a → I' a = I a) → K (optI (szF (cuP B a1 a2 day) (B.wd a1 a2).v.n (most + 1) 0)) b I' L') : CI m_Search_leastCure [vr 15 181, vi (nI day), vi (nI most)] b I L K := by
  have W0 := lif_W ok g2 wi0_ok l0
  have W0 : WL (B.wd a1 a2) I L := W0
  refine v_Search_leastCure_0 (c_lc (s0 := 0) W0 (by omega) (fun e he => absurd he (Nat.not_lt_zero _)) (by omega) (fun I1 L1 f1 m1 _ => ?_))
  have l1 := lif_fr (I' := I1) (L' := L1) (fun a q1 q2 => f1 a (by omega)) (fun a ha => m1 a (by omega) (by omega) (by omega)) l0
  have c0 := cuP_0 B a1 a2 day
  cases c : cleanB (B.wd a1 a2) with
  | true =>
    rw [c] at c0
    have kk := hK I1 L1 (fun a ha => f1 a (by omega))
    rw [szF_0t c0] at kk
    exact ⟨fun q => absurd q (by decide), fun _ => kk⟩
  | false =>
    rw [c] at c0
    refine ⟨fun _ => ?_, fun q => absurd rfl q⟩
    have W1 : WL (B.wd a1 a2) I1 L1 := lif_W ok g2 wi0_ok l1
    refine c_days (d := day) W1 (by omega) (fun I2 L2 f2 m2 r2 => ?_)
    have l2 := lif_fr (I' := I2) (L' := L2) (fun a q1 q2 => f2 a (by omega)) (fun a ha => m2 a (by omega) (by omega) (by omega)) l1
    refine c_leastDenied (f0 := fun _ => false) (d0 := 0) (t0 := 0) ok g2 hn hd hm l2 r2 (fun I3 L3 f d t f3 _ _ => ?_)
    have kk := hK I3 L3 (fun a ha => by rw [f3 a ha, f2 a (by omega), f1 a (by omega)])
    rw [szF_0f c0] at kk
    exact kk
