/-! THE LAW: without ties of a cut there is no way -/
theorem gN_and (a c : Nat) : gN a &&& gN c = gN (a &&& c) := l_ext (fun i hi => by
  rw [l_and, bl_gN, bl_gN, bl_gN, decide_eq_true hi, Bool.true_and, Bool.true_and, Bool.true_and, Nat.testBit_and])
theorem gN_add (a c : Nat) : gN a + gN c = gN (a + c) := (Int64.ofNat_add a c).symm
theorem gN_sub {a c : Nat} (h : c ≤ a) : gN a - gN c = gN (a - c) := (Int64.ofNat_sub a c h).symm
def sn7 (x : Nat) : Nat := (x + x >>> 16) &&& 127
theorem sw_ok7 {k : Nat} (h : k < 65536) : sn7 (sn4 (sn3 (sn2 (sn1 k)))) = cNb k 16 := by
  obtain ⟨c, a, hc, ha, rfl⟩ : ∃ c a, c < 256 ∧ a < 256 ∧ k = c + 256 * a := ⟨k % 256, k / 256, by omega, by omega, by omega⟩
  obtain ⟨p1, p2, -, -, p5, p6, p7⟩ := t_c c hc
  obtain ⟨q1, q2, -, -, q5, q6, q7⟩ := t_c a ha
  have e1 : sn1 (c + 256 * a) = t1 c + 256 * t1 a := by
    unfold sn1
    rw [Nat.shiftRight_eq_div_pow, show (c + 256 * a) / 2 ^ 1 = (c / 2 + 128 * (a % 2)) + 256 * (a / 2) by omega, show 1431655765 = 85 + 256 * 5592405 from rfl, d_land (by omega) (by omega), t_a c hc _ (by omega), q2]
    unfold t1
    omega
  have r1 : t1 c < 256 := Nat.lt_of_le_of_lt (Nat.sub_le _ _) hc
  have s1 : t1 a < 256 := Nat.lt_of_le_of_lt (Nat.sub_le _ _) ha
  have e2 : sn2 (t1 c + 256 * t1 a) = t2 (t1 c) + 256 * t2 (t1 a) := by
    obtain ⟨-, -, u1, u2, -⟩ := t_c (t1 c) r1
    obtain ⟨-, -, v1, v2, -⟩ := t_c (t1 a) s1
    unfold sn2
    rw [Nat.shiftRight_eq_div_pow, show (t1 c + 256 * t1 a) / 2 ^ 2 = (t1 c / 4 + 64 * (t1 a % 4)) + 256 * (t1 a / 4) by omega, show 858993459 = 51 + 256 * 3355443 from rfl, d_land (by omega) (by omega), d_land (by omega) (by omega), t_b _ r1 _ (by omega), v1, v2]
    unfold t2
    omega
  have e3 : sn3 (t2 (t1 c) + 256 * t2 (t1 a)) = t3 (t2 (t1 c)) + 256 * t3 (t2 (t1 a)) := by
    generalize t2 (t1 c) = x at p5 p6
    generalize t2 (t1 a) = y at q5 q6
    unfold sn3
    rw [Nat.shiftRight_eq_div_pow, show x + 256 * y + (x + 256 * y) / 2 ^ 4 = (x + x / 16 + 16 * (y % 16)) + 256 * (y + y / 16) by omega, show 252645135 = 15 + 256 * 986895 from rfl, d_land (by omega) (by omega), t_d _ (by omega), show (15 : Nat) = 2 ^ 4 - 1 from rfl, Nat.and_two_pow_sub_one_eq_mod]
    unfold t3
    omega
  have e4 : sn7 (sn4 (t3 (t2 (t1 c)) + 256 * t3 (t2 (t1 a)))) = t3 (t2 (t1 c)) + t3 (t2 (t1 a)) := by
    have u : t3 (t2 (t1 c)) < 16 := Nat.mod_lt _ (by omega)
    have v : t3 (t2 (t1 a)) < 16 := Nat.mod_lt _ (by omega)
    generalize t3 (t2 (t1 c)) = x at u
    generalize t3 (t2 (t1 a)) = y at v
    unfold sn7 sn4
    have z1 : (x + 256 * y) >>> 8 = y := by rw [Nat.shiftRight_eq_div_pow, show 2 ^ 8 = 256 from rfl]; omega
    have z2 : (x + 256 * y + y) >>> 16 = 0 := by rw [Nat.shiftRight_eq_div_pow, show 2 ^ 16 = 65536 from rfl]; omega
    rw [z1, z2, show (127 : Nat) = 2 ^ 7 - 1 from rfl, Nat.and_two_pow_sub_one_eq_mod, show 2 ^ 7 = 128 from rfl]
    omega
  rw [e1, e2, e3, e4, p7, q7, cNb_D hc]
def uSL (x : Int64) (s : Int32) : Int64 := (Int64.toUInt64 x >>> (Int64.toUInt64 (Int32.toInt64 s) &&& Int64.toUInt64 63)).toInt64
theorem uSL_s : ∀ s, s < 64 → Int64.toUInt64 (Int32.toInt64 (nI s)) &&& Int64.toUInt64 63 = UInt64.ofNat s := by decide +kernel
theorem gN_ushr {k s : Nat} (hk : k < 18446744073709551616) (hs : s < 64) : uSL (gN k) (nI s) = gN (k >>> s) := by
  have e : Int64.toUInt64 (gN k) >>> UInt64.ofNat s = UInt64.ofNat (k >>> s) := by
    have e1 : Int64.toUInt64 (gN k) = UInt64.ofNat k := rfl
    apply UInt64.toNat_inj.mp
    rw [e1, UInt64.toNat_shiftRight, UInt64.toNat_ofNat', UInt64.toNat_ofNat', UInt64.toNat_ofNat', Nat.mod_eq_of_lt (b := 2 ^ 64) (by omega), Nat.mod_eq_of_lt (b := 2 ^ 64) (by omega), Nat.mod_eq_of_lt hs]
    have := Nat.shiftRight_le k s
    rw [Nat.mod_eq_of_lt (by omega)]
  unfold uSL
  rw [uSL_s s hs, e]
  rfl
def sl1 (x : Int64) : Int64 := x - (uSL x 1 &&& 6148914691236517205)
def sl2 (x : Int64) : Int64 := (x &&& 3689348814741910323) + (uSL x 2 &&& 3689348814741910323)
def sl3 (x : Int64) : Int64 := (x + uSL x 4) &&& 1085102592571150095
def sl4 (x : Int64) : Int64 := x + uSL x 8
def sl5 (x : Int64) : Int64 := x + uSL x 16
def sl6 (x : Int64) : Int32 := Int64.toInt32 (x + uSL x 32) &&& 127
theorem mk_and {x a c : Nat} (hx : x < 2 ^ 20) (h : (2 ^ 20 - 1) &&& a = (2 ^ 20 - 1) &&& c) : x &&& a = x &&& c := by
  have e : x = x &&& (2 ^ 20 - 1) := by rw [Nat.and_two_pow_sub_one_eq_mod, Nat.mod_eq_of_lt hx]
  rw [e, Nat.and_assoc, Nat.and_assoc, h]
theorem sl_n {k : Nat} (h : k < 65536) : sl6 (sl5 (sl4 (sl3 (sl2 (sl1 (gN k)))))) = nI (cntB k.testBit 16) := by
  have e1 : sl1 (gN k) = gN (sn1 k) := by
    show gN k - (uSL (gN k) (nI 1) &&& gN 6148914691236517205) = _
    rw [gN_ushr (by omega) (by omega), gN_and, gN_sub, mk_and (c := 1431655765) (by have := Nat.shiftRight_le k 1; omega) (by decide)]
    · rfl
    · exact Nat.le_trans Nat.and_le_left (Nat.shiftRight_le k 1)
  have b1 : sn1 k < 65536 := Nat.lt_of_le_of_lt (Nat.sub_le _ _) h
  have e2 : ∀ x, x < 65536 → sl2 (gN x) = gN (sn2 x) := fun x hx => by
    show (gN x &&& gN 3689348814741910323) + (uSL (gN x) (nI 2) &&& gN 3689348814741910323) = _
    have := Nat.shiftRight_le x 2
    rw [gN_ushr (by omega) (by omega), gN_and, gN_and, gN_add, mk_and (x := x) (c := 858993459) (by omega) (by decide), mk_and (x := x >>> 2) (c := 858993459) (by omega) (by decide)]
    rfl
  have b2 : sn2 (sn1 k) < 131072 := by
    have q1 : sn1 k &&& 858993459 ≤ sn1 k := Nat.and_le_left
    have q2 : sn1 k >>> 2 &&& 858993459 ≤ sn1 k := Nat.le_trans Nat.and_le_left (Nat.shiftRight_le _ 2)
    unfold sn2
    omega
  have e3 : ∀ x, x < 131072 → sl3 (gN x) = gN (sn3 x) := fun x hx => by
    show (gN x + uSL (gN x) (nI 4)) &&& gN 1085102592571150095 = _
    have := Nat.shiftRight_le x 4
    rw [gN_ushr (by omega) (by omega), gN_add, gN_and, mk_and (c := 252645135) (by omega) (by decide)]
    rfl
  have b3 : sn3 (sn2 (sn1 k)) < 262144 := by
    have q1 : sn3 (sn2 (sn1 k)) ≤ sn2 (sn1 k) + sn2 (sn1 k) >>> 4 := Nat.and_le_left
    have q2 := Nat.shiftRight_le (sn2 (sn1 k)) 4
    omega
  have e4 : ∀ x, x < 262144 → sl4 (gN x) = gN (sn4 x) := fun x hx => by
    show gN x + uSL (gN x) (nI 8) = _
    rw [gN_ushr (by omega) (by omega), gN_add]
    rfl
  have b4 : sn4 (sn3 (sn2 (sn1 k))) < 524288 := by
    have q2 := Nat.shiftRight_le (sn3 (sn2 (sn1 k))) 8
    unfold sn4
    omega
  have hc := sw_ok7 h
  obtain ⟨y, hy⟩ : ∃ y, y = sn4 (sn3 (sn2 (sn1 k))) := ⟨_, rfl⟩
  rw [e1, e2 _ b1, e3 _ b2, e4 _ b3, ← hy]
  rw [← hy] at b4 hc
  have e5 : sl5 (gN y) = gN (y + y >>> 16) := by
    show gN y + uSL (gN y) (nI 16) = _
    rw [gN_ushr (by omega) (by omega), gN_add]
  have b5 : y + y >>> 16 < 1048576 := by
    have := Nat.shiftRight_le y 16
    omega
  rw [e5]
  have b6 : y + y >>> 16 < 4294967296 := by omega
  show Int64.toInt32 (gN (y + y >>> 16) + uSL (gN (y + y >>> 16)) (nI 32)) &&& nI 127 = _
  rw [gN_ushr (by omega) (by omega), gN_add, l_32, n_and, show (y + y >>> 16) >>> 32 = 0 by rw [Nat.shiftRight_eq_div_pow]; exact Nat.div_eq_of_lt b6, Nat.add_zero]
  rw [← cN_bits, ← hc]
  rfl
theorem c_bitCountL {f : Nat → Bool} {n : Nat} (hn : n ≤ 16) (hf : ∀ t, n ≤ t → f t = false) {b : Bool} {I : MI} {L : ML} {K : Int32 → Bool → MI → ML → Prop} (hK : K (nI (cntB f n)) b I L) : CI m_J_bitCount_2 [vl (lI f)] b I L K := by
  have h1 := bN_lt n f
  have h2 : 2 ^ n ≤ 2 ^ 16 := Nat.pow_le_pow_right (by omega) hn
  have e : lI f = gN (bN n f) := by
    unfold lI gN
    congr 1
    apply Nat.eq_of_testBit_eq
    intro i
    rw [bN_bit, bN_bit]
    by_cases c : i < n
    · rw [decide_eq_true c, decide_eq_true (show i < 64 by omega)]
    · rw [hf i (by omega), Bool.and_false, Bool.and_false]
  have e1 := sl_n (k := bN n f) (by omega)
  have e2 : cntB (bN n f).testBit 16 = cntB f n := by
    rw [← cntB_cut (f := f) 16 hn]
    exact cntB_cong (fun i _ => bN_bit n f i)
  rw [e2] at e1
  rw [← e1] at hK
  rw [e]
  exact v_J_bitCount_2_0 hK
/-- a village of some of the ties -/
def leV (V : Vil) (g : Nat → Nat) (c : Nat) : Vil := mkV V.n c V.sl V.tw V.td V.kd V.db (fun t => V.fr (g t)) (fun t => V.to (g t)) (fun t => V.dy (g t)) (fun t => V.st (g t))
def leP (f : Nat → Bool) (g : Nat → Nat) (k c : Nat) : Prop := c ≤ k ∧ ∀ t, t < c → g t < k ∧ f (g t) = false
theorem leV_ok {V : Vil} {f : Nat → Bool} {g : Nat → Nat} {c : Nat} (hV : Vok V) (h : leP f g V.m c) : Vok (leV V g c) := by
  obtain ⟨v1, v2, v3, v4, v5, v6, v7⟩ := hV
  exact ⟨v1, Nat.le_trans h.1 v2, v3, v4, v5, v6, fun t ht => v7 (g t) (h.2 t ht).1⟩
section WY
variable {V : Vil} {T : List Act} {B : Bk} {nn bc bs p q N r : Nat} {K : Int32 → Bool → Nat → MI → ML → Prop}
theorem wy_end {g : Nat → Nat} {c : Nat} {b : Bool} {I : MI} {L : ML} (hV : Vok V) (hnv : B.nv = 1) (hp : p < V.n) (hq : q < V.n) (hne : q ≠ p) (hA : apO (cV V) p q = some N) (hr : 189 ≤ r) (h : LB V T B I) (hg : leP (cuB (cV V) p q) g V.m c) (hP : vaP r (leV V g c) I) (hK : ∀ b' I' L' B', LB V T B' I' → 1 ≤ B'.nv → B'.nt = B.nt → K (nI 1) b' nn I' L') : NW nn bc bs m_L_ways 183 [vr 21 0, vr 164 186, vr 900 187, un, vi (nI p), vi (nI q), vl (lI (cuB (cV V) p q)), un, un, un, vr 900 r, vi (nI V.m), un] [] b I L (nwI K) := by
  obtain ⟨⟨n1, n8⟩, m12, -⟩ := id hV
  have e1 : I 187 1 = nI V.m := h.2.2.2.1.1.2.1
  have hW := leV_ok hV hg
  have vok : (cV V).ok 40 := by
    have := h.1.1.2.2.1 0 (by omega)
    rw [h.2.1] at this
    exact this
  have l0 : lg_cmp 0 0 = nI 0 := by decide
  have no : (spF (cV (leV V g c)) noT p).1 q = false := less_no vok hp hne hA g (fun t ht => by
    have ht : t < c := ht
    obtain ⟨g1, g2⟩ := hg.2 t ht
    refine ⟨g1, g2, ?_, ?_⟩
    · show (if t < c then V.fr (g t) else 0) = if g t < V.m then V.fr (g t) else 0
      rw [if_pos ht, if_pos g1]
    · show (if t < c then V.to (g t) else 0) = if g t < V.m then V.to (g t) else 0
      rw [if_pos ht, if_pos g1])
  have ap := no_way no
  refine v_L_ways_183 ?_
  simp (disch := first | omega | assumption) only [n_lit, n_gLt, n_gLe, n_gEq, n_gEq2, n_gLe2, n_gLt2, n_m1, n_add, n_mul, n_lt, n_le, n_eq, n_cl, n_in, n_rem, n_mlt, n_mle, n_ltm, n_lem, n_eqm, n_meq, n_bit, n_shl, n_b0, n_b1, n_sub, n_inT, nT, nF, lT, lF, eT, eF, not_false_eq_true, not_true_eq_false, sI_at, sI_c, sI_j, aI_at, aI_c, sL_at, sL_c, sL_j, true_and, and_true, not_true_eq_false, not_false_eq_true, forall_const, true_implies, false_implies, implies_true, if_true, if_false, ite_true, ite_false, Bool.not_eq_true, Bool.not_eq_false, Bool.true_eq_false, Bool.false_eq_true, false_and, and_false, or_true, true_or, false_or, or_false, e1]
  refine c_Lvillage (k := 1) h.1 hW (by omega) hP (Or.inl ⟨rfl, hnv.symm, by decide⟩) rfl (fun b1 I1 L1 B1 k1 k2 k3 k4 k5 f1 => ?_)
  have nv1 : B1.nv = 2 := by rw [k2, hnv]; rfl
  have h1 : LB V T B1 I1 := h.fr k1 (by rw [k4]; exact if_neg (by decide)) (by rw [k5]) (fun a ha => f1 a (by omega))
  have ev : B1.vl 1 = cV (leV V g c) := by rw [k4]; exact if_pos rfl
  have en : (B1.vl 1).n = V.n := by rw [ev]; rfl
  have ok1 : (cV (leV V g c)).ok 40 := by
    have := k1.1.2.2.1 1 (by omega)
    rw [ev] at this
    exact this
  simp (disch := first | omega | assumption) only [n_lit, n_gLt, n_gLe, n_gEq, n_gEq2, n_gLe2, n_gLt2, n_m1, n_add, n_mul, n_lt, n_le, n_eq, n_cl, n_in, n_rem, n_mlt, n_mle, n_ltm, n_lem, n_eqm, n_meq, n_bit, n_shl, n_b0, n_b1, n_sub, n_inT, nT, nF, lT, lF, eT, eF, not_false_eq_true, not_true_eq_false, sI_at, sI_c, sI_j, aI_at, aI_c, sL_at, sL_c, sL_j, true_and, and_true, not_true_eq_false, not_false_eq_true, forall_const, true_implies, false_implies, implies_true, if_true, if_false, ite_true, ite_false, Bool.not_eq_true, Bool.not_eq_false, Bool.true_eq_false, Bool.false_eq_true, false_and, and_false, or_true, true_or, false_or, or_false]
  refine q_apart (i := 1) k1.1 k1.2.1 (by omega) (by omega) (by omega) (Ne.symm hne) (fun b2 I2 L2 f2 => ?_)
  have h2 := h1.qf f2
  rw [ev, ap]
  have eo : optI (some 0) = nI 0 := rfl
  rw [eo]
  simp (disch := first | omega | assumption) only [n_lit, n_gLt, n_gLe, n_gEq, n_gEq2, n_gLe2, n_gLt2, n_m1, n_add, n_mul, n_lt, n_le, n_eq, n_cl, n_in, n_rem, n_mlt, n_mle, n_ltm, n_lem, n_eqm, n_meq, n_bit, n_shl, n_b0, n_b1, n_sub, n_inT, nT, nF, lT, lF, eT, eF, not_false_eq_true, not_true_eq_false, sI_at, sI_c, sI_j, aI_at, aI_c, sL_at, sL_c, sL_j, true_and, and_true, not_true_eq_false, not_false_eq_true, forall_const, true_implies, false_implies, implies_true, if_true, if_false, ite_true, ite_false, Bool.not_eq_true, Bool.not_eq_false, Bool.true_eq_false, Bool.false_eq_true, false_and, and_false, or_true, true_or, false_or, or_false]
  refine q_soon (s := 1) (by decide) h2.1.1 h2.1.2.1 (by omega) (by omega) (by omega) (Ne.symm hne) (fun b3 I3 L3 c3 f3 _ => ?_)
  have h3 := h2.qf f3
  rw [ev, no_soon no]
  have eo : optI none = nM := rfl
  rw [eo]
  simp (disch := first | omega | assumption) only [n_lit, n_gLt, n_gLe, n_gEq, n_gEq2, n_gLe2, n_gLt2, n_m1, n_add, n_mul, n_lt, n_le, n_eq, n_cl, n_in, n_rem, n_mlt, n_mle, n_ltm, n_lem, n_eqm, n_meq, n_bit, n_shl, n_b0, n_b1, n_sub, n_inT, nT, nF, lT, lF, eT, eF, not_false_eq_true, not_true_eq_false, sI_at, sI_c, sI_j, aI_at, aI_c, sL_at, sL_c, sL_j, true_and, and_true, not_true_eq_false, not_false_eq_true, forall_const, true_implies, false_implies, implies_true, if_true, if_false, ite_true, ite_false, Bool.not_eq_true, Bool.not_eq_false, Bool.true_eq_false, Bool.false_eq_true, false_and, and_false, or_true, true_or, false_or, or_false]
  refine q_cut h3.1.1 h3.1.2.1 (by omega) (by omega) (by omega) (Ne.symm hne) (fun b4 I4 L4 f4 => ?_)
  have e4 : lI (cuB (B1.vl 1) p q) = 0 := by
    rw [ev]
    exact (lI_of (y := 0) (fun k hk => by rw [cuB_0 ok1 hp ap]; exact BitVec.getLsbD_zero)).symm
  rw [e4]
  simp (disch := first | omega | assumption) only [n_lit, n_gLt, n_gLe, n_gEq, n_gEq2, n_gLe2, n_gLt2, n_m1, n_add, n_mul, n_lt, n_le, n_eq, n_cl, n_in, n_rem, n_mlt, n_mle, n_ltm, n_lem, n_eqm, n_meq, n_bit, n_shl, n_b0, n_b1, n_sub, n_inT, nT, nF, lT, lF, eT, eF, not_false_eq_true, not_true_eq_false, sI_at, sI_c, sI_j, aI_at, aI_c, sL_at, sL_c, sL_j, true_and, and_true, not_true_eq_false, not_false_eq_true, forall_const, true_implies, false_implies, implies_true, if_true, if_false, ite_true, ite_false, Bool.not_eq_true, Bool.not_eq_false, Bool.true_eq_false, Bool.false_eq_true, false_and, and_false, or_true, true_or, false_or, or_false, l0]
  exact hK b4 I4 L4 B1 (h3.qf f4) (by omega) k3
theorem wy_loop {b : Bool} {L : ML} (hV : Vok V) (hnv : B.nv = 1) (hp : p < V.n) (hq : q < V.n) (hne : q ≠ p) (hA : apO (cV V) p q = some N) (hr : 189 ≤ r ∧ r < 1000) (hK : ∀ b' I' L' B', LB V T B' I' → 1 ≤ B'.nv → B'.nt = B.nt → K (nI 1) b' nn I' L') : ∀ m k, k + m = V.m → ∀ (g : Nat → Nat) (c : Nat) (I : MI), LB V T B I → leP (cuB (cV V) p q) g k c → vaP r (leV V g c) I → NW nn bc bs m_L_ways 183 [vr 21 0, vr 164 186, vr 900 187, un, vi (nI p), vi (nI q), vl (lI (cuB (cV V) p q)), un, un, un, vr 900 r, vi (nI k), un] [] b I L (nwI K) := by
  obtain ⟨⟨n1, n8⟩, m12, -⟩ := id hV
  intro m
  induction m with
  | zero =>
    intro k hk g c I h hg hP
    obtain rfl : k = V.m := by omega
    exact wy_end hV hnv hp hq hne hA hr.1 h hg hP hK
  | succ m ih =>
    intro k hk g c I h hg hP
    have e1 : I 187 1 = nI V.m := h.2.2.2.1.1.2.1
    have eL : lg_cmp ((lI (cuB (cV V) p q) >>> ((nI k).toInt64 &&& 63)) &&& 1) 0 = nI (cuB (cV V) p q k).toNat := by rw [l_cmp (by omega), lI_bit _ (by omega)]
    have hcm := hg.1
    refine v_L_ways_183 ?_
    cases cc : cuB (cV V) p q k with
    | true =>
      rw [cc] at eL
      have eL : lg_cmp ((lI (cuB (cV V) p q) >>> ((nI k).toInt64 &&& 63)) &&& 1) 0 = nI 1 := eL
      simp (disch := first | omega | assumption) only [n_lit, n_gLt, n_gLe, n_gEq, n_gEq2, n_gLe2, n_gLt2, n_m1, n_add, n_mul, n_lt, n_le, n_eq, n_cl, n_in, n_rem, n_mlt, n_mle, n_ltm, n_lem, n_eqm, n_meq, n_bit, n_shl, n_b0, n_b1, n_sub, n_inT, nT, nF, lT, lF, eT, eF, not_false_eq_true, not_true_eq_false, sI_at, sI_c, sI_j, aI_at, aI_c, sL_at, sL_c, sL_j, true_and, and_true, not_true_eq_false, not_false_eq_true, forall_const, true_implies, false_implies, implies_true, if_true, if_false, ite_true, ite_false, Bool.not_eq_true, Bool.not_eq_false, Bool.true_eq_false, Bool.false_eq_true, false_and, and_false, or_true, true_or, false_or, or_false, e1, eL]
      exact ih (k + 1) (by omega) g c I h ⟨by omega, fun t ht => ⟨by have := (hg.2 t ht).1; omega, (hg.2 t ht).2⟩⟩ hP
    | false =>
      rw [cc] at eL
      have eL : lg_cmp ((lI (cuB (cV V) p q) >>> ((nI k).toInt64 &&& 63)) &&& 1) 0 = nI 0 := eL
      simp (disch := first | omega | assumption) only [n_lit, n_gLt, n_gLe, n_gEq, n_gEq2, n_gLe2, n_gLt2, n_m1, n_add, n_mul, n_lt, n_le, n_eq, n_cl, n_in, n_rem, n_mlt, n_mle, n_ltm, n_lem, n_eqm, n_meq, n_bit, n_shl, n_b0, n_b1, n_sub, n_inT, nT, nF, lT, lF, eT, eF, not_false_eq_true, not_true_eq_false, sI_at, sI_c, sI_j, aI_at, aI_c, sL_at, sL_c, sL_j, true_and, and_true, not_true_eq_false, not_false_eq_true, forall_const, true_implies, false_implies, implies_true, if_true, if_false, ite_true, ite_false, Bool.not_eq_true, Bool.not_eq_false, Bool.true_eq_false, Bool.false_eq_true, false_and, and_false, or_true, true_or, false_or, or_false, e1, eL]
      obtain ⟨p1, p2, p3⟩ := hP
      obtain ⟨t1, t2, t3, t4⟩ := h.2.2.2.1.2.2 k (by omega)
      have key : ∀ m2 i, i + m2 = 4 → ∀ I' : MI, (∀ a, a ≠ r → I' a = I a) → (∀ j, j < 50 + 4 * c → I' r j = I r j) → (∀ j, j < i → I' r (50 + 4 * c + j) = I 187 (50 + 4 * k + j)) → NW nn bc bs m_L_ways 206 [vr 21 0, vr 164 186, vr 900 187, un, vi (nI p), vi (nI q), vl (lI (cuB (cV V) p q)), un, un, un, vr 900 r, vi (nI k), vi (nI i)] [] b I' L (nwI K) := by
        intro m2
        induction m2 with
        | zero =>
          intro i hi I' f1 f2 f3
          obtain rfl : i = 4 := by omega
          have er : I' r 1 = nI c := by rw [f2 1 (by omega)]; exact p1.2.1
          refine v_L_ways_206 ?_
          simp (disch := first | omega | assumption) only [n_lit, n_gLt, n_gLe, n_gEq, n_gEq2, n_gLe2, n_gLt2, n_m1, n_add, n_mul, n_lt, n_le, n_eq, n_cl, n_in, n_rem, n_mlt, n_mle, n_ltm, n_lem, n_eqm, n_meq, n_bit, n_shl, n_b0, n_b1, n_sub, n_inT, nT, nF, lT, lF, eT, eF, not_false_eq_true, not_true_eq_false, sI_at, sI_c, sI_j, aI_at, aI_c, sL_at, sL_c, sL_j, true_and, and_true, not_true_eq_false, not_false_eq_true, forall_const, true_implies, false_implies, implies_true, if_true, if_false, ite_true, ite_false, Bool.not_eq_true, Bool.not_eq_false, Bool.true_eq_false, Bool.false_eq_true, false_and, and_false, or_true, true_or, false_or, or_false, er]
          refine ih (k + 1) (by omega) (fun t => if t = c then k else g t) (c + 1) _ ?_ ⟨by omega, fun t ht => ?_⟩ ⟨⟨?_, ?_, ?_, ?_, ?_⟩, fun x hx => ?_, fun t ht => ?_⟩
          · exact h.fr (h.1.fr (fun a ha => by rw [sI_c (by omega), f1 a (by omega)])) rfl rfl (fun a ha => by rw [sI_c (by omega), f1 a (by omega)])
          · show (if t = c then k else g t) < k + 1 ∧ cuB (cV V) p q (if t = c then k else g t) = false
            by_cases e : t = c
            · rw [if_pos e]
              exact ⟨by omega, cc⟩
            · rw [if_neg e]
              have := hg.2 t (by omega)
              exact ⟨by omega, this.2⟩
          · rw [sI_j (by omega), f2 0 (by omega)]
            exact p1.1
          · rw [sI_at]
            rfl
          · rw [sI_j (by omega), f2 2 (by omega)]
            exact p1.2.2.1
          · rw [sI_j (by omega), f2 3 (by omega)]
            exact p1.2.2.2.1
          · rw [sI_j (by omega), f2 4 (by omega)]
            exact p1.2.2.2.2
          · have hx : x < V.n := hx
            rw [sI_j (by omega), sI_j (by omega), f2 _ (by omega), f2 _ (by omega)]
            exact p2 x hx
          · have ht : t < c + 1 := ht
            rw [sI_j (by omega), sI_j (by omega), sI_j (by omega), sI_j (by omega)]
            by_cases e : t = c
            · subst e
              have f30 := f3 0 (by omega)
              rw [f3 1 (by omega), f3 2 (by omega), f3 3 (by omega)]
              rw [show 50 + 4 * t = 50 + 4 * t + 0 from rfl, f30]
              show _ = nI (V.fr (if t = t then k else g t)) ∧ _ = nI (V.to (if t = t then k else g t)) ∧ _ = nI (V.dy (if t = t then k else g t)) ∧ _ = nI (V.st (if t = t then k else g t))
              rw [if_pos rfl]
              exact ⟨t1, t2, t3, t4⟩
            · rw [f2 _ (by omega), f2 _ (by omega), f2 _ (by omega), f2 _ (by omega)]
              show _ = nI (V.fr (if t = c then k else g t)) ∧ _ = nI (V.to (if t = c then k else g t)) ∧ _ = nI (V.dy (if t = c then k else g t)) ∧ _ = nI (V.st (if t = c then k else g t))
              rw [if_neg e]
              exact p3 t (show t < c by omega)
        | succ m2 ih2 =>
          intro i hi I' f1 f2 f3
          have er : I' r 1 = nI c := by rw [f2 1 (by omega)]; exact p1.2.1
          have e7 : I' 187 = I 187 := f1 187 (by omega)
          refine v_L_ways_206 ?_
          simp (disch := first | omega | assumption) only [n_lit, n_gLt, n_gLe, n_gEq, n_gEq2, n_gLe2, n_gLt2, n_m1, n_add, n_mul, n_lt, n_le, n_eq, n_cl, n_in, n_rem, n_mlt, n_mle, n_ltm, n_lem, n_eqm, n_meq, n_bit, n_shl, n_b0, n_b1, n_sub, n_inT, nT, nF, lT, lF, eT, eF, not_false_eq_true, not_true_eq_false, sI_at, sI_c, sI_j, aI_at, aI_c, sL_at, sL_c, sL_j, true_and, and_true, not_true_eq_false, not_false_eq_true, forall_const, true_implies, false_implies, implies_true, if_true, if_false, ite_true, ite_false, Bool.not_eq_true, Bool.not_eq_false, Bool.true_eq_false, Bool.false_eq_true, false_and, and_false, or_true, true_or, false_or, or_false, er]
          refine ih2 (i + 1) (by omega) _ (fun a ha => ?_) (fun j hj => ?_) (fun j hj => ?_)
          · rw [sI_c ha]
            exact f1 a ha
          · rw [sI_j (by omega)]
            exact f2 j hj
          · by_cases e : j = i
            · rw [e, sI_at, e7]
            · rw [sI_j (by omega)]
              exact f3 j (by omega)
      exact key 4 0 (by omega) I (fun _ _ => rfl) (fun _ _ => rfl) (fun j hj => absurd hj (Nat.not_lt_zero _))
theorem wy_copy {b : Bool} {L : ML} (hV : Vok V) (hnv : B.nv = 1) (hp : p < V.n) (hq : q < V.n) (hne : q ≠ p) (hA : apO (cV V) p q = some N) (hr : 189 ≤ r ∧ r < 1000) (hK : ∀ b' I' L' B', LB V T B' I' → 1 ≤ B'.nv → B'.nt = B.nt → K (nI 1) b' nn I' L') : ∀ m i, i + m = 50 → ∀ (I : MI), LB V T B I → (∀ j, j < i → I r j = I 187 j) → NW nn bc bs m_L_ways 153 [vr 21 0, vr 164 186, vr 900 187, un, vi (nI p), vi (nI q), vl (lI (cuB (cV V) p q)), un, un, un, vr 900 r, vi (nI i), un] [] b I L (nwI K) := by
  obtain ⟨⟨n1, n8⟩, m12, -⟩ := id hV
  intro m
  induction m with
  | zero =>
    intro i hi I h hj
    obtain rfl : i = 50 := by omega
    refine v_L_ways_153 ?_
    simp (disch := first | omega | assumption) only [n_lit, n_gLt, n_gLe, n_gEq, n_gEq2, n_gLe2, n_gLt2, n_m1, n_add, n_mul, n_lt, n_le, n_eq, n_cl, n_in, n_rem, n_mlt, n_mle, n_ltm, n_lem, n_eqm, n_meq, n_bit, n_shl, n_b0, n_b1, n_sub, n_inT, nT, nF, lT, lF, eT, eF, not_false_eq_true, not_true_eq_false, sI_at, sI_c, sI_j, aI_at, aI_c, sL_at, sL_c, sL_j, true_and, and_true, not_true_eq_false, not_false_eq_true, forall_const, true_implies, false_implies, implies_true, if_true, if_false, ite_true, ite_false, Bool.not_eq_true, Bool.not_eq_false, Bool.true_eq_false, Bool.false_eq_true, false_and, and_false, or_true, true_or, false_or, or_false]
    obtain ⟨⟨a0, a1, a2, a3, a4⟩, a5, -⟩ := h.2.2.2.1
    refine wy_loop hV hnv hp hq hne hA hr hK V.m 0 (Nat.zero_add _) id 0 _ ?_ ⟨Nat.le_refl _, fun t ht => absurd ht (Nat.not_lt_zero _)⟩ ⟨⟨?_, ?_, ?_, ?_, ?_⟩, fun x hx => ?_, fun t ht => absurd ht (Nat.not_lt_zero _)⟩
    · exact h.fr (h.1.fr (fun a ha => sI_c (by omega))) rfl rfl (fun a ha => sI_c (by omega))
    · rw [sI_j (by omega), hj 0 (by omega)]
      exact a0
    · rw [sI_at]
      rfl
    · rw [sI_j (by omega), hj 2 (by omega)]
      exact a2
    · rw [sI_j (by omega), hj 3 (by omega)]
      exact a3
    · rw [sI_j (by omega), hj 4 (by omega)]
      exact a4
    · have hx : x < V.n := hx
      rw [sI_j (by omega), sI_j (by omega), hj _ (by omega), hj _ (by omega)]
      exact a5 x hx
  | succ m ih =>
    intro i hi I h hj
    refine v_L_ways_153 ?_
    simp (disch := first | omega | assumption) only [n_lit, n_gLt, n_gLe, n_gEq, n_gEq2, n_gLe2, n_gLt2, n_m1, n_add, n_mul, n_lt, n_le, n_eq, n_cl, n_in, n_rem, n_mlt, n_mle, n_ltm, n_lem, n_eqm, n_meq, n_bit, n_shl, n_b0, n_b1, n_sub, n_inT, nT, nF, lT, lF, eT, eF, not_false_eq_true, not_true_eq_false, sI_at, sI_c, sI_j, aI_at, aI_c, sL_at, sL_c, sL_j, true_and, and_true, not_true_eq_false, not_false_eq_true, forall_const, true_implies, false_implies, implies_true, if_true, if_false, ite_true, ite_false, Bool.not_eq_true, Bool.not_eq_false, Bool.true_eq_false, Bool.false_eq_true, false_and, and_false, or_true, true_or, false_or, or_false]
    refine ih (i + 1) (by omega) _ ?_ (fun j hj2 => ?_)
    · exact h.fr (h.1.fr (fun a ha => sI_c (by omega))) rfl rfl (fun a ha => sI_c (by omega))
    · rw [sI_c (a := 187) (by omega)]
      by_cases e : j = i
      · rw [e, sI_at]
      · rw [sI_j e]
        exact hj j (by omega)
theorem c_Lways {a4 : Int32} {b : Bool} {I : MI} {L : ML} (h : LB V T B I) (hV : Vok V) (hnv : B.nv = 1) (hnn : 189 ≤ nn ∧ nn < 999) (hbc : 1 ≤ bc) (hbs : 100 ≤ bs) (hK : ∀ b' nn' I' L' B', LB V T B' I' → 1 ≤ B'.nv → B'.nt = B.nt → 189 ≤ nn' ∧ nn' ≤ nn + 1 → K (nI 1) b' nn' I' L') : NW nn bc bs m_L_ways 0 [vr 21 0, vr 164 186, vr 900 187, vi a4, un, un, un, un, un, un, un, un, un] [] b I L (nwI K) := by
  obtain ⟨⟨n1, n8⟩, m12, -⟩ := id hV
  obtain ⟨j, j8, ej⟩ := and_7 (a4 >>> (nI 12 &&& nI 31))
  have e0 : I 187 0 = nI V.n := h.2.2.2.1.1.1
  have en : (B.vl 0).n = V.n := by rw [h.2.1]; rfl
  have hp : j % V.n < V.n := Nat.mod_lt _ n1
  have hq : (j % V.n + 1) % V.n < V.n := Nat.mod_lt _ n1
  have hpq : j % V.n = (j % V.n + 1) % V.n → V.n = 1 := fun e => by
    by_cases c : j % V.n + 1 < V.n
    · rw [Nat.mod_eq_of_lt c] at e
      omega
    · have e3 : j % V.n + 1 = V.n := by omega
      rw [e3, Nat.mod_self] at e
      omega
  obtain ⟨p, ep⟩ : ∃ p, p = j % V.n := ⟨_, rfl⟩
  obtain ⟨q, eq⟩ : ∃ q, q = (j % V.n + 1) % V.n := ⟨_, rfl⟩
  refine v_L_ways_0 ?_
  simp (disch := first | omega | assumption) only [n_lit, n_gLt, n_gLe, n_gEq, n_gEq2, n_gLe2, n_gLt2, n_m1, n_add, n_mul, n_lt, n_le, n_eq, n_cl, n_in, n_rem, n_mlt, n_mle, n_ltm, n_lem, n_eqm, n_meq, n_bit, n_shl, n_b0, n_b1, n_sub, n_inT, nT, nF, lT, lF, eT, eF, not_false_eq_true, not_true_eq_false, sI_at, sI_c, sI_j, aI_at, aI_c, sL_at, sL_c, sL_j, true_and, and_true, not_true_eq_false, not_false_eq_true, forall_const, true_implies, false_implies, implies_true, if_true, if_false, ite_true, ite_false, Bool.not_eq_true, Bool.not_eq_false, Bool.true_eq_false, Bool.false_eq_true, false_and, and_false, or_true, true_or, false_or, or_false, e0, ej]
  rw [← eq, ← ep]
  rw [← ep] at hp
  rw [← eq] at hq
  refine ⟨fun hne => ?_, fun e => ?_⟩
  · have hne2 : q ≠ p := fun z => hne z.symm
    have vok : (cV V).ok 40 := by
      have := h.1.1.2.2.1 0 (by omega)
      rw [h.2.1] at this
      exact this
    obtain ⟨N, hA, N1, -, -⟩ := apO_some vok hp hne2
    have N12 : N ≤ 12 := Nat.le_trans N1 m12
    have hcnt := cut_cnt vok hp hne2 hA
    have hre := apO_reach hA
    refine q_cut h.1.1 h.1.2.1 (by omega) (by omega) (by omega) hne (fun b1 I1 L1 f1 => ?_)
    have h1 := h.qf f1
    rw [h.2.1]
    refine q_apart (i := 0) h1.1.1 h1.1.2.1 (by omega) (by omega) (by omega) hne (fun b2 I2 L2 f2 => ?_)
    have h2 := h1.qf f2
    rw [h.2.1, hA]
    refine q_soon (i := 0) (s := 0) (by decide) h2.1.1 h2.1.2.1 (by omega) (by omega) (by omega) hne (fun b3 I3 L3 c3 f3 hc3 => ?_)
    have h3 := h2.qf f3
    rw [h.2.1]
    have hrr := rnd_reach (cV V) c3 p q
    have hbd := rnd_bnd (a := p) vok hc3 16
    refine c_bitCountL (n := V.m) (by omega) (fun t ht => ?_) ?_
    · rw [cuB_eq hA, decide_eq_false (show ¬ t < (cV V).m from Nat.not_lt.mpr ht), Bool.false_and]
    have hcnt : cntB (cuB (cV V) p q) V.m = N := hcnt
    rw [hcnt]
    have eo : optI (some N) = nI N := rfl
    rw [eo]
    rw [hre] at hrr
    have eb : bt (bI V.n (spF (cV V) noT p).1) q = decide (0 < N) := by
      rw [bI_bit _ (by omega), decide_eq_true hq, Bool.true_and]
      exact hre
    have fin : ∀ (I4 : MI) (b4 : Bool) (L4 : ML), LB V T B I4 → NW nn bc bs m_L_ways 146 [vr 21 0, vr 164 186, vr 900 187, un, vi (nI p), vi (nI q), vl (lI (cuB (cV V) p q)), un, un, un, un, un, un] [vi (nI 100)] b4 I4 L4 (nwI K) := fun I4 b4 L4 h4 => by
      refine NW_newa (hf := rfl) hbc (by omega) ?_
      refine v_L_ways_148 ?_
      refine wy_copy hV hnv hp hq hne2 hA ⟨hnn.1, by omega⟩ (fun b' I' L' B' g1 g2 g3 => hK b' _ I' L' B' g1 g2 g3 ⟨by omega, Nat.le_refl _⟩) 50 0 (by omega) _ ?_ (fun j hj => absurd hj (Nat.not_lt_zero _))
      exact h4.fr (h4.1.fr (fun a ha => aI_o (by omega))) rfl rfl (fun a ha => aI_o (by omega))
    have q4 : ∀ {K2 : Int32 → Bool → MI → ML → Prop}, (∀ b' I' L', qF I3 I' → K2 (bI V.n (spF (cV V) noT p).1) b' I' L') → CI m_S_reach [vr 21 0, vi (nI 0), vi (nI p), vi (nI 0)] b3 I3 L3 K2 := fun k => by
      refine q_reach (i := 0) h3.1.1 h3.1.2.1 (by omega) (by omega) (fun b' I' L' f => ?_)
      rw [h.2.1]
      exact k b' I' L' f
    cases er : rnd (cV V) c3 p 16 q with
    | none =>
      rw [er] at hrr
      obtain rfl : N = 0 := by
        by_cases z : 0 < N
        · rw [decide_eq_true z] at hrr
          cases hrr
        · omega
      have eo : optI none = nM := rfl
      rw [eo]
      have eb : bt (bI V.n (spF (cV V) noT p).1) q = false := eb
      simp (disch := first | omega | assumption) only [n_lit, n_gLt, n_gLe, n_gEq, n_gEq2, n_gLe2, n_gLt2, n_m1, n_add, n_mul, n_lt, n_le, n_eq, n_cl, n_in, n_rem, n_mlt, n_mle, n_ltm, n_lem, n_eqm, n_meq, n_bit, n_shl, n_b0, n_b1, n_sub, n_inT, nT, nF, lT, lF, eT, eF, not_false_eq_true, not_true_eq_false, sI_at, sI_c, sI_j, aI_at, aI_c, sL_at, sL_c, sL_j, true_and, and_true, not_true_eq_false, not_false_eq_true, forall_const, true_implies, false_implies, implies_true, if_true, if_false, ite_true, ite_false, Bool.not_eq_true, Bool.not_eq_false, Bool.true_eq_false, Bool.false_eq_true, false_and, and_false, or_true, true_or, false_or, or_false]
      refine q4 (fun b4 I4 L4 f4 => ?_)
      simp (disch := first | omega | assumption) only [n_lit, n_gLt, n_gLe, n_gEq, n_gEq2, n_gLe2, n_gLt2, n_m1, n_add, n_mul, n_lt, n_le, n_eq, n_cl, n_in, n_rem, n_mlt, n_mle, n_ltm, n_lem, n_eqm, n_meq, n_bit, n_shl, n_b0, n_b1, n_sub, n_inT, nT, nF, lT, lF, eT, eF, not_false_eq_true, not_true_eq_false, sI_at, sI_c, sI_j, aI_at, aI_c, sL_at, sL_c, sL_j, true_and, and_true, not_true_eq_false, not_false_eq_true, forall_const, true_implies, false_implies, implies_true, if_true, if_false, ite_true, ite_false, Bool.not_eq_true, Bool.not_eq_false, Bool.true_eq_false, Bool.false_eq_true, false_and, and_false, or_true, true_or, false_or, or_false, eb]
      exact fin I4 b4 L4 (h3.qf f4)
    | some x =>
      rw [er] at hrr
      have hx := hbd _ _ er
      have z : 0 < N := by
        by_cases z : 0 < N
        · exact z
        · rw [decide_eq_false z] at hrr
          cases hrr
      have eo : optI (some x) = nI x := rfl
      rw [eo]
      rw [decide_eq_true z] at eb
      simp (disch := first | omega | assumption) only [n_lit, n_gLt, n_gLe, n_gEq, n_gEq2, n_gLe2, n_gLt2, n_m1, n_add, n_mul, n_lt, n_le, n_eq, n_cl, n_in, n_rem, n_mlt, n_mle, n_ltm, n_lem, n_eqm, n_meq, n_bit, n_shl, n_b0, n_b1, n_sub, n_inT, nT, nF, lT, lF, eT, eF, not_false_eq_true, not_true_eq_false, sI_at, sI_c, sI_j, aI_at, aI_c, sL_at, sL_c, sL_j, true_and, and_true, not_true_eq_false, not_false_eq_true, forall_const, true_implies, false_implies, implies_true, if_true, if_false, ite_true, ite_false, Bool.not_eq_true, Bool.not_eq_false, Bool.true_eq_false, Bool.false_eq_true, false_and, and_false, or_true, true_or, false_or, or_false]
      refine q4 (fun b4 I4 L4 f4 => ?_)
      simp (disch := first | omega | assumption) only [n_lit, n_gLt, n_gLe, n_gEq, n_gEq2, n_gLe2, n_gLt2, n_m1, n_add, n_mul, n_lt, n_le, n_eq, n_cl, n_in, n_rem, n_mlt, n_mle, n_ltm, n_lem, n_eqm, n_meq, n_bit, n_shl, n_b0, n_b1, n_sub, n_inT, nT, nF, lT, lF, eT, eF, not_false_eq_true, not_true_eq_false, sI_at, sI_c, sI_j, aI_at, aI_c, sL_at, sL_c, sL_j, true_and, and_true, not_true_eq_false, not_false_eq_true, forall_const, true_implies, false_implies, implies_true, if_true, if_false, ite_true, ite_false, Bool.not_eq_true, Bool.not_eq_false, Bool.true_eq_false, Bool.false_eq_true, false_and, and_false, or_true, true_or, false_or, or_false, eb]
      exact fin I4 b4 L4 (h3.qf f4)
  · have e : p = q := Decidable.not_not.mp e
    subst e
    refine q_self (i := 0) (p := p) h.1.1 h.1.2.1 (fun b' I' L' f => ?_)
    simp (disch := first | omega | assumption) only [n_lit, n_gLt, n_gLe, n_gEq, n_gEq2, n_gLe2, n_gLt2, n_m1, n_add, n_mul, n_lt, n_le, n_eq, n_cl, n_in, n_rem, n_mlt, n_mle, n_ltm, n_lem, n_eqm, n_meq, n_bit, n_shl, n_b0, n_b1, n_sub, n_inT, nT, nF, lT, lF, eT, eF, not_false_eq_true, not_true_eq_false, sI_at, sI_c, sI_j, aI_at, aI_c, sL_at, sL_c, sL_j, true_and, and_true, not_true_eq_false, not_false_eq_true, forall_const, true_implies, false_implies, implies_true, if_true, if_false, ite_true, ite_false, Bool.not_eq_true, Bool.not_eq_false, Bool.true_eq_false, Bool.false_eq_true, false_and, and_false, or_true, true_or, false_or, or_false]
    exact hK b' nn I' L' B (h.qf f) (by omega) rfl ⟨hnn.1, by omega⟩
end WY
