/-! WHAT-IFS: barred ties, the reference -/
theorem LsA_1 : ∀ n, LsA n 1 = PLf 0 n
  | 0 => rfl
  | n + 1 => by
    show LsA n 1 ++ (LsA n 0).map (fun x => x + 2 ^ n) = _
    rw [LsA_1 n, LsA_0, PLf_s]
    show PLf 0 n ++ [0 + 2 ^ n] = _
    rw [Nat.zero_add]
def L2f : Nat → Nat → List Nat
  | _, 0 => []
  | i, m + 1 => (PLf 0 i).map (fun x => x + 2 ^ i) ++ L2f (i + 1) m
theorem L2f_s : ∀ m i, L2f i (m + 1) = L2f i m ++ (PLf 0 (i + m)).map (fun x => x + 2 ^ (i + m))
  | 0, i => by
    show (PLf 0 i).map (fun x => x + 2 ^ i) ++ [] = [] ++ _
    rw [List.append_nil, List.nil_append, Nat.add_zero]
  | m + 1, i => by
    show (PLf 0 i).map (fun x => x + 2 ^ i) ++ L2f (i + 1) (m + 1) = ((PLf 0 i).map (fun x => x + 2 ^ i) ++ L2f (i + 1) m) ++ _
    rw [L2f_s m (i + 1), List.append_assoc, show i + 1 + m = i + (m + 1) by omega]
theorem LsA_2 : ∀ n, LsA n 2 = L2f 0 n
  | 0 => rfl
  | n + 1 => by
    show LsA n 2 ++ (LsA n 1).map (fun x => x + 2 ^ n) = _
    rw [LsA_2 n, LsA_1 n, L2f_s, Nat.zero_add]
theorem LsA_2' (n : Nat) (h : 1 ≤ n) : LsA n 2 = L2f 1 (n - 1) := by
  rw [LsA_2]
  obtain ⟨k, rfl⟩ : ∃ k, n = k + 1 := ⟨n - 1, by omega⟩
  rfl
theorem WM_ba {v : Vil} {t : Tel} {f g : Nat → Bool} {b0 bf o : Nat} {w : Wd} {I I' : MI} {L L' : ML} (hm : ∀ p, p < 64 → bl (L' 186 21) p = g p) (hg : g v.m = false) (h1 : ∀ j, j < 27 → j ≠ 22 → I' 186 j = I 186 j) (e22 : I' 186 22 = nI bf) (h7 : I' 187 = I 187) (hL : L' 186 20 = L 186 20) (hb : bf ≤ 200) (h : WM v t (baX f b0) o w I L) : WM v t (baX g bf) o (mkW w.v v.m t (baX g bf)) I' L' := by
  obtain ⟨⟨a1, a2, a3, a4, a5⟩, ⟨b1, b2, b3⟩, c1, d1, e1⟩ := h
  refine ⟨⟨rfl, a2, a3, a4, baX_ok hb⟩, ⟨b1, (h1 11 (by omega) (by omega)).trans b2, vilM_fr h7 b3⟩, ?_, ?_, ?_⟩
  · unfold rtP telM at c1 ⊢
    rw [h7, h1 12 (by omega) (by omega)]
    exact c1
  · unfold rxP at d1 ⊢
    obtain ⟨z1, z2, z3, z4, z5, z6, z7, z8⟩ := d1
    rw [h1 26 (by omega) (by omega), h1 25 (by omega) (by omega), h1 13 (by omega) (by omega), h1 14 (by omega) (by omega), h1 15 (by omega) (by omega), h1 16 (by omega) (by omega), hL]
    exact ⟨z1, z2, z3, z4, z5, z6, hm, fun _ => e22⟩
  · unfold vmod at e1 ⊢
    rw [h1 17 (by omega) (by omega), h1 18 (by omega) (by omega), h1 19 (by omega) (by omega), h1 23 (by omega) (by omega), h1 24 (by omega) (by omega)]
    obtain ⟨y1, y2, y3, y4, y5⟩ := e1
    refine ⟨y1, y2, y3, y4, ?_⟩
    rcases y5 with y5 | ⟨q1, q2, q3, q4, q5, q6⟩
    · exact Or.inl y5
    · exact Or.inr ⟨q1, q2, q3, q4, q5, hg⟩
theorem neg_cmp : ¬ nI 0 ≤ lg_cmp (-1) 0 := by decide
theorem pos_cmp {x : Nat} (h : x < 9223372036854775808) : nI 0 ≤ lg_cmp (gN x) 0 := by
  have e := lg_ge (c := 0) h (by omega)
  show nI 0 ≤ lg_cmp (gN x) (gN 0)
  rw [e]
  exact Nat.zero_le _
theorem or_gN {a c : Nat} : gN a ||| gN c = gN (a ||| c) := l_ext (fun i hi => by
  rw [l_or, bl_gN, bl_gN, bl_gN, decide_eq_true hi, Bool.true_and, Bool.true_and, Bool.true_and, Nat.testBit_or])
theorem or2_gN {a c : Nat} (h : a < c) : gN (2 ^ a) ||| gN (2 ^ c) = gN (2 ^ a + 2 ^ c) := by
  have e := Nat.two_pow_add_eq_or_of_lt (Nat.pow_lt_pow_right (a := 2) (by decide) h) 1
  rw [Nat.mul_one] at e
  rw [or_gN, Nat.or_comm, ← e, Nat.add_comm]
theorem cm_barred {B : Bk} {a1 a2 : Int32} {day k o : Nat} {I : MI} {L : ML} (hd : day ≤ 99) (hk : k ≤ 2) (hM : (B.wd a1 a2).v.m ≤ 40) (W : WM (B.vl a1.toNatClampNeg) (B.tlOf a2) wi0 o (B.wd a1 a2) I L) {b : Bool} {K : Int64 → Bool → MI → ML → Prop} (hK : ∀ I' L', mfr I I' → K (qBa (szF (baP B a1 a2 day) (B.wd a1 a2).v.m k 1)) b I' L') : SW m_M_barred 55 [vr 22 186, un, un, un, vi (nI k), vl (-1), un, vi (nI 0), un] [] b (sI I 186 22 (nI day)) L (kL K) := by
  have h16 : 2 ^ (B.wd a1 a2).v.m ≤ 2 ^ 40 := Nat.pow_le_pow_right (by decide) hM
  -- the ties are the village's
  have tie : ∀ (I1 : MI) (L1 : ML), (∃ f d, WM (B.vl a1.toNatClampNeg) (B.tlOf a2) (baX f d) o (B.wx a1 a2 (baX f d)) I1 L1) → ∀ G : Int32 → Bool → MI → ML → Prop, G (nI (B.wd a1 a2).v.m) b I1 L1 → CI m_M_ties [vr 22 186] b I1 L1 G := fun I1 L1 ⟨f, d, h⟩ G g => cm_ties h g
  -- one set tried
  have try1 : ∀ (x : Nat) (I1 : MI) (L1 : ML), x < 2 ^ (B.wd a1 a2).v.m → mfr I I1 → I1 186 22 = nI day → (∃ f d, WM (B.vl a1.toNatClampNeg) (B.tlOf a2) (baX f d) o (B.wx a1 a2 (baX f d)) I1 L1) → ∀ G : Int32 → Bool → MI → ML → Prop, (∀ I' L', mfr I I' → I' 186 22 = nI day → (∃ f d, WM (B.vl a1.toNatClampNeg) (B.tlOf a2) (baX f d) o (B.wx a1 a2 (baX f d)) I' L') → L' 186 21 = gN x → G (nI (baP B a1 a2 day x).toNat) b I' L') → CI m_M_isClean [vr 22 186] b I1 (sL L1 186 21 (gN x)) G := fun x I1 L1 hx f1 e1 ⟨f, d, W1⟩ G g => by
    have W2 := WM_ba (g := x.testBit) (bf := day) (I' := I1) (L' := sL L1 186 21 (gN x)) (fun p hp => by rw [sL_at, bl_gN, decide_eq_true hp, Bool.true_and]) (Nat.testBit_lt_two_pow hx) (fun _ _ _ => rfl) e1 rfl (sL_j (by omega)) (by omega) W1
    have W2 : WM (B.vl a1.toNatClampNeg) (B.tlOf a2) (baX x.testBit day) o (B.wx a1 a2 (baX x.testBit day)) I1 (sL L1 186 21 (gN x)) := W2
    refine cm_isClean W2 (fun I3 L3 f3 l3 => ?_)
    refine g I3 L3 (f1.trans (fun a ha => f3.1 a (by omega))) ((f3.2 22 (by omega) (by omega)).trans e1) ⟨_, _, W2.frM f3 (l3 186 (by decide))⟩ ?_
    rw [l3 186 (by decide), sL_at]
  -- one was found: nothing more is tried
  have fnd : ∀ (x i : Nat) (I1 : MI) (L1 : ML), x < 9223372036854775808 → (∃ f d, WM (B.vl a1.toNatClampNeg) (B.tlOf a2) (baX f d) o (B.wx a1 a2 (baX f d)) I1 L1) → K (gN x) b I1 L1 → SW m_M_barred 106 [vr 22 186, un, un, un, vi (nI k), vl (gN x), un, vi (nI i), un] [] b I1 L1 (kL K) := fun x i I1 L1 hx W1 kk => v_M_barred_106 (tie I1 L1 W1 _ ⟨fun _ => kk, fun _ => ⟨fun _ => kk, fun _ => ⟨fun _ => kk, fun q => absurd (pos_cmp hx) q⟩⟩⟩)
  have two : ∀ n i, i + n = (B.wd a1 a2).v.m → 1 ≤ i → 2 ≤ k → ∀ (I1 : MI) (L1 : ML), mfr I I1 → I1 186 22 = nI day → (∃ f d, WM (B.vl a1.toNatClampNeg) (B.tlOf a2) (baX f d) o (B.wx a1 a2 (baX f d)) I1 L1) → (∀ I' L', mfr I I' → K (qBa ((L2f i n).find? (baP B a1 a2 day))) b I' L') → SW m_M_barred 106 [vr 22 186, un, un, un, vi (nI k), vl (-1), un, vi (nI i), un] [] b I1 L1 (kL K) := by
    intro n
    induction n with
    | zero =>
      intro i hi h1 h2 I1 L1 f1 e1 W1 kk
      exact v_M_barred_106 (tie I1 L1 W1 _ ⟨fun _ => kk I1 L1 f1, fun q => absurd (by rw [n_le (by omega) (by omega)]; omega) q⟩)
    | succ n ih =>
      intro i hi h1 h2 I1 L1 f1 e1 W1 kk
      refine v_M_barred_106 (tie I1 L1 W1 _ ⟨fun q => absurd q (by rw [n_le (by omega) (by omega)]; omega), fun _ => ⟨fun q => absurd q (by rw [show (1 : Int32) = nI 1 from rfl, n_le (by omega) (by omega)]; omega), fun _ => ⟨fun q => absurd q neg_cmp, fun _ => ?_⟩⟩⟩)
      have inner : ∀ m j, j + m = i → ∀ (I1 : MI) (L1 : ML), mfr I I1 → I1 186 22 = nI day → (∃ f d, WM (B.vl a1.toNatClampNeg) (B.tlOf a2) (baX f d) o (B.wx a1 a2 (baX f d)) I1 L1) → (∀ I' L', mfr I I' → K (qBa (((PLf j m).map (fun x => x + 2 ^ i) ++ L2f (i + 1) n).find? (baP B a1 a2 day))) b I' L') → SW m_M_barred 131 [vr 22 186, un, un, un, vi (nI k), vl (-1), un, vi (nI i), vi (nI j)] [] b I1 L1 (kL K) := by
        intro m
        induction m with
        | zero =>
          intro j hj I1 L1 f1 e1 W1 kk
          refine v_M_barred_131 ⟨fun _ => ?_, fun q => absurd (by rw [n_le (by omega) (by omega)]; omega) q⟩
          rw [show nI i + (1 : Int32) = nI (i + 1) from n_add i 1]
          exact ih (i + 1) (by omega) (by omega) h2 I1 L1 f1 e1 W1 kk
        | succ m ihm =>
          intro j hj I1 L1 f1 e1 W1 kk
          have hx : 2 ^ j + 2 ^ i < 2 ^ (B.wd a1 a2).v.m := by
            have q1 : 2 ^ j < 2 ^ i := Nat.pow_lt_pow_right (by decide) (by omega)
            have q2 : 2 ^ (i + 1) ≤ 2 ^ (B.wd a1 a2).v.m := Nat.pow_le_pow_right (by decide) (by omega)
            have q3 : 2 ^ (i + 1) = 2 ^ i + 2 ^ i := by rw [Nat.pow_succ]; omega
            omega
          have eL : (PLf j (m + 1)).map (fun x => x + 2 ^ i) ++ L2f (i + 1) n = (2 ^ j + 2 ^ i) :: ((PLf (j + 1) m).map (fun x => x + 2 ^ i) ++ L2f (i + 1) n) := by
            unfold PLf
            rw [List.range'_succ]
            rfl
          rw [eL] at kk
          refine v_M_barred_131 ⟨fun q => absurd q (by rw [n_le (by omega) (by omega)]; omega), fun _ => ⟨fun q => absurd q neg_cmp, fun _ => ?_⟩⟩
          rw [shl_gN (by omega), shl_gN (by omega), or2_gN (by omega), show nI j + (1 : Int32) = nI (j + 1) from n_add j 1]
          refine try1 _ I1 L1 hx f1 e1 W1 _ (fun I2 L2 f2 e2 W2 e21 => ?_)
          cases c : baP B a1 a2 day (2 ^ j + 2 ^ i) with
          | true =>
            refine ⟨fun q => absurd q (by decide), fun _ => ?_⟩
            rw [e21]
            have kk := kk I2 L2 f2
            rw [List.find?_cons_of_pos c] at kk
            have nx := fnd (2 ^ j + 2 ^ i) (i + 1) I2 L2 (by omega) W2 kk
            refine v_M_barred_131 ⟨fun _ => ?_, fun _ => ⟨fun _ => ?_, fun q => absurd (pos_cmp (by omega)) q⟩⟩
            · rw [show nI i + (1 : Int32) = nI (i + 1) from n_add i 1]
              exact nx
            · rw [show nI i + (1 : Int32) = nI (i + 1) from n_add i 1]
              exact nx
          | false =>
            refine ⟨fun _ => ihm (j + 1) (by omega) I2 L2 f2 e2 W2 (fun I' L' f' => ?_), fun q => absurd rfl q⟩
            have kk := kk I' L' f'
            rw [List.find?_cons_of_neg (by rw [c]; exact Bool.false_ne_true)] at kk
            exact kk
      exact inner i 0 (by omega) I1 L1 f1 e1 W1 kk
  -- behind the single ones
  have mid : ∀ (I1 : MI) (L1 : ML), (LsA (B.wd a1 a2).v.m 1).find? (baP B a1 a2 day) = none → mfr I I1 → I1 186 22 = nI day → (∃ f d, WM (B.vl a1.toNatClampNeg) (B.tlOf a2) (baX f d) o (B.wx a1 a2 (baX f d)) I1 L1) → SW m_M_barred 106 [vr 22 186, un, un, un, vi (nI k), vl (-1), un, vi (nI 1), un] [] b I1 L1 (kL K) := by
    intro I1 L1 hno f1 e1 W1
    rcases (by omega : k = 2 ∧ 1 ≤ (B.wd a1 a2).v.m ∨ k = 2 ∧ (B.wd a1 a2).v.m = 0 ∨ k ≤ 1) with ⟨hk2, hm1⟩ | ⟨hk2, hm0⟩ | hk1
    · refine two ((B.wd a1 a2).v.m - 1) 1 (by omega) (Nat.le_refl _) (by omega) I1 L1 f1 e1 W1 (fun I' L' f' => ?_)
      have kk := hK I' L' f'
      have e : szF (baP B a1 a2 day) (B.wd a1 a2).v.m k 1 = (L2f 1 ((B.wd a1 a2).v.m - 1)).find? (baP B a1 a2 day) := by
        rw [hk2, szF_none hno, ← LsA_2' _ hm1]
        cases q : (LsA (B.wd a1 a2).v.m 2).find? (baP B a1 a2 day) with
        | none => exact szF_none q
        | some x => exact szF_some q
      rw [e] at kk
      exact kk
    · have kk := hK I1 L1 f1
      have e : szF (baP B a1 a2 day) (B.wd a1 a2).v.m k 1 = none := by
        rw [hk2, szF_none hno, hm0]
        rfl
      rw [e] at kk
      refine v_M_barred_106 (tie I1 L1 W1 _ ⟨fun _ => kk, fun q => absurd (by rw [n_le (by omega) (by omega)]; omega) q⟩)
    · have kk := hK I1 L1 f1
      have e : szF (baP B a1 a2 day) (B.wd a1 a2).v.m k 1 = none := by
        rcases (by omega : k = 0 ∨ k = 1) with e | e
        · rw [e]
          rfl
        · rw [e, szF_none hno]
          rfl
      rw [e] at kk
      refine v_M_barred_106 (tie I1 L1 W1 _ ⟨fun _ => kk, fun _ => ⟨fun _ => kk, fun q => absurd (by rw [show (1 : Int32) = nI 1 from rfl, n_le (by omega) (by omega)]; omega) q⟩⟩)
  have single : ∀ n i, i + n = (B.wd a1 a2).v.m → 1 ≤ k → ∀ (I1 : MI) (L1 : ML), mfr I I1 → I1 186 22 = nI day → (∃ f d, WM (B.vl a1.toNatClampNeg) (B.tlOf a2) (baX f d) o (B.wx a1 a2 (baX f d)) I1 L1) → (∀ x, (PLf i n).find? (baP B a1 a2 day) = some x → (LsA (B.wd a1 a2).v.m 1).find? (baP B a1 a2 day) = some x) → ((PLf i n).find? (baP B a1 a2 day) = none → (LsA (B.wd a1 a2).v.m 1).find? (baP B a1 a2 day) = none) → SW m_M_barred 55 [vr 22 186, un, un, un, vi (nI k), vl (-1), un, vi (nI i), un] [] b I1 L1 (kL K) := by
    intro n
    induction n with
    | zero =>
      intro i hi h1 I1 L1 f1 e1 W1 _ hno
      exact v_M_barred_55 (tie I1 L1 W1 _ ⟨fun _ => mid I1 L1 (hno rfl) f1 e1 W1, fun q => absurd (by rw [n_le (by omega) (by omega)]; omega) q⟩)
    | succ n ih =>
      intro i hi h1 I1 L1 f1 e1 W1 hyes hno
      have hx : 2 ^ i < 2 ^ (B.wd a1 a2).v.m := Nat.pow_lt_pow_right (by decide) (by omega)
      have eL : PLf i (n + 1) = 2 ^ i :: PLf (i + 1) n := by
        unfold PLf
        rw [List.range'_succ]
        rfl
      rw [eL] at hyes hno
      refine v_M_barred_55 (tie I1 L1 W1 _ ⟨fun q => absurd q (by rw [n_le (by omega) (by omega)]; omega), fun _ => ⟨fun q => absurd (show nI k ≤ nI 0 from q) (by rw [n_le (by omega) (by omega)]; omega), fun _ => ⟨fun q => absurd q neg_cmp, fun _ => ?_⟩⟩⟩)
      rw [shl_gN (by omega), show nI i + (1 : Int32) = nI (i + 1) from n_add i 1]
      refine try1 _ I1 L1 hx f1 e1 W1 _ (fun I2 L2 f2 e2 W2 e21 => ?_)
      cases c : baP B a1 a2 day (2 ^ i) with
      | true =>
        refine ⟨fun q => absurd q (by decide), fun _ => ?_⟩
        rw [e21]
        have kk := hK I2 L2 f2
        have e : szF (baP B a1 a2 day) (B.wd a1 a2).v.m k 1 = some (2 ^ i) := by
          obtain ⟨c', rfl⟩ : ∃ c', k = c' + 1 := ⟨k - 1, by omega⟩
          exact szF_some (hyes _ (List.find?_cons_of_pos c))
        rw [e] at kk
        have nx := fnd (2 ^ i) 1 I2 L2 (by omega) W2 kk
        exact v_M_barred_55 (tie I2 L2 W2 _ ⟨fun _ => nx, fun _ => ⟨fun _ => nx, fun _ => ⟨fun _ => nx, fun q => absurd (pos_cmp (by omega)) q⟩⟩⟩)
      | false =>
        rw [List.find?_cons_of_neg (by rw [c]; exact Bool.false_ne_true)] at hyes hno
        exact ⟨fun _ => ih (i + 1) (by omega) h1 I2 L2 f2 e2 W2 hyes hno, fun q => absurd rfl q⟩
  have W1 := WM_ba (f := fun _ => false) (b0 := 0) (g := fun _ => false) (bf := day) (I' := sI I 186 22 (nI day)) (L' := L) (fun p hp => W.2.2.2.1.2.2.2.2.2.2.1 p hp) rfl (fun j _ q => sI_j q) (sI_at _ _ _ _) (sI_c (by omega)) rfl (by omega) W
  rcases Nat.eq_zero_or_pos k with hk0 | hk1
  · have kk := hK (sI I 186 22 (nI day)) L mfr_186
    have e : szF (baP B a1 a2 day) (B.wd a1 a2).v.m k 1 = none := by
      rw [hk0]
      rfl
    rw [e] at kk
    have m0 : SW m_M_barred 106 [vr 22 186, un, un, un, vi (nI k), vl (-1), un, vi (nI 1), un] [] b (sI I 186 22 (nI day)) L (kL K) := v_M_barred_106 (tie _ _ ⟨_, _, W1⟩ _ ⟨fun _ => kk, fun _ => ⟨fun _ => kk, fun q => absurd (by rw [show (1 : Int32) = nI 1 from rfl, n_le (by omega) (by omega)]; omega) q⟩⟩)
    exact v_M_barred_55 (tie _ _ ⟨_, _, W1⟩ _ ⟨fun _ => m0, fun _ => ⟨fun _ => m0, fun q => absurd (show nI k ≤ nI 0 by rw [n_le (by omega) (by omega)]; omega) q⟩⟩)
  · exact single (B.wd a1 a2).v.m 0 (by omega) hk1 _ L mfr_186 (sI_at _ _ _ _) ⟨_, _, W1⟩ (fun x hx => by rw [LsA_1]; exact hx) (fun hx => by rw [LsA_1]; exact hx)
theorem op_barred : H_barred := by
  intro a1 a2 a3 a4
  refine Op2L.q (fun B => if (inR a3 100 && (inR a4 3 && tkB B a1 a2)) = true then qBa (if cleanB (B.wd a1 a2) = true then some 0 else szF (baP B a1 a2 a3.toNatClampNeg) (B.wd a1 a2).v.m a4.toNatClampNeg 1) else -1) (fun B I b L K ok hc k => ?_) (fun B I b L K ok hm k => ?_)
  · refine v_S_barred_0 (c_onDay (n := 99) (by decide) (fun g1 => ?_) (fun g1 => ?_))
    · obtain ⟨d, hd, rfl⟩ := (inR_iff (by decide)).mp g1
      cases g5 : inR a4 3 with
      | true =>
        obtain ⟨q, hq, rfl⟩ := (inR_iff (by decide)).mp g5
        simp (disch := first | omega | assumption) only [n_lit, n_gLt, n_gLe, n_gEq, n_gEq2, n_gLe2, n_gLt2, n_m1, n_add, n_mul, n_lt, n_le, n_eq, n_cl, n_in, n_rem, n_mlt, n_mle, n_ltm, n_lem, n_eqm, n_meq, n_bit, n_shl, n_b0, n_b1, n_sub, n_inT, nT, nF, lT, lF, eT, eF, not_false_eq_true, not_true_eq_false, sI_at, sI_c, sI_j, aI_at, aI_c, sL_at, sL_c, sL_j, true_and, and_true, not_true_eq_false, not_false_eq_true, forall_const, true_implies, false_implies, implies_true, if_true, if_false, ite_true, ite_false, Bool.not_eq_true, Bool.not_eq_false, Bool.true_eq_false, Bool.false_eq_true, false_and, and_false, or_true, true_or, false_or, or_false]
        refine c_takeW ok hc (fun g2 I1 L1 f1 W1 l0 => ?_) (fun g2 => ?_)
        · have hv := wd_la ok g2
          simp (disch := first | omega | assumption) only [n_lit, n_gLt, n_gLe, n_gEq, n_gEq2, n_gLe2, n_gLt2, n_m1, n_add, n_mul, n_lt, n_le, n_eq, n_cl, n_in, n_rem, n_mlt, n_mle, n_ltm, n_lem, n_eqm, n_meq, n_bit, n_shl, n_b0, n_b1, n_sub, n_inT, nT, nF, lT, lF, eT, eF, not_false_eq_true, not_true_eq_false, sI_at, sI_c, sI_j, aI_at, aI_c, sL_at, sL_c, sL_j, true_and, and_true, not_true_eq_false, not_false_eq_true, forall_const, true_implies, false_implies, implies_true, if_true, if_false, ite_true, ite_false, Bool.not_eq_true, Bool.not_eq_false, Bool.true_eq_false, Bool.false_eq_true, false_and, and_false, or_true, true_or, false_or, or_false]
          refine c_leastBarred ok g2 hv.2.1 (by omega) (by omega) l0 (fun I2 L2 f2 => ?_)
          have kk := k b I2 L2 (fun a ha => (f2 a (by omega)).trans (f1 a (by omega)))
          rw [g1, g2, g5, n_cl (by omega), n_cl (by omega), Bool.and_self, Bool.and_self, if_pos rfl] at kk
          exact kk
        · have kk := k b I L (fun _ _ => rfl)
          rw [g2, Bool.and_false, Bool.and_false, if_neg Bool.false_ne_true] at kk
          simp (disch := first | omega | assumption) only [n_lit, n_gLt, n_gLe, n_gEq, n_gEq2, n_gLe2, n_gLt2, n_m1, n_add, n_mul, n_lt, n_le, n_eq, n_cl, n_in, n_rem, n_mlt, n_mle, n_ltm, n_lem, n_eqm, n_meq, n_bit, n_shl, n_b0, n_b1, n_sub, n_inT, nT, nF, lT, lF, eT, eF, not_false_eq_true, not_true_eq_false, sI_at, sI_c, sI_j, aI_at, aI_c, sL_at, sL_c, sL_j, true_and, and_true, not_true_eq_false, not_false_eq_true, forall_const, true_implies, false_implies, implies_true, if_true, if_false, ite_true, ite_false, Bool.not_eq_true, Bool.not_eq_false, Bool.true_eq_false, Bool.false_eq_true, false_and, and_false, or_true, true_or, false_or, or_false]
          exact kk
      | false =>
        have kk := k b I L (fun _ _ => rfl)
        rw [g5, Bool.false_and, Bool.and_false, if_neg Bool.false_ne_true] at kk
        rcases inR_out (by decide) g5 with q | ⟨j, q1, q2, rfl⟩
        · simp (disch := first | omega | assumption) only [n_lit, n_gLt, n_gLe, n_gEq, n_gEq2, n_gLe2, n_gLt2, n_m1, n_add, n_mul, n_lt, n_le, n_eq, n_cl, n_in, n_rem, n_mlt, n_mle, n_ltm, n_lem, n_eqm, n_meq, n_bit, n_shl, n_b0, n_b1, n_sub, n_inT, nT, nF, lT, lF, eT, eF, not_false_eq_true, not_true_eq_false, sI_at, sI_c, sI_j, aI_at, aI_c, sL_at, sL_c, sL_j, true_and, and_true, not_true_eq_false, not_false_eq_true, forall_const, true_implies, false_implies, implies_true, if_true, if_false, ite_true, ite_false, Bool.not_eq_true, Bool.not_eq_false, Bool.true_eq_false, Bool.false_eq_true, false_and, and_false, or_true, true_or, false_or, or_false]
          exact kk
        · simp (disch := first | omega | assumption) only [n_lit, n_gLt, n_gLe, n_gEq, n_gEq2, n_gLe2, n_gLt2, n_m1, n_add, n_mul, n_lt, n_le, n_eq, n_cl, n_in, n_rem, n_mlt, n_mle, n_ltm, n_lem, n_eqm, n_meq, n_bit, n_shl, n_b0, n_b1, n_sub, n_inT, nT, nF, lT, lF, eT, eF, not_false_eq_true, not_true_eq_false, sI_at, sI_c, sI_j, aI_at, aI_c, sL_at, sL_c, sL_j, true_and, and_true, not_true_eq_false, not_false_eq_true, forall_const, true_implies, false_implies, implies_true, if_true, if_false, ite_true, ite_false, Bool.not_eq_true, Bool.not_eq_false, Bool.true_eq_false, Bool.false_eq_true, false_and, and_false, or_true, true_or, false_or, or_false]
          exact kk
    · have kk := k b I L (fun _ _ => rfl)
      rw [g1, Bool.false_and, if_neg Bool.false_ne_true] at kk
      simp (disch := first | omega | assumption) only [n_lit, n_gLt, n_gLe, n_gEq, n_gEq2, n_gLe2, n_gLt2, n_m1, n_add, n_mul, n_lt, n_le, n_eq, n_cl, n_in, n_rem, n_mlt, n_mle, n_ltm, n_lem, n_eqm, n_meq, n_bit, n_shl, n_b0, n_b1, n_sub, n_inT, nT, nF, lT, lF, eT, eF, not_false_eq_true, not_true_eq_false, sI_at, sI_c, sI_j, aI_at, aI_c, sL_at, sL_c, sL_j, true_and, and_true, not_true_eq_false, not_false_eq_true, forall_const, true_implies, false_implies, implies_true, if_true, if_false, ite_true, ite_false, Bool.not_eq_true, Bool.not_eq_false, Bool.true_eq_false, Bool.false_eq_true, false_and, and_false, or_true, true_or, false_or, or_false]
      exact kk
  · refine v_M_barred_0 (cm_isIn0 (n := 99) (by decide) (fun g1 => ?_) (fun g1 => ?_))
    · obtain ⟨d, hd, rfl⟩ := (inR_iff (by decide)).mp g1
      simp (disch := first | omega | assumption) only [n_lit, n_gLt, n_gLe, n_gEq, n_gEq2, n_gLe2, n_gLt2, n_m1, n_add, n_mul, n_lt, n_le, n_eq, n_cl, n_in, n_rem, n_mlt, n_mle, n_ltm, n_lem, n_eqm, n_meq, n_bit, n_shl, n_b0, n_b1, n_sub, n_inT, nT, nF, lT, lF, eT, eF, not_false_eq_true, not_true_eq_false, sI_at, sI_c, sI_j, aI_at, aI_c, sL_at, sL_c, sL_j, true_and, and_true, not_true_eq_false, not_false_eq_true, forall_const, true_implies, false_implies, implies_true, if_true, if_false, ite_true, ite_false, Bool.not_eq_true, Bool.not_eq_false, Bool.true_eq_false, Bool.false_eq_true, false_and, and_false, or_true, true_or, false_or, or_false]
      refine cm_isIn0 (n := 2) (by decide) (fun g5 => ?_) (fun g5 => ?_)
      · obtain ⟨q, hq, rfl⟩ := (inR_iff (by decide)).mp g5
        simp (disch := first | omega | assumption) only [n_lit, n_gLt, n_gLe, n_gEq, n_gEq2, n_gLe2, n_gLt2, n_m1, n_add, n_mul, n_lt, n_le, n_eq, n_cl, n_in, n_rem, n_mlt, n_mle, n_ltm, n_lem, n_eqm, n_meq, n_bit, n_shl, n_b0, n_b1, n_sub, n_inT, nT, nF, lT, lF, eT, eF, not_false_eq_true, not_true_eq_false, sI_at, sI_c, sI_j, aI_at, aI_c, sL_at, sL_c, sL_j, true_and, and_true, not_true_eq_false, not_false_eq_true, forall_const, true_implies, false_implies, implies_true, if_true, if_false, ite_true, ite_false, Bool.not_eq_true, Bool.not_eq_false, Bool.true_eq_false, Bool.false_eq_true, false_and, and_false, or_true, true_or, false_or, or_false]
        refine cm_bothW ok hm (fun g2 I1 L1 o f1 W1 => ?_) (fun g2 I1 f1 => ?_)
        · have hv := wd_la ok g2
          have k2 := fun (I2 : MI) (L2 : ML) (f2 : mfr I1 I2) => k b I2 L2 (fun a ha => (f2 a (by omega)).trans (f1 a (by omega)))
          rw [g1, g2, g5, n_cl (by omega), n_cl (by omega), Bool.and_self, Bool.and_self, if_pos rfl] at k2
          have W2 := WM_ba (f := fun _ => false) (b0 := 0) (g := fun _ => false) (bf := d) (I' := sI I1 186 22 (nI d)) (L' := L1) (fun p hp => W1.2.2.2.1.2.2.2.2.2.2.1 p hp) rfl (fun j _ q => sI_j q) (sI_at _ _ _ _) (sI_c (by omega)) rfl (by omega) W1
          have ew : B.wx a1 a2 (baX (fun _ => false) d) = B.wd a1 a2 := rfl
          have W2 : WM (B.vl a1.toNatClampNeg) (B.tlOf a2) (baX (fun _ => false) d) o (B.wx a1 a2 (baX (fun _ => false) d)) (sI I1 186 22 (nI d)) L1 := W2
          rw [ew] at W2
          simp (disch := first | omega | assumption) only [n_lit, n_gLt, n_gLe, n_gEq, n_gEq2, n_gLe2, n_gLt2, n_m1, n_add, n_mul, n_lt, n_le, n_eq, n_cl, n_in, n_rem, n_mlt, n_mle, n_ltm, n_lem, n_eqm, n_meq, n_bit, n_shl, n_b0, n_b1, n_sub, n_inT, nT, nF, lT, lF, eT, eF, not_false_eq_true, not_true_eq_false, sI_at, sI_c, sI_j, aI_at, aI_c, sL_at, sL_c, sL_j, true_and, and_true, not_true_eq_false, not_false_eq_true, forall_const, true_implies, false_implies, implies_true, if_true, if_false, ite_true, ite_false, Bool.not_eq_true, Bool.not_eq_false, Bool.true_eq_false, Bool.false_eq_true, false_and, and_false, or_true, true_or, false_or, or_false]
          refine cm_isClean W2 (fun I3 L3 f3 l3 => ?_)
          have fr : mfr I1 I3 := fun a ha => by rw [f3.1 a (by omega), sI_c (by omega)]
          cases c : cleanB (B.wd a1 a2) with
          | true =>
            have kk := k2 I3 L3 fr
            rw [if_pos c] at kk
            exact ⟨fun q => absurd q (by decide), fun _ => kk⟩
          | false =>
            refine ⟨fun _ => ?_, fun q => absurd rfl q⟩
            have W3 := W2.frM f3 (l3 186 (by decide))
            have e22 : I3 186 22 = nI d := (f3.2 22 (by omega) (by omega)).trans (sI_at _ _ _ _)
            have W4 := WM_ba (f := fun _ => false) (b0 := d) (g := fun _ => false) (bf := 0) (I' := sI I3 186 22 (nI 0)) (L' := L3) (fun p hp => W3.2.2.2.1.2.2.2.2.2.2.1 p hp) rfl (fun j _ q => sI_j q) (sI_at _ _ _ _) (sI_c (by omega)) rfl (by omega) W3
            have same : sI (sI I3 186 22 (nI 0)) 186 22 (nI d) = I3 := by
              funext r j
              by_cases c1 : r = 186
              · subst c1
                by_cases c2 : j = 22
                · subst c2
                  rw [sI_at, e22]
                · rw [sI_j c2, sI_j c2]
              · rw [sI_c c1, sI_c c1]
            have go := cm_barred (B := B) (a1 := a1) (a2 := a2) (day := d) (k := q) (by omega) (by omega) hv.2.1 W4 (b := b) (K := K) (fun I5 L5 f5 => ?_)
            · rw [same] at go
              exact go
            · have kk := k2 I5 L5 (fr.trans (fun a ha => by rw [f5 a ha, sI_c (by omega)]))
              rw [if_neg (by rw [c]; exact Bool.false_ne_true)] at kk
              exact kk
        · have kk := k b I1 L (fun a ha => f1 a (by omega))
          rw [g2, Bool.and_false, Bool.and_false, if_neg Bool.false_ne_true] at kk
          simp (disch := first | omega | assumption) only [n_lit, n_gLt, n_gLe, n_gEq, n_gEq2, n_gLe2, n_gLt2, n_m1, n_add, n_mul, n_lt, n_le, n_eq, n_cl, n_in, n_rem, n_mlt, n_mle, n_ltm, n_lem, n_eqm, n_meq, n_bit, n_shl, n_b0, n_b1, n_sub, n_inT, nT, nF, lT, lF, eT, eF, not_false_eq_true, not_true_eq_false, sI_at, sI_c, sI_j, aI_at, aI_c, sL_at, sL_c, sL_j, true_and, and_true, not_true_eq_false, not_false_eq_true, forall_const, true_implies, false_implies, implies_true, if_true, if_false, ite_true, ite_false, Bool.not_eq_true, Bool.not_eq_false, Bool.true_eq_false, Bool.false_eq_true, false_and, and_false, or_true, true_or, false_or, or_false]
          exact kk
      · have kk := k b I L (fun _ _ => rfl)
        rw [g5, Bool.false_and, Bool.and_false, if_neg Bool.false_ne_true] at kk
        simp (disch := first | omega | assumption) only [n_lit, n_gLt, n_gLe, n_gEq, n_gEq2, n_gLe2, n_gLt2, n_m1, n_add, n_mul, n_lt, n_le, n_eq, n_cl, n_in, n_rem, n_mlt, n_mle, n_ltm, n_lem, n_eqm, n_meq, n_bit, n_shl, n_b0, n_b1, n_sub, n_inT, nT, nF, lT, lF, eT, eF, not_false_eq_true, not_true_eq_false, sI_at, sI_c, sI_j, aI_at, aI_c, sL_at, sL_c, sL_j, true_and, and_true, not_true_eq_false, not_false_eq_true, forall_const, true_implies, false_implies, implies_true, if_true, if_false, ite_true, ite_false, Bool.not_eq_true, Bool.not_eq_false, Bool.true_eq_false, Bool.false_eq_true, false_and, and_false, or_true, true_or, false_or, or_false]
        exact kk
    · have kk := k b I L (fun _ _ => rfl)
      rw [g1, Bool.false_and, if_neg Bool.false_ne_true] at kk
      simp (disch := first | omega | assumption) only [n_lit, n_gLt, n_gLe, n_gEq, n_gEq2, n_gLe2, n_gLt2, n_m1, n_add, n_mul, n_lt, n_le, n_eq, n_cl, n_in, n_rem, n_mlt, n_mle, n_ltm, n_lem, n_eqm, n_meq, n_bit, n_shl, n_b0, n_b1, n_sub, n_inT, nT, nF, lT, lF, eT, eF, not_false_eq_true, not_true_eq_false, sI_at, sI_c, sI_j, aI_at, aI_c, sL_at, sL_c, sL_j, true_and, and_true, not_true_eq_false, not_false_eq_true, forall_const, true_implies, false_implies, implies_true, if_true, if_false, ite_true, ite_false, Bool.not_eq_true, Bool.not_eq_false, Bool.true_eq_false, Bool.false_eq_true, false_and, and_false, or_true, true_or, false_or, or_false]
      exact kk
