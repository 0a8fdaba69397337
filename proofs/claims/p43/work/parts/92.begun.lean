/-! WHAT-IFS: begun, the class -/
def atB (B : Bk) (a1 a2 : Int32) : Bool := inR a1 B.nv && inR a2 (2 ^ (B.vl a1.toNatClampNeg).n)
theorem bt_ones {n i : Nat} (hi : i < 32) : bt (nI (2 ^ n - 1)) i = decide (i < n) := by
  rw [bt_nI hi, Nat.testBit_two_pow_sub_one]
theorem inR_2p {h : Int32} {n : Nat} (hn : n ≤ 16) : inR h (2 ^ n) = true ↔ ∀ i, n ≤ i → i < 32 → bt h i = false := by
  have h16 : 2 ^ n ≤ 2 ^ 16 := Nat.pow_le_pow_right (by decide) hn
  rw [inR_iff (by omega)]
  constructor
  · rintro ⟨k, hk, rfl⟩ i h1 h2
    rw [bt_nI h2, Nat.testBit_lt_two_pow]
    have : 2 ^ n ≤ 2 ^ i := Nat.pow_le_pow_right (by decide) h1
    omega
  · intro q
    refine ⟨bN n (bt h), bN_lt _ _, ?_⟩
    refine bI_of (f := bt h) (by omega) (fun i hi => ?_)
    by_cases c : i < n
    · rw [decide_eq_true c, Bool.true_and]
    · rw [decide_eq_false c, Bool.false_and]
      exact q i (by omega) hi
theorem there_eq {h : Int32} {n : Nat} (hn : n ≤ 16) : (h &&& (nI (2 ^ n - 1) ^^^ nM) = nI 0) = (inR h (2 ^ n) = true) := by
  have hb : ∀ i, i < 32 → bt (h &&& (nI (2 ^ n - 1) ^^^ nM)) i = (bt h i && !decide (i < n)) := fun i hi => by
    rw [b_and, b_xor, bt_ones hi, b_m1 i hi, Bool.xor_true]
  rw [inR_2p hn]
  apply propext
  constructor
  · intro q i h1 h2
    have := hb i h2
    rw [q, b_0, decide_eq_false (by omega : ¬ i < n), Bool.not_false, Bool.and_true] at this
    exact this.symm
  · intro q
    apply b_ext
    intro i hi
    rw [hb i hi, b_0]
    by_cases c : i < n
    · rw [decide_eq_true c, Bool.not_true, Bool.and_false]
    · rw [q i (by omega) hi, Bool.false_and]
theorem there_sh {h : Int32} {n : Nat} (hn : n ≤ 16) (hp : ¬ h < nI 0) : (h >>> (nI n &&& nI 31) = nI 0) = (inR h (2 ^ n) = true) := by
  obtain ⟨k, hk, rfl⟩ := n_of hp
  have hb : ∀ i, i < 32 → bt (nI k >>> (nI n &&& nI 31)) i = if n + i < 32 then k.testBit (n + i) else k.testBit 31 := fun i hi => by
    rw [b_sshr n (by omega) _ hi]
    split
    · rw [bt_nI (by omega)]
    · rw [bt_nI (by omega)]
  have h31 : k.testBit 31 = false := Nat.testBit_lt_two_pow (by omega)
  rw [inR_2p hn]
  apply propext
  constructor
  · intro q i h1 h2
    have := hb (i - n) (by omega)
    rw [q, b_0, if_pos (by omega), show n + (i - n) = i by omega] at this
    rw [bt_nI h2]
    exact this.symm
  · intro q
    apply b_ext
    intro i hi
    rw [hb i hi, b_0]
    split
    · rename_i c
      have := q (n + i) (by omega) c
      rw [bt_nI c] at this
      exact this
    · exact h31
theorem c_areThere {B : Bk} {a1 a2 : Int32} {b : Bool} {I : MI} {L : ML} {K : Int32 → Bool → MI → ML → Prop} (ok : B.ok) (hc : bkC 1 B I) (hy : atB B a1 a2 = true → K (nI 1) b I L) (hf : atB B a1 a2 = false → K (nI 0) b I L) : CI m_S_areThere [vr 21 0, vi a1, vi a2] b I L K := by
  have h1 := ok.1.1
  refine v_S_areThere_0 ?_
  cases h : inR a1 B.nv with
  | true =>
    obtain ⟨k, hk, rfl⟩ := (inR_iff (by omega)).mp h
    have hn := (ok.2.2.1 k hk).1.2
    have en : I (1 + 5 + 7 * k) 0 = nI (B.vl k).n := (hc.2.2.1 k hk).1.1
    have ek : (nI k).toNatClampNeg = k := n_cl (by omega)
    have e1 : 1 ≤ 2 ^ (B.vl k).n := Nat.one_le_two_pow
    unfold atB at hy hf
    rw [h, Bool.true_and, ek] at hy hf
    refine c_hasV_y hc.1.1 (by omega) hk ?_
    refine ⟨fun q => absurd q (by decide), fun _ => ⟨by rw [n_in (by omega)]; omega, v_Village_all_0 ?_⟩⟩
    rw [ek, show 2 + 4 + 7 * k = 1 + 5 + 7 * k by omega, en, show (1 : Int32) <<< (nI (B.vl k).n &&& 31) = nI (2 ^ (B.vl k).n) from n_shl (by omega), show nI (2 ^ (B.vl k).n) - (1 : Int32) = nI (2 ^ (B.vl k).n - 1) from n_sub e1]
    show (¬ a2 &&& (nI (2 ^ (B.vl k).n - 1) ^^^ nM) = nI 0 → _) ∧ (¬ ¬ a2 &&& (nI (2 ^ (B.vl k).n - 1) ^^^ nM) = nI 0 → _)
    rw [there_eq hn]
    refine ⟨fun q => ⟨Or.inl rfl, hf ?_⟩, fun q => ⟨Or.inr rfl, hy (Decidable.not_not.mp q)⟩⟩
    cases z : inR a2 (2 ^ (B.vl k).n) with
    | false => rfl
    | true => exact absurd z q
  | false =>
    have g := hf (by unfold atB; rw [h, Bool.false_and])
    refine c_hasV_n hc.1.1 (by omega) (fun q => ?_) ⟨fun _ => ⟨Or.inl rfl, g⟩, fun q => absurd rfl q⟩
    rw [(inR_iff (by omega)).mpr q] at h
    cases h
theorem at_tk {B : Bk} {a1 a2 a3 : Int32} (ok : B.ok) (h : tkB B a1 a2 = true) : atB B a1 a3 = inR a3 (2 ^ (B.wd a1 a2).v.n) := by
  have h1 := ok.1.1
  obtain ⟨c, -⟩ := (tkB_iff ok).mp h
  unfold atB
  rw [(inR_iff (by omega)).mpr c, Bool.true_and]
  rfl
/-- who holds on a day, begun by some -/
def bgW (B : Bk) (a1 a2 : Int32) (x : Nat) : Wd := B.wx a1 a2 (bgX x.testBit)
theorem c_begunBy {B : Bk} {a1 a2 : Int32} {x d : Nat} {y : Wi} {I : MI} {L : ML} (ok : B.ok) (g2 : tkB B a1 a2 = true) (hn : (B.wd a1 a2).v.n ≤ 16) (hd : d ≤ 200) (hy : y = wi0 ∨ ∃ f, y = bgX f) (l0 : lif B a1 a2 y I L) {b : Bool} {K : Int32 → Bool → MI → ML → Prop} (hK : ∀ I' L', (∀ a, a < 154 ∨ 186 ≤ a → I' a = I a) → lif B a1 a2 (bgX x.testBit) I' L' → K (hdI (bgW B a1 a2 x) d) b I' L') : CI m_Search_holdersBegunBy [vr 15 181, vi (nI x), vi (nI d)] b I L K := by
  have l2 := lif_bg (g := x.testBit) (m := nI x) (fun p hp => bt_nI hp) hy l0
  have W2 := lif_W ok g2 (bgX_ok _) l2
  refine v_Search_holdersBegunBy_0 (v_Given_beginBy_0 ⟨Or.inr rfl, ?_⟩)
  refine c_live (w := bgW B a1 a2 x) (s0 := 0) (U := d + 1) (by omega) (by omega) (Or.inr ⟨by omega, rfl⟩) (Or.inl rfl) W2 (fun e he => absurd he (Nat.not_lt_zero _)) (by omega) (fun N I2 L2 f2 m2 n1 n2 rows R _ hN _ => ?_)
  have hN := hN rfl
  have l3 := lif_fr (I' := I2) (L' := L2) (fun a q1 q2 => f2 a (by omega)) (fun a ha => m2 a (by omega) (by omega) (by omega)) l2
  have kk := hK I2 L2 (fun a ha => by rw [f2 a (by omega), sI_c (by omega), sI_c (by omega)]) l3
  exact c_holdersOn (w := bgW B a1 a2 x) hd hn (rows d (by omega)) kk
/-- sets of one or two, from a high one on -/
def PLf (i m : Nat) : List Nat := (List.range' i m).map (fun j => 2 ^ j)
def blk (h : Nat) : List Nat := (0 :: PLf 0 h).map (fun x => 2 ^ h + x)
def L12 : Nat → Nat → List Nat
  | _, 0 => []
  | i, m + 1 => blk i ++ L12 (i + 1) m
def bgF (P : Nat → Bool) (k : Int32) : List Nat → Nat → Int32
  | [], m => if k = nM then nI m else -nI 2
  | x :: T, m => if P x = true then (if nI m = k then nI x else bgF P k T (m + 1)) else bgF P k T m
def bgP (B : Bk) (a1 a2 : Int32) (d : Nat) (h : Int32) (x : Nat) : Bool := decide (hdI (bgW B a1 a2 x) d = h)
theorem n_or (a c : Nat) : nI a ||| nI c = nI (a ||| c) := b_ext (fun i hi => by
  rw [b_or, bt_nI hi, bt_nI hi, bt_nI hi, Nat.testBit_or])
theorem n_or2 {h l : Nat} (hl : l < h) : nI (2 ^ h) ||| nI (2 ^ l) = nI (2 ^ h + 2 ^ l) := by
  have e := Nat.two_pow_add_eq_or_of_lt (Nat.pow_lt_pow_right (a := 2) (by decide) hl) 1
  rw [Nat.mul_one] at e
  rw [n_or, e]
theorem c_begun {B : Bk} {a1 a2 h k : Int32} {d : Nat} {I : MI} {L : ML} (ok : B.ok) (g2 : tkB B a1 a2 = true) (hn : (B.wd a1 a2).v.n ≤ 16) (hd : d ≤ 99) (l0 : lif B a1 a2 wi0 I L) {b : Bool} {K : Int32 → Bool → MI → ML → Prop} (hK : ∀ I' L', (∀ a, a < 154 ∨ 186 ≤ a → I' a = I a) → K (bgF (bgP B a1 a2 d h) k (L12 0 (B.wd a1 a2).v.n) 0) b I' L') : CI m_Search_beginnings [vr 15 181, vi (nI d), vi h, vi k] b I L K := by
  -- one set
  have one : ∀ (x : Nat) (T : List Nat) (m : Nat) (y : Wi) (I1 : MI) (L1 : ML) (G : Int32 → Bool → MI → ML → Prop), (y = wi0 ∨ ∃ f, y = bgX f) → (∀ a, a < 154 ∨ 186 ≤ a → I1 a = I a) → lif B a1 a2 y I1 L1 → (∀ I' L', (∀ a, a < 154 ∨ 186 ≤ a → I' a = I a) → K (bgF (bgP B a1 a2 d h) k (x :: T) m) b I' L') → (∀ m' y I' L', (y = wi0 ∨ ∃ f, y = bgX f) → (∀ a, a < 154 ∨ 186 ≤ a → I' a = I a) → lif B a1 a2 y I' L' → (∀ I' L', (∀ a, a < 154 ∨ 186 ≤ a → I' a = I a) → K (bgF (bgP B a1 a2 d h) k T m') b I' L') → G (nI m') b I' L') → CI m_Search_holdersBegunBy [vr 15 181, vi (nI x), vi (nI d)] b I1 L1 (fun v_1 b_1 I_1 L_1 => ((¬ v_1 = h → G (nI m) b_1 I_1 L_1) ∧ (¬ (¬ v_1 = h) → ((¬ nI m = k → G (nI m + (1 : Int32)) b_1 I_1 L_1) ∧ (¬ (¬ nI m = k) → K (nI x) b_1 I_1 L_1))))) := by
    intro x T m y I1 L1 G hy f1 l1 kk next
    refine c_begunBy ok g2 hn (by omega) hy l1 (fun I2 L2 f2 l2 => ?_)
    have fr : ∀ a, a < 154 ∨ 186 ≤ a → I2 a = I a := fun a ha => (f2 a ha).trans (f1 a ha)
    refine ⟨fun q => next m _ I2 L2 (Or.inr ⟨_, rfl⟩) fr l2 (fun I' L' f' => ?_), fun q => ⟨fun z => ?_, fun z => ?_⟩⟩
    · have kk := kk I' L' f'
      have e : bgF (bgP B a1 a2 d h) k (x :: T) m = bgF (bgP B a1 a2 d h) k T m := if_neg (by
        show ¬ decide (hdI (bgW B a1 a2 x) d = h) = true
        rw [decide_eq_false q]
        exact Bool.false_ne_true)
      rw [e] at kk
      exact kk
    · have q := Decidable.not_not.mp q
      rw [show nI m + (1 : Int32) = nI (m + 1) from n_add m 1]
      refine next (m + 1) _ I2 L2 (Or.inr ⟨_, rfl⟩) fr l2 (fun I' L' f' => ?_)
      have kk := kk I' L' f'
      have e : bgF (bgP B a1 a2 d h) k (x :: T) m = bgF (bgP B a1 a2 d h) k T (m + 1) := (if_pos (decide_eq_true q)).trans (if_neg z)
      rw [e] at kk
      exact kk
    · have q := Decidable.not_not.mp q
      have z := Decidable.not_not.mp z
      have kk := kk I2 L2 fr
      have e : bgF (bgP B a1 a2 d h) k (x :: T) m = nI x := (if_pos (decide_eq_true q)).trans (if_pos z)
      rw [e] at kk
      exact kk
  have inner : ∀ hi, hi < (B.wd a1 a2).v.n → ∀ T : List Nat, (∀ m y I' L', (y = wi0 ∨ ∃ f, y = bgX f) → (∀ a, a < 154 ∨ 186 ≤ a → I' a = I a) → lif B a1 a2 y I' L' → (∀ I' L', (∀ a, a < 154 ∨ 186 ≤ a → I' a = I a) → K (bgF (bgP B a1 a2 d h) k T m) b I' L') → SW m_Search_beginnings 6 [vr 15 181, vi (nI d), vi h, vi k, vi (nI m), vi (nI (hi + 1)), un, un] [] b I' L' (kI K)) → ∀ n i, i + n = hi → ∀ (m : Nat) (y : Wi) (I1 : MI) (L1 : ML), (y = wi0 ∨ ∃ f, y = bgX f) → (∀ a, a < 154 ∨ 186 ≤ a → I1 a = I a) → lif B a1 a2 y I1 L1 → (∀ I' L', (∀ a, a < 154 ∨ 186 ≤ a → I' a = I a) → K (bgF (bgP B a1 a2 d h) k ((PLf i n).map (fun x => 2 ^ hi + x) ++ T) m) b I' L') → SW m_Search_beginnings 21 [vr 15 181, vi (nI d), vi h, vi k, vi (nI m), vi (nI hi), vi (nI i), un] [] b I1 L1 (kI K) := by
    intro hi hhi T next n
    induction n with
    | zero =>
      intro i e m y I1 L1 hy f1 l1 kk
      refine v_Search_beginnings_21 ⟨fun _ => ?_, fun q => absurd (by rw [n_le (by omega) (by omega)]; omega) q⟩
      rw [show nI hi + (1 : Int32) = nI (hi + 1) from n_add hi 1]
      exact next m y I1 L1 hy f1 l1 kk
    | succ n ih =>
      intro i e m y I1 L1 hy f1 l1 kk
      refine v_Search_beginnings_21 ⟨fun q => absurd q (by rw [n_le (by omega) (by omega)]; omega), fun _ => ⟨fun _ => ?_, fun q => absurd (show ¬ nI i = nM by rw [n_eqm (by omega)]; exact id) q⟩⟩
      rw [show (1 : Int32) <<< (nI hi &&& 31) = nI (2 ^ hi) from n_shl (by omega), show (1 : Int32) <<< (nI i &&& 31) = nI (2 ^ i) from n_shl (by omega), n_or2 (by omega), show nI i + (1 : Int32) = nI (i + 1) from n_add i 1]
      have eL : (PLf i (n + 1)).map (fun x => 2 ^ hi + x) ++ T = (2 ^ hi + 2 ^ i) :: ((PLf (i + 1) n).map (fun x => 2 ^ hi + x) ++ T) := by
        unfold PLf
        rw [List.range'_succ]
        rfl
      rw [eL] at kk
      exact one _ _ m y I1 L1 (fun v b_1 I_1 L_1 => SW m_Search_beginnings 21 [vr 15 181, vi (nI d), vi h, vi k, vi v, vi (nI hi), vi (nI (i + 1)), un] [] b_1 I_1 L_1 (kI K)) hy f1 l1 kk (fun m' y I' L' q1 q2 q3 q4 => ih (i + 1) (by omega) m' y I' L' q1 q2 q3 q4)
  have outer : ∀ n i, i + n = (B.wd a1 a2).v.n → ∀ (m : Nat) (y : Wi) (I1 : MI) (L1 : ML), (y = wi0 ∨ ∃ f, y = bgX f) → (∀ a, a < 154 ∨ 186 ≤ a → I1 a = I a) → lif B a1 a2 y I1 L1 → (∀ I' L', (∀ a, a < 154 ∨ 186 ≤ a → I' a = I a) → K (bgF (bgP B a1 a2 d h) k (L12 i n) m) b I' L') → SW m_Search_beginnings 6 [vr 15 181, vi (nI d), vi h, vi k, vi (nI m), vi (nI i), un, un] [] b I1 L1 (kI K) := by
    intro n
    induction n with
    | zero =>
      intro i e m y I1 L1 hy f1 l1 kk
      have e1 : I1 154 0 = nI (B.wd a1 a2).v.n := l1.1.1.1
      have kk := kk I1 L1 f1
      refine v_Search_beginnings_6 ⟨fun _ => ⟨fun q => ?_, fun q => ?_⟩, fun q => absurd (by rw [e1, n_le (by omega) (by omega)]; omega) q⟩
      · rw [show bgF (bgP B a1 a2 d h) k (L12 i 0) m = -nI 2 from if_neg q] at kk
        exact kk
      · rw [show bgF (bgP B a1 a2 d h) k (L12 i 0) m = nI m from if_pos (Decidable.not_not.mp q)] at kk
        exact kk
    | succ n ih =>
      intro i e m y I1 L1 hy f1 l1 kk
      have e1 : I1 154 0 = nI (B.wd a1 a2).v.n := l1.1.1.1
      refine v_Search_beginnings_6 ⟨fun q => absurd q (by rw [e1, n_le (by omega) (by omega)]; omega), fun _ => v_Search_beginnings_21 ⟨fun q => absurd q (by rw [show (-1 : Int32) = nM from rfl, n_lem (by omega)]; exact id), fun _ => ⟨fun q => absurd rfl q, fun _ => ?_⟩⟩⟩
      rw [show (1 : Int32) <<< (nI i &&& 31) = nI (2 ^ i) from n_shl (by omega), show (-1 : Int32) + (1 : Int32) = nI 0 by decide]
      have eL : L12 i (n + 1) = 2 ^ i :: ((PLf 0 i).map (fun x => 2 ^ i + x) ++ L12 (i + 1) n) := rfl
      rw [eL] at kk
      exact one _ _ m y I1 L1 (fun v b_1 I_1 L_1 => SW m_Search_beginnings 21 [vr 15 181, vi (nI d), vi h, vi k, vi v, vi (nI i), vi (nI 0), un] [] b_1 I_1 L_1 (kI K)) hy f1 l1 kk (fun m' y I' L' q1 q2 q3 q4 => inner i (by omega) (L12 (i + 1) n) (fun m y I' L' p1 p2 p3 p4 => ih (i + 1) (by omega) m y I' L' p1 p2 p3 p4) i 0 (by omega) m' y I' L' q1 q2 q3 q4)
  exact v_Search_beginnings_0 (outer (B.wd a1 a2).v.n 0 (by omega) 0 wi0 I L (Or.inl rfl) (fun _ _ => rfl) l0 hK)
