/-! WHAT-IFS: barred ties, the class -/
def baX (f : Nat → Bool) (bf : Nat) : Wi := mkX false (fun _ => false) (fun _ => false) 0 0 (fun _ => false) (fun _ => false) f bf
theorem baX_ok {f : Nat → Bool} {bf : Nat} (h : bf ≤ 200) : (baX f bf).ok := ⟨Nat.zero_le _, h, Nat.zero_le _⟩
theorem lif_ba {B : Bk} {a1 a2 : Int32} {f g : Nat → Bool} {b0 bf : Nat} {I : MI} {L : ML} {m : Int64} (hm : ∀ p, p < 64 → bl m p = g p) (h : lif B a1 a2 (baX f b0) I L) : lif B a1 a2 (baX g bf) (sI I 161 14 (nI bf)) (sL L 161 13 m) := by
  obtain ⟨g1, g2, g3⟩ := h
  refine ⟨vilC_fr (fun a q1 q2 => sI_c (by omega)) g1, givP_fr (fun j hj => sI_j (by omega)) (sI_c (by omega)) (sI_c (by omega)) (sL_c (by omega)) g2, ?_⟩
  unfold wiP at g3 ⊢
  obtain ⟨z1, z2, z3, z4, z5, z6, z7, z8⟩ := g3
  refine ⟨?_, ?_, ?_, fun q => ?_, ?_, ?_, ?_, fun _ => sI_at _ _ _ _⟩
  · rw [sI_j (by omega)]
    exact z1
  · rw [sI_j (by omega)]
    exact z2
  · rw [sI_j (by omega)]
    exact z3
  · rw [sI_j (by omega), sI_j (by omega)]
    exact z4 q
  · rw [sI_j (by omega)]
    exact z5
  · rw [sL_j (by omega)]
    exact z6
  · rw [sL_at]
    exact hm
theorem ba_stt {B : Bk} {a1 a2 : Int32} {g : Nat → Bool} {bf : Nat} : ∀ d, d < bf → stt (B.wx a1 a2 (baX g bf)) d = stt (B.wd a1 a2) d ∧ ∀ k, (B.wx a1 a2 (baX g bf)).op d k = (B.wd a1 a2).op d k := by
  have ho : ∀ d, d < bf → ∀ k, (B.wx a1 a2 (baX g bf)).op d k = (B.wd a1 a2).op d k := fun d hd k => by
    show opW _ _ (baX g bf) d k = opW _ _ wi0 d k
    unfold opW
    show (!(false || _ || (g k && decide (bf ≤ d)))) = !(false || _ || (false && decide (0 ≤ d)))
    have e : decide (bf ≤ d) = false := decide_eq_false (by omega)
    rw [e, Bool.and_false, Bool.false_and]
  intro d hd
  exact ⟨stt_agree (w := B.wd a1 a2) (w' := B.wx a1 a2 (baX g bf)) rfl rfl (D := bf) (fun d hd s p => rfl) ho d hd, ho d hd⟩
theorem ba_rows {B : Bk} {a1 a2 : Int32} {g : Nat → Bool} {bf e : Nat} {I : MI} {L : ML} (he : e < bf) : rowC (B.wx a1 a2 (baX g bf)) e I L ↔ rowC (B.wd a1 a2) e I L := ⟨fun h => rowC_agree (w := B.wx a1 a2 (baX g bf)) rfl (ba_stt e he).1.symm (fun k => ((ba_stt e he).2 k).symm) h, fun h => rowC_agree (w := B.wd a1 a2) (w' := B.wx a1 a2 (baX g bf)) rfl (ba_stt e he).1 (ba_stt e he).2 h⟩
def baP (B : Bk) (a1 a2 : Int32) (day x : Nat) : Bool := cleanB (B.wx a1 a2 (baX x.testBit day))
theorem any_bits64 {x : Nat} (h1 : x < 2 ^ 64) (h0 : x ≠ 0) : anyN 64 x.testBit = true := by
  cases h : anyN 64 x.testBit with
  | true => rfl
  | false =>
    have h := anyN_no.mp h
    refine absurd ?_ h0
    rw [← bN_self h1, bN_cong (g := fun _ => false) h]
    decide +kernel
def qBa (o : Option Nat) : Int64 := match o with
  | none => -1
  | some x => gN x
theorem shl_gN {m : Nat} (hm : m < 63) : (1 : Int64) <<< ((nI m).toInt64 &&& 63) = gN (2 ^ m) := l_ext (fun i hi => by
  rw [l_one (by omega) hi, bl_gN, decide_eq_true hi, Bool.true_and, Nat.testBit_two_pow]
  exact decide_eq_decide.mpr ⟨fun q => q.symm, fun q => q.symm⟩)
