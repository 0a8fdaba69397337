/-! THE LAW'S TEXTS: byte by byte behind the tape -/
/-- all that is told, with so many bytes of l on the tape -/
def BkT (B : Bk) (m : Nat) (l : List Nat) : Bk := mkB B.nv B.nt m B.fl B.fa (fun j => l.getD j 0) B.vl B.tl
/-- bytes l have come: twenty by twenty they are on the tape, the rest lies in q -/
def LQ (l : List Nat) (B : Bk) (I : MI) : Prop := (I 186 5 = nI (l.length % 20) ∧ I 186 6 = nI l.length) ∧ (∀ j, j < l.length % 20 → byN (I 186 (j / 4) >>> (nI (8 * ((if 4 * (j / 4) + 4 ≤ l.length % 20 then 4 * (j / 4) + 4 else l.length % 20) - 1 - j)) &&& nI 31)) = l.getD (l.length - l.length % 20 + j) 0) ∧ bkC 1 (BkT B (l.length - l.length % 20) l) I
theorem c256 {c i : Nat} (hc : c < 256) (h : 8 ≤ i) : c.testBit i = false := Nat.testBit_lt_two_pow (Nat.lt_of_lt_of_le (show c < 2 ^ 8 from hc) (Nat.pow_le_pow_right (by decide) h))
theorem byN_sh {x : Int32} {c k : Nat} (hc : c < 256) (hk : k < 3) : byN (((x <<< (nI 8 &&& nI 31)) ||| nI c) >>> (nI (8 * (k + 1)) &&& nI 31)) = byN (x >>> (nI (8 * k) &&& nI 31)) := by
  unfold byN
  congr 1
  refine b_ext (fun i hi => ?_)
  rw [b_and, b_and]
  by_cases h8 : i < 8
  · congr 1
    rw [b_sshr _ (by omega) _ hi, b_sshr _ (by omega) _ hi, if_pos (by omega), if_pos (by omega), b_or, b_shl _ (by omega) _ (by omega), bt_nI (by omega), decide_eq_true (by omega), Bool.true_and, c256 (c := c) (i := 8 * (k + 1) + i) hc (by omega), Bool.or_false]
    congr 1
    omega
  · rw [bt_nI hi, Nat.testBit_lt_two_pow (x := 255) (i := i) (Nat.lt_of_lt_of_le (by decide : 255 < 2 ^ 8) (Nat.pow_le_pow_right (by decide) (by omega))), Bool.and_false, Bool.and_false]
theorem byN_in {x : Int32} {c : Nat} (hc : c < 256) : byN (((x <<< (nI 8 &&& nI 31)) ||| nI c) >>> (nI 0 &&& nI 31)) = c := by
  have e : ((x <<< (nI 8 &&& nI 31)) ||| nI c) >>> (nI 0 &&& nI 31) &&& nI 255 = nI c := by
    refine b_ext (fun i hi => ?_)
    rw [b_and, b_sshr _ (by omega) _ hi, if_pos (by omega), Nat.zero_add, b_or, b_shl _ (by omega) _ hi, bt_nI hi, bt_nI hi]
    by_cases h8 : i < 8
    · rw [decide_eq_false (by omega), Bool.false_and, Bool.false_or]
      have : (255 : Nat).testBit i = true := by
        rcases (by omega : i = 0 ∨ i = 1 ∨ i = 2 ∨ i = 3 ∨ i = 4 ∨ i = 5 ∨ i = 6 ∨ i = 7) with rfl | rfl | rfl | rfl | rfl | rfl | rfl | rfl <;> rfl
      rw [this, Bool.and_true]
    · have h1 : c.testBit i = false := c256 hc (by omega)
      have h2 : (255 : Nat).testBit i = false := Nat.testBit_lt_two_pow (Nat.lt_of_lt_of_le (by decide : 255 < 2 ^ 8) (Nat.pow_le_pow_right (by decide) (by omega)))
      rw [h1, h2, Bool.and_false]
  unfold byN
  rw [e, n_cl (by omega)]
theorem getD_lo {l : List Nat} {x j : Nat} (h : j < l.length) : (l ++ [x]).getD j 0 = l.getD j 0 := by
  simp [List.getElem?_append_left h]
theorem getD_hi {l : List Nat} {x : Nat} : (l ++ [x]).getD l.length 0 = x := by simp
theorem bk_cong {B B' : Bk} {I : MI} (h1 : B'.nv = B.nv ∧ B'.nt = B.nt ∧ B'.ln = B.ln ∧ B'.fl = B.fl ∧ B'.fa = B.fa) (h2 : ∀ j, j < B.ln → B'.yt j = B.yt j) (h3 : B'.vl = B.vl) (h4 : B'.tl = B.tl) (k : bkC 1 B I) : bkC 1 B' I := by
  obtain ⟨k1, k2, k3, k4⟩ := k
  unfold bkC
  rw [h1.1, h1.2.1, h1.2.2.1, h1.2.2.2.1, h1.2.2.2.2, h3, h4]
  exact ⟨k1, fun j hj => by rw [h2 j hj]; exact k2 j hj, k3, k4⟩
/-- how much of it is on the tape -/
theorem bk_ln {B : Bk} {m n : Nat} {l l' : List Nat} {I I' : MI} (hok : B.ok) (k : bkC 1 (BkT B m l) I) (h0 : ∀ a, a ≠ 4 → a ≠ 5 → a ≠ 186 → I' a = I a) (h1 : I' 4 1 = nI n) (h2 : ∀ j, j < n → I' 5 j = nI (l'.getD j 0)) : bkC 1 (BkT B n l') I' := by
  obtain ⟨⟨c1, c2, c3, c4, c5⟩, k2, k3, k4⟩ := k
  have n2 := hok.1.1
  have n3 := hok.1.2.1
  refine ⟨⟨?_, ?_, ?_, ?_, h1⟩, h2, fun j hj => ?_, fun j hj => ?_⟩
  · rw [h0 1 (by omega) (by omega) (by omega)]; exact c1
  · rw [h0 1 (by omega) (by omega) (by omega)]; exact c2
  · rw [h0 1 (by omega) (by omega) (by omega)]; exact c3
  · rw [h0 1 (by omega) (by omega) (by omega)]; exact c4
  · have hj : j < B.nv := hj
    exact vilC_fr (fun a g1 g2 => h0 a (by omega) (by omega) (by omega)) (k3 j hj)
  · have hj : j < B.nt := hj
    exact telC_fr (fun a g1 g2 => h0 a (by omega) (by omega) (by omega)) (k4 j hj)
/-- what a text's bytes may change: the tape, q -/
def tqF (I I' : MI) : Prop := ∀ a, a ≠ 4 → a ≠ 5 → a ≠ 186 → I' a = I a
theorem tqF.trans {I J K : MI} (h : tqF I J) (g : tqF J K) : tqF I K := fun a h1 h2 h3 => (g a h1 h2 h3).trans (h a h1 h2 h3)
theorem c_Lput {l : List Nat} {x : Nat} {B : Bk} {b : Bool} {I : MI} {L : ML} {K : Bool → MI → ML → Prop} (hok : B.ok) (h : LQ l B I) (hl : l.length ≤ 570) (hx : x < 256) (hK : ∀ I', LQ (l ++ [x]) B I' → tqF I I' → K b I' L) : CV m_L_put [vr 21 0, vr 164 186, vi (nI x)] b I L K := by
  obtain ⟨⟨q5, q6⟩, hp, hb⟩ := h
  obtain ⟨r, hr⟩ : ∃ r, r = l.length % 20 := ⟨_, rfl⟩
  rw [← hr] at q5 hp hb
  have r20 : r < 20 := by omega
  have r4 : r / 4 < 5 := by omega
  -- the row that takes the byte, behind it
  have len : (l ++ [x]).length = l.length + 1 := by simp
  obtain ⟨w, hw⟩ : ∃ w, w = (I 186 (r / 4) <<< (nI 8 &&& nI 31)) ||| nI x := ⟨_, rfl⟩
  -- bytes of the rows behind it
  have pend : ∀ j, j < r + 1 → byN ((sI I 186 (r / 4) w) 186 (j / 4) >>> (nI (8 * ((if 4 * (j / 4) + 4 ≤ r + 1 then 4 * (j / 4) + 4 else r + 1) - 1 - j)) &&& nI 31)) = (l ++ [x]).getD (l.length - r + j) 0 := by
    intro j hj
    by_cases e : j / 4 = r / 4
    · rw [e, sI_at]
      have e2 : (if 4 * (r / 4) + 4 ≤ r + 1 then 4 * (r / 4) + 4 else r + 1) - 1 - j = r - j := by
        split <;> omega
      rw [e2]
      by_cases e3 : j = r
      · subst e3
        rw [Nat.sub_self, hw, byN_in hx, show l.length - j + j = l.length by omega, getD_hi]
      · have := hp j (by omega)
        rw [e, show (if 4 * (r / 4) + 4 ≤ r then 4 * (r / 4) + 4 else r) - 1 - j = r - 1 - j by split <;> omega] at this
        rw [show r - j = (r - 1 - j) + 1 by omega, hw, byN_sh hx (by omega), this, getD_lo (by omega)]
    · have := hp j (by omega)
      rw [sI_j e, show (if 4 * (j / 4) + 4 ≤ r + 1 then 4 * (j / 4) + 4 else r + 1) - 1 - j = (if 4 * (j / 4) + 4 ≤ r then 4 * (j / 4) + 4 else r) - 1 - j by split <;> split <;> omega, this, getD_lo (by omega)]
  have d4 : nI r / nI 4 = nI (r / 4) := n_div (by omega) (by omega) (by omega)
  have n5 : 5 ≠ r / 4 := by omega
  have n6 : 6 ≠ r / 4 := by omega
  have t1 : I 4 1 = nI (l.length - r) := hb.1.2.2.2.2
  have t2 : ∀ j, j < l.length - r → I 5 j = nI (l.getD j 0) := fun j hj => hb.2.1 j hj
  obtain ⟨I3, hI3⟩ : ∃ I3, I3 = sI (sI (sI I 186 (r / 4) w) 186 5 (nI (r + 1))) 186 6 (nI (l.length + 1)) := ⟨_, rfl⟩
  have a5 : I3 186 5 = nI (r + 1) := by rw [hI3, sI_j (by omega), sI_at]
  have a6 : I3 186 6 = nI (l.length + 1) := by rw [hI3, sI_at]
  have aj : ∀ j, j < 5 → I3 186 j = (sI I 186 (r / 4) w) 186 j := fun j hj => by rw [hI3, sI_j (by omega), sI_j (by omega)]
  have ao : ∀ a, a ≠ 186 → I3 a = I a := fun a ha => by rw [hI3, sI_c ha, sI_c ha, sI_c ha]
  refine v_L_put_0 ?_
  by_cases c : r + 1 = 20
  · simp (disch := first | omega | assumption) only [n_lit, n_gLt, n_gLe, n_gEq, n_gEq2, n_gLe2, n_gLt2, n_m1, n_add, n_mul, n_lt, n_le, n_eq, n_cl, n_in, n_rem, n_mlt, n_mle, n_ltm, n_lem, n_eqm, n_meq, n_bit, n_shl, n_b0, n_b1, n_sub, n_inT, nT, nF, lT, lF, eT, eF, not_false_eq_true, not_true_eq_false, sI_at, sI_c, sI_j, aI_at, aI_c, sL_at, sL_c, sL_j, true_and, and_true, not_true_eq_false, not_false_eq_true, forall_const, true_implies, false_implies, implies_true, if_true, if_false, ite_true, ite_false, Bool.not_eq_true, Bool.not_eq_false, Bool.true_eq_false, Bool.false_eq_true, false_and, and_false, or_true, true_or, false_or, or_false, q5, q6, d4, ← hw, ← hI3]
    refine s_feed (n := l.length - r) (by rw [ao 4 (by decide)]; exact t1) (by omega) (fun I' f1 f2 f3 f4 f5 => ?_)
    rw [if_pos (by omega)] at f3
    have f5 := f5 (by omega)
    refine hK _ ⟨⟨?_, ?_⟩, fun j hj => ?_, ?_⟩ (fun a g1 g2 g3 => by rw [sI_c g3, f1 a g1 g2, ao a g3])
    · rw [len, show (l.length + 1) % 20 = 0 by omega, sI_at]
    · rw [len, sI_j (by decide), f1 186 (by decide) (by decide), a6]
    · exfalso
      rw [len] at hj
      omega
    · rw [len, show l.length + 1 - (l.length + 1) % 20 = l.length + 1 by omega]
      refine bk_ln hok hb (fun a g1 g2 g3 => by rw [sI_c g3, f1 a g1 g2, ao a g3]) ?_ (fun j hj => ?_)
      · rw [sI_c (by decide), f3]
        congr 1
        omega
      · rw [sI_c (by decide)]
        by_cases z : j < l.length - r
        · rw [f4 j z, ao 5 (by decide), t2 j z, getD_lo (by omega)]
        · rw [f5 j (by omega) (by omega)]
          congr 1
          have hp := pend (j - (l.length - r)) (by omega)
          obtain ⟨i, hi⟩ : ∃ i, i = j - (l.length - r) := ⟨_, rfl⟩
          rw [← hi] at hp ⊢
          rw [if_pos (by omega), show l.length - r + i = j by omega] at hp
          rw [← hp]
          unfold fdB fdW
          rw [show 8 * (4 * (i / 4) + 4 - 1 - i) = 24 - 8 * (i % 4) by omega]
          congr 2
          by_cases z0 : i < 4
          · rw [if_pos z0, show i / 4 = 0 by omega, sI_j (by omega)]
          · rw [if_neg z0]
            by_cases z1 : i < 8
            · rw [if_pos z1, show i / 4 = 1 by omega, sI_j (by omega)]
            · rw [if_neg z1]
              by_cases z2 : i < 12
              · rw [if_pos z2, show i / 4 = 2 by omega, sI_j (by omega)]
              · rw [if_neg z2]
                by_cases z3 : i < 16
                · rw [if_pos z3, show i / 4 = 3 by omega, sI_j (by omega)]
                · rw [if_neg z3, show i / 4 = 4 by omega]
  · simp (disch := first | omega | assumption) only [n_lit, n_gLt, n_gLe, n_gEq, n_gEq2, n_gLe2, n_gLt2, n_m1, n_add, n_mul, n_lt, n_le, n_eq, n_cl, n_in, n_rem, n_mlt, n_mle, n_ltm, n_lem, n_eqm, n_meq, n_bit, n_shl, n_b0, n_b1, n_sub, n_inT, nT, nF, lT, lF, eT, eF, not_false_eq_true, not_true_eq_false, sI_at, sI_c, sI_j, aI_at, aI_c, sL_at, sL_c, sL_j, true_and, and_true, not_true_eq_false, not_false_eq_true, forall_const, true_implies, false_implies, implies_true, if_true, if_false, ite_true, ite_false, Bool.not_eq_true, Bool.not_eq_false, Bool.true_eq_false, Bool.false_eq_true, false_and, and_false, or_true, true_or, false_or, or_false, q5, q6, d4, ← hw, ← hI3]
    refine hK _ ⟨⟨?_, ?_⟩, fun j hj => ?_, ?_⟩ (fun a g1 g2 g3 => ao a g3)
    · rw [len, show (l.length + 1) % 20 = r + 1 by omega, a5]
    · rw [len, a6]
    · rw [len] at hj ⊢
      rw [show (l.length + 1) % 20 = r + 1 by omega] at hj ⊢
      rw [aj (j / 4) (by omega), pend j hj]
      congr 1
      omega
    · rw [len, show (l.length + 1) % 20 = r + 1 by omega, show l.length + 1 - (r + 1) = l.length - r by omega]
      exact bk_ln hok hb (fun a g1 g2 g3 => ao a g3) (by rw [ao 4 (by decide)]; exact t1) (fun j hj => by rw [ao 5 (by decide), t2 j hj, getD_lo (by omega)])
/-- bytes of a word, the highest first -/
def wbs (w : Int64) : Nat → List Nat
  | 0 => []
  | k + 1 => if lg_cmp (w >>> (Int32.toInt64 (nI (8 * k)) &&& 63)) 0 = 0 then wbs w k else byN (Int64.toInt32 (w >>> (Int32.toInt64 (nI (8 * k)) &&& 63))) :: wbs w k
theorem wbs_len (w : Int64) : ∀ k, (wbs w k).length ≤ k
  | 0 => Nat.le_refl _
  | k + 1 => by
    have := wbs_len w k
    unfold wbs
    split
    · omega
    · show (wbs w k).length + 1 ≤ k + 1
      omega
theorem c_Lword {w : Int64} {B : Bk} {b : Bool} {L : ML} {K : Bool → MI → ML → Prop} (hok : B.ok) : ∀ (k : Nat) (l : List Nat) (I : MI), k ≤ 8 → LQ l B I → l.length + k ≤ 570 → (∀ I', LQ (l ++ wbs w k) B I' → tqF I I' → K b I' L) → SW m_L_word 4 [vr 21 0, vr 164 186, vl w, un, vi (if k = 0 then -8 else nI (8 * (k - 1)))] [] b I L (kV K) := by
  intro k
  induction k with
  | zero =>
    intro l I _ h _ hK
    refine v_L_word_4 ⟨fun _ => ?_, fun q => absurd (by decide) q⟩
    have := hK I (by unfold wbs; rw [List.append_nil]; exact h) (fun _ _ _ _ => rfl)
    exact this
  | succ k ih =>
    intro l I hk h hl hK
    have nx : (if k + 1 = 0 then (-8 : Int32) else nI (8 * (k + 1 - 1))) + (-8 : Int32) = (if k = 0 then (-8 : Int32) else nI (8 * (k - 1))) := by
      rcases (by omega : k = 0 ∨ k = 1 ∨ k = 2 ∨ k = 3 ∨ k = 4 ∨ k = 5 ∨ k = 6 ∨ k = 7) with rfl | rfl | rfl | rfl | rfl | rfl | rfl | rfl <;> rfl
    have e : (if k + 1 = 0 then (-8 : Int32) else nI (8 * (k + 1 - 1))) = nI (8 * k) := by
      rw [if_neg (by omega), Nat.add_sub_cancel]
    refine v_L_word_4 ⟨fun q => ?_, fun _ => ⟨fun q => ?_, fun q => ?_⟩⟩
    · exfalso
      rw [e] at q
      exact absurd q (by rw [show (0 : Int32) = nI 0 from rfl, n_lt (by omega) (by omega)]; omega)
    · rw [nx]
      rw [e] at q
      refine ih l I (by omega) h (by omega) (fun I' g1 g2 => hK I' ?_ g2)
      unfold wbs
      rw [if_pos q]
      exact g1
    · rw [nx]
      rw [e] at q ⊢
      have eb : Int64.toInt32 (w >>> (Int32.toInt64 (nI (8 * k)) &&& 63)) &&& (255 : Int32) = nI (byN (Int64.toInt32 (w >>> (Int32.toInt64 (nI (8 * k)) &&& 63)))) := byN_eq _
      rw [eb]
      refine c_Lput hok h (by omega) (byN_lt _) (fun I1 h1 f1 => ?_)
      refine ih _ I1 (by omega) h1 (by rw [List.length_append]; show l.length + 1 + k ≤ 570; omega) (fun I' g1 g2 => hK I' ?_ (f1.trans g2))
      unfold wbs
      rw [if_neg q]
      rw [List.append_assoc] at g1
      exact g1
theorem c_Lwd {w : Int64} {l : List Nat} {B : Bk} {b : Bool} {I : MI} {L : ML} {K : Bool → MI → ML → Prop} (hok : B.ok) (h : LQ l B I) (hl : l.length ≤ 560) (hK : ∀ I', LQ (l ++ wbs w 8) B I' → tqF I I' → K b I' L) : CV m_L_word [vr 21 0, vr 164 186, vl w] b I L K := v_L_word_0 (c_Lword hok 8 l I (Nat.le_refl _) h (by omega) hK)
theorem w_kd : ∀ k, k < 6 → wbs (knd k) 8 = nmW (k + 1) := by decide +kernel
theorem w_pe : wbs 123580963646565 8 = nmW 0 := by decide +kernel
theorem w_db : wbs 431366693492 8 = nmW 7 := by decide +kernel
theorem w_ti : wbs 7629157 8 = nmW 8 := by decide +kernel
theorem w_sl : wbs 1936486263 8 = nmW 9 := by decide +kernel
theorem w_tr : wbs 65371171349875 8 = 59 :: nmW 10 := by decide +kernel
theorem w_wd : wbs 2003792484 8 = nmW 11 := by decide +kernel
theorem w_dn : wbs 1684369017 8 = nmW 12 := by decide +kernel
theorem w_wl : wbs 2002873452 8 = nmW 13 := by decide +kernel
/-- a number's digits come, and a blank -/
theorem num_1 : ∀ v, v < 10 → (0 ≤ lg_cmp (Int32.toInt64 (nI v)) (0 : Int64)) ∧ lg_cmp (Int32.toInt64 (nI v) / 1) (9 : Int64) ≤ 0 ∧ Int64.toInt32 ((48 : Int64) + ((Int32.toInt64 (nI v) / 1) - (Int32.toInt64 (nI v) / 1) / (10 : Int64) * (10 : Int64))) = nI (48 + v) := by decide +kernel
theorem num_2 : ∀ v, v < 100 → ¬ v < 10 → (0 ≤ lg_cmp (Int32.toInt64 (nI v)) (0 : Int64)) ∧ ¬ lg_cmp (Int32.toInt64 (nI v) / 1) (9 : Int64) ≤ 0 ∧ lg_cmp (Int32.toInt64 (nI v) / (1 * 10)) (9 : Int64) ≤ 0 ∧ Int64.toInt32 ((48 : Int64) + ((Int32.toInt64 (nI v) / (1 * 10)) - (Int32.toInt64 (nI v) / (1 * 10)) / (10 : Int64) * (10 : Int64))) = nI (48 + v / 10) ∧ Int64.toInt32 ((48 : Int64) + ((Int32.toInt64 (nI v) / (1 * 10 / 10)) - (Int32.toInt64 (nI v) / (1 * 10 / 10)) / (10 : Int64) * (10 : Int64))) = nI (48 + v % 10) := by decide +kernel
theorem c_Lnum {v : Nat} {l : List Nat} {B : Bk} {b : Bool} {I : MI} {L : ML} {K : Bool → MI → ML → Prop} (hok : B.ok) (h : LQ l B I) (hl : l.length ≤ 560) (hv : v < 100) (hK : ∀ I', LQ (l ++ (dgs v ++ [32])) B I' → tqF I I' → K b I' L) : CV m_L_number [vr 21 0, vr 164 186, vi (nI v)] b I L K := by
  refine v_L_number_0 ?_
  by_cases c : v < 10
  · obtain ⟨h1, h2, h3⟩ := num_1 v c
    refine ⟨fun _ => ?_, fun q => absurd h1 q⟩
    refine v_L_number_22 ⟨by decide, fun _ => ?_, fun q => absurd h2 q⟩
    refine v_L_number_44 ⟨fun q => absurd q (by decide), fun _ => ⟨by decide, by decide, ?_⟩⟩
    rw [h3]
    refine c_Lput hok h (by omega) (by omega) (fun I1 g1 f1 => ⟨by decide, ?_⟩)
    refine v_L_number_44 ⟨fun _ => ?_, fun q => absurd (by decide) q⟩
    refine c_Lput (x := 32) hok g1 (by rw [List.length_append]; show l.length + 1 ≤ 570; omega) (by decide) (fun I2 g2 f2 => hK I2 ?_ (f1.trans f2))
    rw [List.append_assoc] at g2
    rw [show dgs v = [48 + v] from if_pos c]
    exact g2
  · obtain ⟨h1, h2, h3, h4, h5⟩ := num_2 v hv c
    refine ⟨fun _ => ?_, fun q => absurd h1 q⟩
    refine v_L_number_22 ⟨by decide, fun q => absurd q h2, fun _ => ?_⟩
    refine v_L_number_22 ⟨by decide, fun _ => ?_, fun q => absurd h3 q⟩
    refine v_L_number_44 ⟨fun q => absurd q (by decide), fun _ => ⟨by decide, by decide, ?_⟩⟩
    rw [h4]
    refine c_Lput hok h (by omega) (by omega) (fun I1 g1 f1 => ⟨by decide, ?_⟩)
    refine v_L_number_44 ⟨fun q => absurd q (by decide), fun _ => ⟨by decide, by decide, ?_⟩⟩
    rw [h5]
    refine c_Lput hok g1 (by rw [List.length_append]; show l.length + 1 ≤ 570; omega) (by omega) (fun I2 g2 f2 => ⟨by decide, ?_⟩)
    refine v_L_number_44 ⟨fun _ => ?_, fun q => absurd (by decide) q⟩
    refine c_Lput (x := 32) hok g2 (by rw [List.length_append, List.length_append]; show l.length + 1 + 1 ≤ 570; omega) (by decide) (fun I3 g3 f3 => hK I3 ?_ (f1.trans (f2.trans f3)))
    rw [List.append_assoc, List.append_assoc] at g3
    rw [show dgs v = [48 + v / 10, 48 + v % 10] from if_neg c]
    exact g3
theorem c_Lmore {v : Nat} {l : List Nat} {B : Bk} {b : Bool} {I : MI} {L : ML} {K : Bool → MI → ML → Prop} (hok : B.ok) (h : LQ l B I) (hl : l.length ≤ 550) (hv : v < 100) (hK : ∀ I', LQ (l ++ (32 :: (dgs v ++ [32]))) B I' → tqF I I' → K b I' L) : CV m_L_more [vr 21 0, vr 164 186, vi (nI v)] b I L K := by
  refine v_L_more_0 (c_Lput (x := 32) hok h (by omega) (by decide) (fun I1 g1 f1 => ?_))
  refine c_Lnum hok g1 (by rw [List.length_append]; show l.length + 1 ≤ 560; omega) hv (fun I2 g2 f2 => hK I2 ?_ (f1.trans f2))
  rw [List.append_assoc] at g2
  exact g2
/-- the tape has the text alone: its length is answered -/
def BkE (B : Bk) (n : Nat) (y : Nat → Nat) : Bk := mkB B.nv B.nt n B.fl B.fa y B.vl B.tl
theorem c_Send {B : Bk} {m n : Nat} {l : List Nat} {b : Bool} {I : MI} {L : ML} {K : Int32 → Bool → MI → ML → Prop} (hok : B.ok) (h : bkC 1 (BkT B m l) I) (hn : n ≤ m) (hm : m ≤ 600) (hK : ∀ I', bkC 1 (BkT B n l) I' → tqF I I' → (∀ a, a ≠ 4 → I' a = I a) → K (nI n) b I' L) : CI m_S_end [vr 21 0, vi (nI n)] b I L K := by
  have c5 : I 4 1 = nI m := h.1.2.2.2.2
  have y5 : ∀ j, j < m → I 5 j = nI (l.getD j 0) := fun j hj => h.2.1 j hj
  have kk := hK (sI I 4 1 (nI n)) (bk_ln hok h (fun a g1 g2 g3 => sI_c g1) (sI_at _ _ _ _) (fun j hj => by rw [sI_c (by decide)]; exact y5 j (by omega))) (fun a g1 g2 g3 => sI_c g1) (fun a g1 => sI_c g1)
  refine v_S_end_0 ?_
  simp (disch := first | omega | assumption) only [n_lit, n_gLt, n_gLe, n_gEq, n_gEq2, n_gLe2, n_gLt2, n_m1, n_add, n_mul, n_lt, n_le, n_eq, n_cl, n_in, n_rem, n_mlt, n_mle, n_ltm, n_lem, n_eqm, n_meq, n_bit, n_shl, n_b0, n_b1, n_sub, n_inT, nT, nF, lT, lF, eT, eF, not_false_eq_true, not_true_eq_false, sI_at, sI_c, sI_j, aI_at, aI_c, sL_at, sL_c, sL_j, true_and, and_true, not_true_eq_false, not_false_eq_true, forall_const, true_implies, false_implies, implies_true, if_true, if_false, ite_true, ite_false, Bool.not_eq_true, Bool.not_eq_false, Bool.true_eq_false, Bool.false_eq_true, false_and, and_false, or_true, true_or, false_or, or_false, c5]
  exact kk
theorem c_Lends {B : Bk} {b : Bool} {L : ML} {K : Int32 → Bool → MI → ML → Prop} (hok : B.ok) {l : List Nat} (hl : l.length ≤ 545) (I0 : MI) (hK : ∀ z I', bkC 1 (BkT B l.length (l ++ z)) I' → I' 186 5 = nI 0 → I' 186 6 = nI 0 → tqF I0 I' → K (nI 1) b I' L) : ∀ (k : Nat) (z : List Nat) (I : MI), LQ (l ++ z) B I → tqF I0 I → ((l ++ z).length + k) % 20 = 0 → (l ++ z).length + k ≤ l.length + 19 → SW m_L_ends 5 [vr 21 0, vr 164 186, vi (nI l.length)] [] b I L (kI K) := by
  intro k
  induction k with
  | zero =>
    intro z I h f0 hk hk2
    obtain ⟨⟨q5, q6⟩, hp, hb⟩ := h
    rw [show (l ++ z).length % 20 = 0 by omega] at q5 hb
    have lz : (l ++ z).length = l.length + z.length := List.length_append
    refine v_L_ends_5 ?_
    have hb1 : bkC 1 (BkT B ((l ++ z).length - 0) (l ++ z)) (sI I 186 6 (nI 0)) := bk_ln hok hb (fun a g1 g2 g3 => sI_c g3) (by rw [sI_c (by decide)]; exact hb.1.2.2.2.2) (fun j hj => by rw [sI_c (by decide)]; exact hb.2.1 j hj)
    have kk : CI m_S_end [vr 21 0, vi (nI l.length)] b (sI I 186 6 (nI 0)) L (fun v_1 b_1 I_1 L_1 => ((¬ v_1 = nI l.length → K (nI 0) b_1 I_1 L_1) ∧ (¬ (¬ v_1 = nI l.length) → K (nI 1) b_1 I_1 L_1))) := by
      refine c_Send (n := l.length) hok hb1 (by omega) (by omega) (fun I' g1 g2 g3 => ⟨fun q => absurd rfl q, fun _ => hK z I' g1 ?_ ?_ (fun a h1 h2 h3 => by rw [g3 a h1, sI_c h3]; exact f0 a h1 h2 h3)⟩)
      · rw [g3 186 (by decide), sI_j (by decide)]
        exact q5
      · rw [g3 186 (by decide), sI_at]
    simp (disch := first | omega | assumption) only [n_lit, n_gLt, n_gLe, n_gEq, n_gEq2, n_gLe2, n_gLt2, n_m1, n_add, n_mul, n_lt, n_le, n_eq, n_cl, n_in, n_rem, n_mlt, n_mle, n_ltm, n_lem, n_eqm, n_meq, n_bit, n_shl, n_b0, n_b1, n_sub, n_inT, nT, nF, lT, lF, eT, eF, not_false_eq_true, not_true_eq_false, sI_at, sI_c, sI_j, aI_at, aI_c, sL_at, sL_c, sL_j, true_and, and_true, not_true_eq_false, not_false_eq_true, forall_const, true_implies, false_implies, implies_true, if_true, if_false, ite_true, ite_false, Bool.not_eq_true, Bool.not_eq_false, Bool.true_eq_false, Bool.false_eq_true, false_and, and_false, or_true, true_or, false_or, or_false, q5]
    exact kk
  | succ k ih =>
    intro z I h f0 hk hk2
    obtain ⟨⟨q5, q6⟩, hp, hb⟩ := id h
    refine v_L_ends_5 ?_
    have lz : (l ++ z).length = l.length + z.length := List.length_append
    have kk : CV m_L_put [vr 21 0, vr 164 186, vi (nI 0)] b I L (fun b_2 I_2 L_2 => SW m_L_ends 5 [vr 21 0, vr 164 186, vi (nI l.length)] [] b_2 I_2 L_2 (kI K)) := by
      refine c_Lput hok h (by omega) (by decide) (fun I1 g1 f1 => ?_)
      rw [List.append_assoc] at g1
      refine ih (z ++ [0]) I1 g1 (f0.trans f1) ?_ ?_
      · rw [← List.append_assoc, List.length_append]
        show ((l ++ z).length + 1 + k) % 20 = 0
        omega
      · rw [← List.append_assoc, List.length_append]
        show (l ++ z).length + 1 + k ≤ _
        omega
    have ne : ¬ (l ++ z).length % 20 = 0 := by omega
    simp (disch := first | omega | assumption) only [n_lit, n_gLt, n_gLe, n_gEq, n_gEq2, n_gLe2, n_gLt2, n_m1, n_add, n_mul, n_lt, n_le, n_eq, n_cl, n_in, n_rem, n_mlt, n_mle, n_ltm, n_lem, n_eqm, n_meq, n_bit, n_shl, n_b0, n_b1, n_sub, n_inT, nT, nF, lT, lF, eT, eF, not_false_eq_true, not_true_eq_false, sI_at, sI_c, sI_j, aI_at, aI_c, sL_at, sL_c, sL_j, true_and, and_true, not_true_eq_false, not_false_eq_true, forall_const, true_implies, false_implies, implies_true, if_true, if_false, ite_true, ite_false, Bool.not_eq_true, Bool.not_eq_false, Bool.true_eq_false, Bool.false_eq_true, false_and, and_false, or_true, true_or, false_or, or_false, q5]
    exact kk
theorem c_ends {B : Bk} {b : Bool} {I : MI} {L : ML} {K : Int32 → Bool → MI → ML → Prop} (hok : B.ok) {l : List Nat} (hl : l.length ≤ 545) (h : LQ l B I) (hK : ∀ z I', bkC 1 (BkT B l.length (l ++ z)) I' → I' 186 5 = nI 0 → I' 186 6 = nI 0 → tqF I I' → K (nI 1) b I' L) : CI m_L_ends [vr 21 0, vr 164 186] b I L K := by
  have q6 : I 186 6 = nI l.length := h.1.2
  refine v_L_ends_0 ?_
  have kk : SW m_L_ends 5 [vr 21 0, vr 164 186, vi (nI l.length)] [] b I L (kI K) := by
    by_cases c : l.length % 20 = 0
    · exact c_Lends hok hl I hK 0 [] I (by rw [List.append_nil]; exact h) (fun _ _ _ _ => rfl) (by rw [List.append_nil]; omega) (by rw [List.append_nil]; omega)
    · exact c_Lends hok hl I hK (20 - l.length % 20) [] I (by rw [List.append_nil]; exact h) (fun _ _ _ _ => rfl) (by rw [List.append_nil]; omega) (by rw [List.append_nil]; omega)
  simp (disch := first | omega | assumption) only [n_lit, n_gLt, n_gLe, n_gEq, n_gEq2, n_gLe2, n_gLt2, n_m1, n_add, n_mul, n_lt, n_le, n_eq, n_cl, n_in, n_rem, n_mlt, n_mle, n_ltm, n_lem, n_eqm, n_meq, n_bit, n_shl, n_b0, n_b1, n_sub, n_inT, nT, nF, lT, lF, eT, eF, not_false_eq_true, not_true_eq_false, sI_at, sI_c, sI_j, aI_at, aI_c, sL_at, sL_c, sL_j, true_and, and_true, not_true_eq_false, not_false_eq_true, forall_const, true_implies, false_implies, implies_true, if_true, if_false, ite_true, ite_false, Bool.not_eq_true, Bool.not_eq_false, Bool.true_eq_false, Bool.false_eq_true, false_and, and_false, or_true, true_or, false_or, or_false, q6]
  exact kk
