/-! WAYS: the reference's numbers; apart, cut -/
def metP (s : Sp) (I : MI) : Prop := ∀ p, p < 16 → I 203 p = nI (s.1 p).toNat
def tkP (T : Nat → Bool) (I : MI) : Prop := ∀ k, k < 40 → I 202 k = nI (T k).toNat
def wfr (I I' : MI) : Prop := ∀ x, x ≠ 202 → x ≠ 203 → x ≠ 204 → I' x = I x
theorem wfr.trans {I I' I'' : MI} (h : wfr I I') (k : wfr I' I'') : wfr I I'' := fun x q1 q2 q3 => (k x q1 q2 q3).trans (h x q1 q2 q3)
theorem tst_met {v : Vil} {T : Nat → Bool} {s : Sp} {t : Nat} {I : MI} (h : trg v T s t = true) (k : metP s I) : metP (tst v T s t) (sI I 203 (bsd v T t) (nI 1)) := by
  rw [tst_t h]
  intro p hp
  show _ = nI (s.1 p || decide (p = bsd v T t)).toNat
  by_cases e : p = bsd v T t
  · rw [e, sI_at, decide_eq_true rfl, Bool.or_true]
    rfl
  · rw [sI_j e, decide_eq_false e, Bool.or_false]
    exact k p hp
theorem oc_apart : ∀ a1 a2 a3 : Int32, OpC m_S_apart [vi a1, vi a2, vi a3] (fun B => if twB B a1 a2 a3 = true then optI (apO (B.vl a1.toNatClampNeg) a2.toNatClampNeg a3.toNatClampNeg) else nM) := by
  intro a1 a2 a3
  intro B I b L K ok hc k
  dsimp only at k
  · refine v_S_apart_0 (c_areTwo ok hc (fun g => ?_) (fun g => ?_))
    · obtain ⟨g1, p, q, hp, hq, hne, rfl, rfl⟩ := tw_in ok g
      obtain ⟨v1, v2, v3, v4⟩ := c_vil ok hc g1
      have hn := v2.1.2
      obtain ⟨N, n1, n2, n3, n4⟩ := apO_some v2 hp (Ne.symm hne)
      rw [if_pos g, n_cl (by omega), n_cl (by omega), n1] at k
      exact ⟨fun _ => ⟨v1, c_mostApart v2 v3 v4 hp hq (Ne.symm hne) n2 n3 n4 (fun I' L' f _ _ => k b I' L' (fun a ha => f a (by omega)))⟩, fun z => absurd (by decide) z⟩
    · have kk := k b I L (fun _ _ => rfl)
      rw [if_neg (by rw [g]; exact Bool.false_ne_true)] at kk
      exact ⟨fun z => absurd rfl z, fun _ => kk⟩

/-- a number of bits -/
def lI (f : Nat → Bool) : Int64 := Int64.ofNat (bN 64 f)
theorem lI_bit (f : Nat → Bool) {k : Nat} (hk : k < 64) : bl (lI f) k = f k := by
  have : bl (lI f) k = (decide (k < 64) && (bN 64 f).testBit k) := BitVec.getLsbD_ofNat _ _ _
  rw [this, bN_bit, decide_eq_true hk, Bool.true_and, Bool.true_and]
theorem lI_of {y : Int64} {f : Nat → Bool} (h : ∀ k, k < 64 → bl y k = f k) : y = lI f := l_ext (fun k hk => by rw [h k hk, lI_bit f hk])
theorem oc_cut : ∀ a1 a2 a3 : Int32, OpL m_S_cut [vi a1, vi a2, vi a3] (fun B => if twB B a1 a2 a3 = true then lI (cuB (B.vl a1.toNatClampNeg) a2.toNatClampNeg a3.toNatClampNeg) else -1) := by
  intro a1 a2 a3
  intro B I b L K ok hc k
  dsimp only at k
  · refine v_S_cut_0 (c_areTwo ok hc (fun g => ?_) (fun g => ?_))
    · obtain ⟨g1, p, q, hp, hq, hne, rfl, rfl⟩ := tw_in ok g
      obtain ⟨v1, v2, v3, v4⟩ := c_vil ok hc g1
      have hn := v2.1.2
      obtain ⟨N, n1, n2, n3, n4⟩ := apO_some v2 hp (Ne.symm hne)
      rw [if_pos g, n_cl (by omega), n_cl (by omega)] at k
      refine ⟨fun _ => ⟨v1, c_cut v2 v3 v4 hp hq (Ne.symm hne) n1 n2 n3 n4 (fun y I' L' hy f => ?_)⟩, fun z => absurd (by decide) z⟩
      rw [lI_of hy]
      exact k b I' L' (fun a ha => f a (by omega))
    · have kk := k b I L (fun _ _ => rfl)
      rw [if_neg (by rw [g]; exact Bool.false_ne_true)] at kk
      exact ⟨fun z => absurd rfl z, fun _ => kk⟩
