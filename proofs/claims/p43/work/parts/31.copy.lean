/-! COPIES: image, again -/
theorem cpy0 {α : Type} {f g : Nat → α} {n p : Nat} (h : p < n) : va_cpy f g 0 0 n p = f p := by
  unfold va_cpy
  rw [if_pos ⟨Nat.zero_le _, by omega⟩, Nat.zero_add, Nat.sub_zero]
theorem tn0 : ((0 : Int32)).toNatClampNeg = 0 := rfl
theorem tn16 : ((16 : Int32)).toNatClampNeg = 16 := rfl
theorem tn41 : ((41 : Int32)).toNatClampNeg = 41 := rfl
theorem tn30 : ((30 : Int32)).toNatClampNeg = 30 := rfl
theorem tn600 : ((600 : Int32)).toNatClampNeg = 600 := rfl
def cpV (r0 r1 : Nat) (I' I : MI) : Prop := (I' r0 0 = I r1 0 ∧ I' r0 3 = I r1 3 ∧ I' r0 8 = I r1 8 ∧ I' r0 9 = I r1 9 ∧ I' r0 10 = I r1 10) ∧ (∀ p, p < 16 → I' (r0 + 1) p = I (r1 + 1) p ∧ I' (r0 + 2) p = I (r1 + 2) p) ∧ ∀ t, t < 41 → I' (r0 + 3) t = I (r1 + 3) t ∧ I' (r0 + 4) t = I (r1 + 4) t ∧ I' (r0 + 5) t = I (r1 + 5) t ∧ I' (r0 + 6) t = I (r1 + 6) t
def cpT (r0 r1 : Nat) (I' I : MI) : Prop := I' r0 0 = I r1 0 ∧ ∀ k, k < 30 → I' (r0 + 1) k = I (r1 + 1) k ∧ I' (r0 + 2) k = I (r1 + 2) k ∧ I' (r0 + 3) k = I (r1 + 3) k ∧ I' (r0 + 4) k = I (r1 + 4) k
theorem cpV_vil {r0 r1 : Nat} {I' I : MI} {v : Vil} (hm : v.m ≤ 41) (h : cpV r0 r1 I' I) (k : vilC r1 v I) : vilC r0 v I' := by
  obtain ⟨⟨h1, h2, h3, h4, h5⟩, h6, h7⟩ := h
  obtain ⟨⟨k1, k2, k3, k4, k5⟩, k6, k7⟩ := k
  refine ⟨⟨h1.trans k1, h2.trans k2, h3.trans k3, h4.trans k4, h5.trans k5⟩, fun p hp => ⟨(h6 p hp).1.trans (k6 p hp).1, (h6 p hp).2.trans (k6 p hp).2⟩, fun t ht => ?_⟩
  obtain ⟨q1, q2, q3, q4⟩ := h7 t (by omega)
  obtain ⟨p1, p2, p3, p4⟩ := k7 t ht
  exact ⟨q1.trans p1, q2.trans p2, q3.trans p3, q4.trans p4⟩
theorem cpT_tel {r0 r1 : Nat} {I' I : MI} {t : Tel} (hm : t.n ≤ 30) (h : cpT r0 r1 I' I) (k : telC r1 t I) : telC r0 t I' := by
  obtain ⟨h1, h7⟩ := h
  obtain ⟨k1, k7⟩ := k
  refine ⟨h1.trans k1, fun t ht => ?_⟩
  obtain ⟨q1, q2, q3, q4⟩ := h7 t (by omega)
  obtain ⟨p1, p2, p3, p4⟩ := k7 t ht
  exact ⟨q1.trans p1, q2.trans p2, q3.trans p3, q4.trans p4⟩
theorem c_Village_copy {r0 r1 : Nat} (hd : r0 + 7 ≤ r1 ∨ r1 + 7 ≤ r0) {b : Bool} {I : MI} {L : ML} {K : Bool → MI → ML → Prop} (hK : ∀ I', (∀ a, a < r0 ∨ r0 + 7 ≤ a → I' a = I a) → cpV r0 r1 I' I → K b I' L) : CV m_Village_copy [vr 19 r0, vr 19 r1] b I L K := by
  refine v_Village_copy_0 ⟨by decide, v_Village_copy_23 ⟨by decide, v_Village_copy_38 ⟨by decide, v_Village_copy_61 ⟨by decide, v_Village_copy_76 ⟨by decide, v_Village_copy_91 ⟨by decide, v_Village_copy_106 ?_⟩⟩⟩⟩⟩⟩
  simp only [tn0, tn16, tn41]
  refine hK _ (fun a ha => ?_) ⟨⟨?_, ?_, ?_, ?_, ?_⟩, fun p hp => ⟨?_, ?_⟩, fun t ht => ⟨?_, ?_, ?_, ?_⟩⟩
  · simp (disch := first | omega | assumption) only [sI_at, sI_c, sI_j, aI_at, aI_c, sL_at, sL_c, sL_j]
  · simp (disch := first | omega | assumption) only [sI_at, sI_c, sI_j, aI_at, aI_c, sL_at, sL_c, sL_j]
  · simp (disch := first | omega | assumption) only [sI_at, sI_c, sI_j, aI_at, aI_c, sL_at, sL_c, sL_j]
  · simp (disch := first | omega | assumption) only [sI_at, sI_c, sI_j, aI_at, aI_c, sL_at, sL_c, sL_j]
  · simp (disch := first | omega | assumption) only [sI_at, sI_c, sI_j, aI_at, aI_c, sL_at, sL_c, sL_j]
  · simp (disch := first | omega | assumption) only [sI_at, sI_c, sI_j, aI_at, aI_c, sL_at, sL_c, sL_j]
  · simp (disch := first | omega | assumption) only [sI_at, sI_c, sI_j, aI_at, aI_c, sL_at, sL_c, sL_j, cpy0]
  · simp (disch := first | omega | assumption) only [sI_at, sI_c, sI_j, aI_at, aI_c, sL_at, sL_c, sL_j, cpy0]
  · simp (disch := first | omega | assumption) only [sI_at, sI_c, sI_j, aI_at, aI_c, sL_at, sL_c, sL_j, cpy0]
  · simp (disch := first | omega | assumption) only [sI_at, sI_c, sI_j, aI_at, aI_c, sL_at, sL_c, sL_j, cpy0]
  · simp (disch := first | omega | assumption) only [sI_at, sI_c, sI_j, aI_at, aI_c, sL_at, sL_c, sL_j, cpy0]
  · simp (disch := first | omega | assumption) only [sI_at, sI_c, sI_j, aI_at, aI_c, sL_at, sL_c, sL_j, cpy0]
theorem c_Telling_copy {r0 r1 : Nat} (hd : r0 + 5 ≤ r1 ∨ r1 + 5 ≤ r0) {b : Bool} {I : MI} {L : ML} {K : Bool → MI → ML → Prop} (hK : ∀ I', (∀ a, a < r0 ∨ r0 + 5 ≤ a → I' a = I a) → cpT r0 r1 I' I → K b I' L) : CV m_Telling_copy [vr 18 r0, vr 18 r1] b I L K := by
  refine v_Telling_copy_0 ⟨by decide, v_Telling_copy_23 ⟨by decide, v_Telling_copy_38 ⟨by decide, v_Telling_copy_53 ⟨by decide, v_Telling_copy_68 ?_⟩⟩⟩⟩
  simp only [tn0, tn30]
  refine hK _ (fun a ha => ?_) ⟨?_, fun t ht => ⟨?_, ?_, ?_, ?_⟩⟩
  · simp (disch := first | omega | assumption) only [sI_at, sI_c, sI_j, aI_at, aI_c, sL_at, sL_c, sL_j]
  · simp (disch := first | omega | assumption) only [sI_at, sI_c, sI_j, aI_at, aI_c, sL_at, sL_c, sL_j]
  · simp (disch := first | omega | assumption) only [sI_at, sI_c, sI_j, aI_at, aI_c, sL_at, sL_c, sL_j, cpy0]
  · simp (disch := first | omega | assumption) only [sI_at, sI_c, sI_j, aI_at, aI_c, sL_at, sL_c, sL_j, cpy0]
  · simp (disch := first | omega | assumption) only [sI_at, sI_c, sI_j, aI_at, aI_c, sL_at, sL_c, sL_j, cpy0]
  · simp (disch := first | omega | assumption) only [sI_at, sI_c, sI_j, aI_at, aI_c, sL_at, sL_c, sL_j, cpy0]
