/-! WAYS: reach -/
theorem c_forward {v : Vil} {r a : Nat} {I : MI} {L : ML} (hv : v.ok 40) (hr : r + 6 < 36) (hV : vilC r v I) (ha : a < v.n) {b : Bool} {K : Int32 → Bool → MI → ML → Prop} (hK : ∀ I' L', (∀ x, x ≠ 184 → I' x = I x) → K (bI v.n (spF v noT a).1) b I' L') : CI m_Ways_forward [vr 20 183, vr 19 r, vi (nI a)] b I L K :=
  v_Ways_forward_0 (c_reached (T := noT) hv hr hV ha (fun k hk => by rw [sL_at, l_0]; rfl) (fun I' f _ => hK I' _ f))
theorem c_backward {v : Vil} {r a : Nat} {I : MI} {L : ML} (hv : v.ok 40) (hr : r + 6 < 36) (hV : vilC r v I) (ha : a < v.n) {b : Bool} {K : Int32 → Bool → MI → ML → Prop} (hK : ∀ I' L', (∀ x, x ≠ 184 → I' x = I x) → K (bI v.n (spF v alT a).1) b I' L') : CI m_Ways_backward [vr 20 183, vr 19 r, vi (nI a)] b I L K := by
  have hm := hv.2.1
  exact v_Ways_backward_0 (c_reached (T := alT) hv hr hV ha (fun k hk => by rw [sL_at, l_m1 k (by omega)]; rfl) (fun I' f _ => hK I' _ f))
def stE (v : Vil) (p : Nat) : Nat → Nat := sumN (fun t => if v.to t = p then v.st t else 0)
theorem c_strengthTo {v : Vil} {r p : Nat} {I : MI} (hv : v.ok 40) (hV : vilC r v I) (hp : p < v.n) {b : Bool} {L : ML} {K : Int32 → Bool → MI → ML → Prop} (hK : K (nI (stE v p v.m)) b I L) : CI m_Village_strengthTo [vr 19 r, vi (nI p)] b I L K := by
  have hn := hv.1.2
  have hm := hv.2.1
  have e3 := hV.1.2.1
  have loop : ∀ n i, i + n = v.m → SW m_Village_strengthTo 4 [vr 19 r, vi (nI p), vi (nI (stE v p i)), vi (nI i)] [] b I L (kI K) := by
    intro n
    induction n with
    | zero =>
      intro i hi
      obtain rfl : i = v.m := by omega
      exact v_Village_strengthTo_4 ⟨fun _ => hK, fun z => absurd (by rw [e3, n_le (by omega) (by omega)]; exact Nat.le_refl _) z⟩
    | succ n ih =>
      intro i hi
      obtain ⟨z1, z2, z3, -⟩ := hv.2.2.2.2.2.2 i (by omega)
      obtain ⟨t1, t2, t3, t4⟩ := hV.2.2 i (by omega)
      have ei : (nI i).toNatClampNeg = i := n_cl (by omega)
      have hin : vp_in (nI i) 41 := by
        rw [n_in (by omega)]
        omega
      have nx := ih (i + 1) (by omega)
      have es : stE v p (i + 1) = stE v p i + (if v.to i = p then v.st i else 0) := rfl
      rw [es] at nx
      refine v_Village_strengthTo_4 ⟨fun z => absurd z (by rw [e3, n_le (by omega) (by omega)]; omega), fun _ => ⟨hin, ?_⟩⟩
      rw [ei, t2, t4, n_eq (by omega) (by omega), show nI i + (1 : Int32) = nI (i + 1) from n_add i 1, n_add]
      refine ⟨fun q => ?_, fun q => ⟨hin, ?_⟩⟩
      · rw [if_neg q, Nat.add_zero] at nx
        exact nx
      · rw [if_pos (Decidable.not_not.mp q)] at nx
        exact nx
  exact v_Village_strengthTo_0 (loop v.m 0 (by omega))
def coB (v : Vil) (a p : Nat) : Bool := (spF v noT a).1 p && (spF v alT a).1 p
def qRe (v : Vil) (p : Nat) (w : Nat) : Int32 := if w = 0 then bI v.n (spF v noT p).1 else if w = 1 then bI v.n (coB v p) else nI (stE v p v.m)
theorem oc_reach : ∀ a1 a2 a3 : Int32, OpC m_S_reach [vi a1, vi a2, vi a3] (fun B => if (hpB B a1 a2 && inR a3 3) = true then qRe (B.vl a1.toNatClampNeg) a2.toNatClampNeg a3.toNatClampNeg else nM) := by
  intro a1 a2 a3
  intro B I b L K ok hc k
  dsimp only at k
  · refine v_S_reach_0 (c_hasPerson ok hc (fun g => ?_) (fun g => ?_))
    · have g' := g
      unfold hpB at g'
      rw [Bool.and_eq_true] at g'
      obtain ⟨v1, v2, v3, v4⟩ := c_vil ok hc g'.1
      have hn := v2.1.2
      obtain ⟨p, hp, rfl⟩ := (inR_iff (by omega)).mp g'.2
      rw [g, Bool.true_and, n_cl (by omega)] at k
      refine ⟨fun _ => ⟨v1, ?_⟩, fun z => absurd (by decide) z⟩
      cases g3 : inR a3 3 with
      | true =>
        obtain ⟨w, hw, rfl⟩ := (inR_iff (by decide)).mp g3
        rw [if_pos g3, n_cl (by omega)] at k
        rcases (by omega : w = 0 ∨ w = 1 ∨ w = 2) with rfl | rfl | rfl
        · exact ⟨fun _ => c_forward v2 v3 v4 hp (fun I' L' f => k b I' L' (fun a ha => f a (by omega))), fun z => absurd rfl z⟩
        · refine ⟨fun z => absurd z (by decide), fun _ => ⟨fun _ => c_forward v2 v3 v4 hp (fun I1 L1 f1 => ?_), fun z => absurd rfl z⟩⟩
          refine c_backward v2 v3 (vilC_fr (fun x q1 q2 => f1 x (by omega)) v4) hp (fun I2 L2 f2 => ?_)
          have kk := k b I2 L2 (fun a ha => by rw [f2 a (by omega), f1 a (by omega)])
          rw [show bI (B.vl a1.toNatClampNeg).n (spF (B.vl a1.toNatClampNeg) noT p).1 &&& bI (B.vl a1.toNatClampNeg).n (spF (B.vl a1.toNatClampNeg) alT p).1 = bI (B.vl a1.toNatClampNeg).n (coB (B.vl a1.toNatClampNeg) p) from bI_of (by omega) (fun i hi => by
            rw [b_and, bI_bit _ (by omega), bI_bit _ (by omega)]
            unfold coB
            cases decide (i < (B.vl a1.toNatClampNeg).n) <;> rfl)]
          exact kk
        · exact ⟨fun z => absurd z (by decide), fun _ => ⟨fun z => absurd z (by decide), fun _ => ⟨fun _ => c_strengthTo v2 v4 hp (k b I L (fun _ _ => rfl)), fun z => absurd rfl z⟩⟩⟩
      | false =>
        have kk := k b I L (fun _ _ => rfl)
        rw [if_neg (by rw [g3]; exact Bool.false_ne_true)] at kk
        have ne : ∀ w, w < 3 → ¬ a3 = nI w := fun w hw e => by
          rw [(inR_iff (by decide)).mpr ⟨w, hw, e⟩] at g3
          cases g3
        exact ⟨fun z => absurd z (ne 0 (by omega)), fun _ => ⟨fun z => absurd z (ne 1 (by omega)), fun _ => ⟨fun z => absurd z (ne 2 (by omega)), fun _ => kk⟩⟩⟩
    · have kk := k b I L (fun _ _ => rfl)
      rw [g, Bool.false_and] at kk
      exact ⟨fun z => absurd rfl z, fun _ => kk⟩
