/-! WAYS: two people; soon -/
def twB (B : Bk) (a1 a2 a3 : Int32) : Bool := hpB B a1 a2 && (hpB B a1 a3 && !decide (a2 = a3))
theorem c_areTwo {B : Bk} {a1 a2 a3 : Int32} {b : Bool} {I : MI} {L : ML} {K : Int32 → Bool → MI → ML → Prop} (ok : B.ok) (hc : bkC 1 B I) (hy : twB B a1 a2 a3 = true → K (nI 1) b I L) (hf : twB B a1 a2 a3 = false → K (nI 0) b I L) : CI m_S_areTwo [vr 21 0, vi a1, vi a2, vi a3] b I L K := by
  unfold twB at hy hf
  refine v_S_areTwo_0 ⟨fun q => ⟨Or.inl rfl, hf ?_⟩, fun q => c_hasPerson ok hc (fun g2 => ?_) (fun g2 => ?_)⟩
  · rw [decide_eq_true q, Bool.not_true, Bool.and_false, Bool.and_false]
  · rw [g2, decide_eq_false q, Bool.true_and, Bool.not_false, Bool.and_true] at hy hf
    refine ⟨fun z => absurd z (by decide), fun _ => c_hasPerson ok hc (fun g3 => ?_) (fun g3 => ?_)⟩
    · exact ⟨fun z => absurd z (by decide), fun _ => ⟨Or.inr rfl, hy g3⟩⟩
    · exact ⟨fun _ => ⟨Or.inl rfl, hf g3⟩, fun z => absurd rfl z⟩
  · rw [g2, Bool.false_and] at hf
    exact ⟨fun _ => ⟨Or.inl rfl, hf rfl⟩, fun z => absurd rfl z⟩
theorem tw_in {B : Bk} {a1 a2 a3 : Int32} (ok : B.ok) (h : twB B a1 a2 a3 = true) : inR a1 B.nv = true ∧ ∃ p q, p < (B.vl a1.toNatClampNeg).n ∧ q < (B.vl a1.toNatClampNeg).n ∧ p ≠ q ∧ a2 = nI p ∧ a3 = nI q := by
  have h1 := ok.1.1
  unfold twB hpB at h
  rw [Bool.and_eq_true, Bool.and_eq_true, Bool.and_eq_true, Bool.and_eq_true] at h
  obtain ⟨⟨g1, g2⟩, ⟨-, g3⟩, g4⟩ := h
  obtain ⟨k, hk, e⟩ := (inR_iff (by omega)).mp g1
  have hn : (B.vl a1.toNatClampNeg).n ≤ 16 := by
    rw [e, n_cl (by omega)]
    exact (ok.2.2.1 k hk).1.2
  obtain ⟨p, hp, rfl⟩ := (inR_iff (by omega)).mp g2
  obtain ⟨q, hq, rfl⟩ := (inR_iff (by omega)).mp g3
  refine ⟨g1, p, q, hp, hq, fun z => ?_, rfl, rfl⟩
  rw [z, decide_eq_true rfl] at g4
  cases g4
/-! soon: distances, till nothing goes on -/
def rx (v : Vil) (c : Nat) (D : Nat → Option Nat) (t p : Nat) : Option Nat :=
  if p = v.to t then (match D (v.fr t) with
    | none => D p
    | some x => match D p with
      | none => some (x + v.dy t + c)
      | some y => if x + v.dy t + c < y then some (x + v.dy t + c) else some y)
  else D p
def swp (v : Vil) (c : Nat) (D : Nat → Option Nat) : Nat → Nat → Option Nat
  | 0 => D
  | i + 1 => rx v c (swp v c D i) i
def rnd (v : Vil) (c from' : Nat) : Nat → Nat → Option Nat
  | 0 => fun p => if p = from' then some 0 else none
  | k + 1 => swp v c (rnd v c from' k) v.m
def enc (N : Nat) : Option Nat → Nat
  | none => N
  | some x => x
def bnd (D : Nat → Option Nat) (B : Nat) : Prop := ∀ p x, D p = some x → x ≤ B
theorem rx_bnd {v : Vil} {c t : Nat} {D : Nat → Option Nat} {B : Nat} (hc : c ≤ 3) (hd : v.dy t ≤ 3) (h : bnd D B) : bnd (rx v c D t) (B + 6) := by
  intro p x e
  unfold rx at e
  split at e
  · cases h1 : D (v.fr t) with
    | none =>
      rw [h1] at e
      have := h p x e
      omega
    | some y =>
      have g1 := h _ _ h1
      rw [h1] at e
      cases h2 : D p with
      | none =>
        rw [h2] at e
        have e : some (y + v.dy t + c) = some x := e
        cases e
        omega
      | some z =>
        have g2 := h _ _ h2
        rw [h2] at e
        have e : (if y + v.dy t + c < z then some (y + v.dy t + c) else some z) = some x := e
        split at e <;> cases e <;> omega
  · have := h p x e
    omega
theorem rx_enc {v : Vil} {c t N B : Nat} {D : Nat → Option Nat} (hc : c ≤ 3) (hd : v.dy t ≤ 3) (h : bnd D B) (hN : B + 6 < N) : enc N (rx v c D t (v.to t)) = if enc N (D (v.fr t)) + v.dy t + c < enc N (D (v.to t)) then enc N (D (v.fr t)) + v.dy t + c else enc N (D (v.to t)) := by
  unfold rx
  rw [if_pos rfl]
  cases h1 : D (v.fr t) with
  | none =>
    show enc N (D (v.to t)) = if N + v.dy t + c < enc N (D (v.to t)) then _ else _
    have : enc N (D (v.to t)) ≤ N := by
      cases h2 : D (v.to t) with
      | none => exact Nat.le_refl _
      | some z =>
        have := h _ _ h2
        show z ≤ N
        omega
    rw [if_neg (by omega)]
  | some y =>
    have g1 := h _ _ h1
    cases h2 : D (v.to t) with
    | none =>
      show y + v.dy t + c = if y + v.dy t + c < N then y + v.dy t + c else N
      rw [if_pos (by omega)]
    | some z =>
      show enc N (if y + v.dy t + c < z then some (y + v.dy t + c) else some z) = if y + v.dy t + c < z then y + v.dy t + c else z
      split <;> rfl
theorem rx_ne {v : Vil} {c t p : Nat} {D : Nat → Option Nat} (h : p ≠ v.to t) : rx v c D t p = D p := if_neg h
theorem swp_bnd {v : Vil} {c : Nat} {D : Nat → Option Nat} {B : Nat} (hv : v.ok 40) (hc : c ≤ 3) (h : bnd D B) : ∀ i, i ≤ v.m → bnd (swp v c D i) (B + 6 * i)
  | 0, _ => h
  | i + 1, hi => by
    have := rx_bnd (t := i) hc (hv.2.2.2.2.2.2 i (by omega)).2.2.2.1.2 (swp_bnd hv hc h i (by omega))
    exact this
theorem rnd_bnd {v : Vil} {c a : Nat} (hv : v.ok 40) (hc : c ≤ 3) : ∀ k, bnd (rnd v c a k) (240 * k)
  | 0 => fun p x e => by
    have e : (if p = a then some 0 else none) = some x := e
    split at e <;> cases e
    exact Nat.le_refl _
  | k + 1 => fun p x e => by
    have := swp_bnd hv hc (rnd_bnd (a := a) hv hc k) v.m (Nat.le_refl _) p x e
    have := hv.2.1
    omega
theorem enc_le {N B : Nat} {D : Nat → Option Nat} (h : bnd D B) (hB : B ≤ N) (p : Nat) : enc N (D p) ≤ N := by
  cases e : D p with
  | none => exact Nat.le_refl _
  | some x =>
    have := h _ _ e
    show x ≤ N
    omega
theorem c_soon {v : Vil} {r p q : Nat} {a4 : Int32} {I : MI} {L : ML} (hv : v.ok 40) (hr : r + 6 < 36) (hV : vilC r v I) (hp : p < v.n) (hq : q < v.n) {b : Bool} {K : Int32 → Bool → MI → ML → Prop} (hK : ∀ I' L', (∀ a, a < 154 ∨ 186 ≤ a → I' a = I a) → K (optI (rnd v (if a4 = nI 0 then 0 else v.sl) p 16 q)) b I' L') : CI m_Ways_fewestDays [vr 20 183, vr 19 r, vi (nI p), vi (nI q), vi a4] b I L K := by
  have hn := hv.1.2
  have hm := hv.2.1
  have hsl := hv.2.2.1
  have main : ∀ c, c ≤ 3 → (∀ I' L', (∀ a, a < 154 ∨ 186 ≤ a → I' a = I a) → K (optI (rnd v c p 16 q)) b I' L') → ∀ n k, k + n = 16 → ∀ I1 : MI, (∀ a, a ≠ 185 → I1 a = I a) → (∀ j, j < 16 → I1 185 j = nI (enc 1000000 (rnd v c p k j))) → SW m_Ways_fewestDays 34 [vr 20 183, vr 19 r, un, vi (nI q), un, vi (nI c), vi (nI k), un, un] [] b I1 L (kI K) := by
    intro c hc kk n
    induction n with
    | zero =>
      intro k hk I1 f1 g1
      obtain rfl : k = 16 := by omega
      have hb := rnd_bnd (a := p) hv hc 16
      have kk := kk I1 L (fun a ha => f1 a (by omega))
      have hle := enc_le (N := 1000000) hb (by omega) q
      have hin : vp_in (nI q) 16 := by
        rw [n_in (by omega)]
        omega
      have eq : (nI q).toNatClampNeg = q := n_cl (by omega)
      refine v_Ways_fewestDays_34 ⟨fun _ => ⟨hin, ?_⟩, fun z => absurd (by decide) z⟩
      rw [eq, g1 q (by omega), show (1000000 : Int32) = nI 1000000 from rfl, n_le (by omega) (by omega)]
      refine ⟨fun z => ?_, fun z => ⟨hin, ?_⟩⟩
      · cases e : rnd v c p 16 q with
        | none =>
          rw [e] at kk
          exact kk
        | some x =>
          have := hb _ _ e
          rw [e] at z
          have z : 1000000 ≤ x := z
          omega
      · cases e : rnd v c p 16 q with
        | none =>
          rw [e] at z
          exact absurd (Nat.le_refl _) z
        | some x =>
          rw [e] at kk
          exact kk
    | succ n ih =>
      intro k hk I1 f1 g1
      have hb := rnd_bnd (a := p) hv hc k
      have inner : ∀ m i, i + m = v.m → ∀ I2 : MI, (∀ a, a ≠ 185 → I2 a = I a) → (∀ j, j < 16 → I2 185 j = nI (enc 1000000 (swp v c (rnd v c p k) i j))) → SW m_Ways_fewestDays 44 [vr 20 183, vr 19 r, un, vi (nI q), un, vi (nI c), vi (nI k), vi (nI i), un] [] b I2 L (kI K) := by
        intro m
        induction m with
        | zero =>
          intro i hi I2 f2 g2
          obtain rfl : i = v.m := by omega
          have e3 : I2 r 3 = nI v.m := by rw [f2 r (by omega)]; exact hV.1.2.1
          refine v_Ways_fewestDays_44 ⟨fun _ => ?_, fun z => absurd (by rw [e3, n_le (by omega) (by omega)]; exact Nat.le_refl _) z⟩
          rw [show nI k + (1 : Int32) = nI (k + 1) from n_add k 1]
          exact ih (k + 1) (by omega) I2 f2 g2
        | succ m ihm =>
          intro i hi I2 f2 g2
          have e3 : I2 r 3 = nI v.m := by rw [f2 r (by omega)]; exact hV.1.2.1
          obtain ⟨z1, z2, z3, z4, z5⟩ := hv.2.2.2.2.2.2 i (by omega)
          obtain ⟨t1, t2, t3, t4⟩ := hV.2.2 i (by omega)
          rw [← f2 (r + 3) (by omega)] at t1
          rw [← f2 (r + 4) (by omega)] at t2
          rw [← f2 (r + 5) (by omega)] at t3
          have ei : (nI i).toNatClampNeg = i := n_cl (by omega)
          have ef : (nI (v.fr i)).toNatClampNeg = v.fr i := n_cl (by omega)
          have et : (nI (v.to i)).toNatClampNeg = v.to i := n_cl (by omega)
          have hin : vp_in (nI i) 41 := by
            rw [n_in (by omega)]
            omega
          have hf : vp_in (nI (v.fr i)) 16 := by
            rw [n_in (by omega)]
            omega
          have ht : vp_in (nI (v.to i)) 16 := by
            rw [n_in (by omega)]
            omega
          have hs := swp_bnd hv hc hb i (by omega)
          have l1 := enc_le (N := 1000000) hs (by omega) (v.fr i)
          have l2 := enc_le (N := 1000000) hs (by omega) (v.to i)
          have er := rx_enc (N := 1000000) hc z4.2 hs (by omega)
          refine v_Ways_fewestDays_44 ⟨fun z => absurd z (by rw [e3, n_le (by omega) (by omega)]; omega), fun _ => ⟨hin, ?_⟩⟩
          rw [ei, t1, t2, t3, ef, et, g2 _ (by omega), g2 _ (by omega), n_add, n_add, show nI i + (1 : Int32) = nI (i + 1) from n_add i 1]
          refine ⟨hf, hin, hin, hin, ht, ht, ?_⟩
          refine ihm (i + 1) (by omega) _ (fun a ha => by rw [sI_c ha, f2 a ha]) (fun j hj => ?_)
          show sI I2 185 (v.to i) _ 185 j = nI (enc 1000000 (rx v c (swp v c (rnd v c p k) i) i j))
          by_cases cj : j = v.to i
          · subst cj
            rw [sI_at, er]
            by_cases y : enc 1000000 (swp v c (rnd v c p k) i (v.fr i)) + v.dy i + c < enc 1000000 (swp v c (rnd v c p k) i (v.to i))
            · rw [if_pos y, if_pos (by rw [n_lt (by omega) (by omega)]; exact y)]
            · rw [if_neg y, if_neg (by rw [n_lt (by omega) (by omega)]; exact y)]
          · rw [sI_j cj, g2 j hj, rx_ne cj]
      refine v_Ways_fewestDays_34 ⟨fun z => absurd z (by rw [show (16 : Int32) = nI 16 from rfl, n_le (by omega) (by omega)]; omega), fun _ => ?_⟩
      exact inner v.m 0 (by omega) I1 f1 g1
  have hin : vp_in (nI p) 16 := by
    rw [n_in (by omega)]
    omega
  have ep : (nI p).toNatClampNeg = p := n_cl (by omega)
  have start : ∀ c (I1 : MI), (∀ a, a ≠ 185 → I1 a = I a) → (∀ j, j < 16 → I1 185 j = nI 1000000) → (∀ a, a ≠ 185 → sI I1 185 p (nI 0) a = I a) ∧ ∀ j, j < 16 → sI I1 185 p (nI 0) 185 j = nI (enc 1000000 (rnd v c p 0 j)) := fun c I1 f1 g1 => by
    refine ⟨fun a ha => by rw [sI_c ha, f1 a ha], fun j hj => ?_⟩
    show _ = nI (enc 1000000 (if j = p then some 0 else none))
    by_cases cj : j = p
    · subst cj
      rw [sI_at, if_pos rfl]
      rfl
    · rw [sI_j cj, g1 j hj, if_neg cj]
      rfl
  refine v_Ways_fewestDays_0 ⟨fun z => ?_, fun z => ?_⟩
  · rw [if_pos (show a4 = nI 0 from z)] at hK
    refine c_fillB (fun I1 f1 g1 => ⟨hin, ?_⟩)
    rw [ep]
    obtain ⟨s1, s2⟩ := start 0 I1 f1 g1
    exact main 0 (by omega) hK 16 0 (by omega) _ s1 s2
  · rw [if_neg (show ¬ a4 = nI 0 from z)] at hK
    refine c_fillB (fun I1 f1 g1 => ⟨hin, ?_⟩)
    rw [ep, show I r 8 = nI v.sl from hV.1.2.2.1]
    obtain ⟨s1, s2⟩ := start v.sl I1 f1 g1
    exact main v.sl hsl hK 16 0 (by omega) _ s1 s2
theorem oc_soon : ∀ a1 a2 a3 a4 : Int32, (a4 = 0 ∨ a4 = 1) → OpC m_S_soon [vi a1, vi a2, vi a3, vi a4] (fun B => if twB B a1 a2 a3 = true then optI (rnd (B.vl a1.toNatClampNeg) (if a4 = nI 0 then 0 else (B.vl a1.toNatClampNeg).sl) a2.toNatClampNeg 16 a3.toNatClampNeg) else nM) := by
  intro a1 a2 a3 a4 _
  intro B I b L K ok hc k
  dsimp only at k
  · refine v_S_soon_0 (c_areTwo ok hc (fun g => ?_) (fun g => ?_))
    · obtain ⟨g1, p, q, hp, hq, hne, rfl, rfl⟩ := tw_in ok g
      obtain ⟨v1, v2, v3, v4⟩ := c_vil ok hc g1
      have hn := v2.1.2
      rw [if_pos g, n_cl (by omega), n_cl (by omega)] at k
      refine ⟨fun _ => ⟨v1, c_soon v2 v3 v4 hp hq (fun I' L' f => k b I' L' (fun a ha => f a (by omega)))⟩, fun z => absurd (by decide) z⟩
    · have kk := k b I L (fun _ _ => rfl)
      rw [if_neg (by rw [g]; exact Bool.false_ne_true)] at kk
      exact ⟨fun z => absurd rfl z, fun _ => kk⟩
