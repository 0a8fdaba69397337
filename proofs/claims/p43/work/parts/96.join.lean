/-! WHAT-IFS: join -/
def addV (v : Vil) (a c : Nat) : Vil := mkV v.n (v.m + 1) v.sl v.tw v.td v.kd v.db (fun t => if t = v.m then a else v.fr t) (fun t => if t = v.m then c else v.to t) (fun t => if t = v.m then 1 else v.dy t) (fun t => if t = v.m then 9 else v.st t)
theorem addV_ok {v : Vil} {a c : Nat} (h : v.ok 40) (ha : a < v.n) (hc : c < v.n) : (addV v a c).ok 41 := by
  obtain ⟨q1, q2, q3, q4, q5, q6, q7⟩ := h
  refine ⟨q1, show v.m + 1 ≤ 41 by omega, q3, q4, q5, q6, fun t ht => ?_⟩
  have ht : t < v.m + 1 := ht
  show (if t = v.m then a else v.fr t) < v.n ∧ (if t = v.m then c else v.to t) < v.n ∧ _ ∧ (1 ≤ (if t = v.m then 1 else v.dy t) ∧ (if t = v.m then 1 else v.dy t) ≤ 3) ∧ 1 ≤ (if t = v.m then 9 else v.st t) ∧ (if t = v.m then 9 else v.st t) ≤ 9
  by_cases e : t = v.m
  · rw [if_pos e, if_pos e, if_pos e, if_pos e]
    exact ⟨ha, hc, fun h => absurd h (by omega), ⟨by omega, by omega⟩, by omega, by omega⟩
  · obtain ⟨z1, z2, z3, z4, z5⟩ := q7 t (by omega)
    rw [if_neg e, if_neg e, if_neg e, if_neg e]
    exact ⟨z1, z2, fun h => absurd h (by omega), z4, z5⟩
def joW (v : Vil) (t : Tel) (a c : Nat) : Wd := mkW (addV v a c) v.m t wi0
theorem c_addTie {m a c : Nat} (hm : m ≤ 40) {b : Bool} {I : MI} {L : ML} {K : Bool → MI → ML → Prop} (e3 : I 154 3 = nI m) (hK : K b (sI (sI (sI (sI (sI I 157 m (nI a)) 158 m (nI c)) 159 m (nI 1)) 160 m (nI 9)) 154 3 (nI (m + 1))) L) : CV m_Village_addTie [vr 19 154, vi (nI a), vi (nI c), vi (nI 1), vi (nI 9)] b I L K := by
  refine v_Village_addTie_0 ⟨fun _ => ?_, fun q => absurd (by rw [e3, show (41 : Int32) = nI 41 from rfl, n_lt (by omega) (by omega)]; omega) q⟩
  simp only [Nat.reduceAdd]
  simp (disch := first | omega | assumption) only [sI_at, sI_c, sI_j, aI_at, aI_c, sL_at, sL_c, sL_j, e3, n_cl]
  rw [show nI m + (1 : Int32) = nI (m + 1) from n_add m 1]
  have hv : vp_in (nI m) 41 := by
    rw [n_in (by omega)]
    omega
  exact ⟨hv, hv, hv, hv, hK⟩
theorem join_made {v : Vil} {m0 : Nat} {t : Tel} {x : Wi} {a c : Nat} {I : MI} {L : ML} (h : lifeP v m0 t x (sI I 154 3 (nI v.m)) L) : lifeP (addV v a c) m0 t x (sI (sI (sI (sI (sI (sI I 154 3 (nI v.m)) 157 v.m (nI a)) 158 v.m (nI c)) 159 v.m (nI 1)) 160 v.m (nI 9)) 154 3 (nI (v.m + 1))) L := by
  obtain ⟨⟨⟨g1, g2, g3, g4, g5⟩, g6, g7⟩, h2, h3⟩ := h
  have e : ∀ a', a' ≠ 154 → a' ≠ 157 → a' ≠ 158 → a' ≠ 159 → a' ≠ 160 → sI (sI (sI (sI (sI (sI I 154 3 (nI v.m)) 157 v.m (nI a)) 158 v.m (nI c)) 159 v.m (nI 1)) 160 v.m (nI 9)) 154 3 (nI (v.m + 1)) a' = sI I 154 3 (nI v.m) a' := fun a' q1 q2 q3 q4 q5 => by
    rw [sI_c q1, sI_c q5, sI_c q4, sI_c q3, sI_c q2]
  have e4 : ∀ j, j ≠ 3 → sI (sI (sI (sI (sI (sI I 154 3 (nI v.m)) 157 v.m (nI a)) 158 v.m (nI c)) 159 v.m (nI 1)) 160 v.m (nI 9)) 154 3 (nI (v.m + 1)) 154 j = sI I 154 3 (nI v.m) 154 j := fun j hj => by
    rw [sI_j hj, sI_c (by omega), sI_c (by omega), sI_c (by omega), sI_c (by omega)]
  refine ⟨⟨⟨?_, ?_, ?_, ?_, ?_⟩, fun p hp => ?_, fun k hk => ?_⟩, givP_fr (fun j hj => by rw [e 161 (by omega) (by omega) (by omega) (by omega) (by omega)]) (e 162 (by omega) (by omega) (by omega) (by omega) (by omega)) (e 163 (by omega) (by omega) (by omega) (by omega) (by omega)) rfl h2, ?_⟩
  · rw [e4 0 (by omega)]
    exact g1
  · rw [sI_at]
    rfl
  · rw [e4 8 (by omega)]
    exact g3
  · rw [e4 9 (by omega)]
    exact g4
  · rw [e4 10 (by omega)]
    exact g5
  · rw [e (154 + 1) (by omega) (by omega) (by omega) (by omega) (by omega), e (154 + 2) (by omega) (by omega) (by omega) (by omega) (by omega)]
    exact g6 p hp
  · have hk : k < v.m + 1 := hk
    show _ = nI (if k = v.m then a else v.fr k) ∧ _ = nI (if k = v.m then c else v.to k) ∧ _ = nI (if k = v.m then 1 else v.dy k) ∧ _ = nI (if k = v.m then 9 else v.st k)
    simp only [Nat.reduceAdd] at g7 ⊢
    by_cases q : k = v.m
    · subst q
      rw [if_pos rfl, if_pos rfl, if_pos rfl, if_pos rfl]
      refine ⟨?_, ?_, ?_, ?_⟩
      · rw [sI_c (by omega), sI_c (by omega), sI_c (by omega), sI_c (by omega), sI_at]
      · rw [sI_c (by omega), sI_c (by omega), sI_c (by omega), sI_at]
      · rw [sI_c (by omega), sI_c (by omega), sI_at]
      · rw [sI_c (by omega), sI_at]
    · obtain ⟨z1, z2, z3, z4⟩ := g7 k (by omega)
      rw [if_neg q, if_neg q, if_neg q, if_neg q]
      refine ⟨?_, ?_, ?_, ?_⟩
      · rw [sI_c (by omega), sI_c (by omega), sI_c (by omega), sI_c (by omega), sI_j q]
        exact z1
      · rw [sI_c (by omega), sI_c (by omega), sI_c (by omega), sI_j q, sI_c (by omega)]
        exact z2
      · rw [sI_c (by omega), sI_c (by omega), sI_j q, sI_c (by omega), sI_c (by omega)]
        exact z3
      · rw [sI_c (by omega), sI_j q, sI_c (by omega), sI_c (by omega), sI_c (by omega)]
        exact z4
  · unfold wiP at h3 ⊢
    rw [e 161 (by omega) (by omega) (by omega) (by omega) (by omega)]
    exact h3
theorem join_back {v : Vil} {m0 : Nat} {t : Tel} {x : Wi} {a c : Nat} {I : MI} {L : ML} (h : lifeP (addV v a c) m0 t x I L) : lifeP v m0 t x (sI I 154 3 (nI v.m)) L := by
  obtain ⟨⟨⟨g1, g2, g3, g4, g5⟩, g6, g7⟩, h2, h3⟩ := h
  refine ⟨⟨⟨?_, sI_at _ _ _ _, ?_, ?_, ?_⟩, fun p hp => ?_, fun k hk => ?_⟩, givP_fr (fun j hj => by rw [sI_c (by omega)]) (sI_c (by omega)) (sI_c (by omega)) rfl h2, ?_⟩
  · rw [sI_j (by omega)]
    exact g1
  · rw [sI_j (by omega)]
    exact g3
  · rw [sI_j (by omega)]
    exact g4
  · rw [sI_j (by omega)]
    exact g5
  · rw [sI_c (by omega), sI_c (by omega)]
    exact g6 p hp
  · rw [sI_c (by omega), sI_c (by omega), sI_c (by omega), sI_c (by omega)]
    have z := g7 k (show k < v.m + 1 by omega)
    have z : I (154 + 3) k = nI (if k = v.m then a else v.fr k) ∧ I (154 + 4) k = nI (if k = v.m then c else v.to k) ∧ I (154 + 5) k = nI (if k = v.m then 1 else v.dy k) ∧ I (154 + 6) k = nI (if k = v.m then 9 else v.st k) := z
    rw [if_neg (by omega), if_neg (by omega), if_neg (by omega), if_neg (by omega)] at z
    exact z
  · unfold wiP at h3 ⊢
    rw [sI_c (by omega)]
    exact h3
/-- a run till its ring, and its cleanness to be asked -/
theorem c_lcG {w : Wd} {s0 : Nat} {b : Bool} {I : MI} {L : ML} {G : Bool → MI → ML → Prop} (W : WL w I L) (hs : s0 ≤ 201) (rows : ∀ e, e < s0 → rowC w e I L) (hla : s0 ≤ w.la + 1) (hK : ∀ I' L', (∀ a, a < 165 ∨ 181 ≤ a → I' a = I a) → (∀ a, a ≠ 169 → a ≠ 175 → a ≠ 179 → L' a = L a) → (∀ K : Int32 → Bool → MI → ML → Prop, K (nI (cleanB w).toNat) b I' L' → CI m_Days_isClean [vr 11 165] b I' L' K) → G b I' L') : CV m_Run_live [vr 14 153, vi (nI s0), vi (nI 200), vi (nI 1)] b I L G := by
  have hn := W.vil.2.1.2
  refine c_live (w := w) (s0 := s0) (U := 201) hs (by omega) (Or.inr ⟨by omega, rfl⟩) (Or.inr rfl) W rows hla (fun N I2 L2 f2 l2 n1 n2 rows2 R _ _ hst => ?_)
  obtain ⟨s1, s2⟩ := hst rfl
  refine hK I2 L2 f2 l2 (fun K kk => ?_)
  unfold cleanB at kk
  rw [rgU_stop n2 s1] at kk
  have ho : ∀ r, rgU w N = some r → r.1 + r.2 ≤ N := fun r hr => by
    have := rgU_in hr
    omega
  exact c_isClean (w := w) (M := N) (o := rgU w N) hn n2 rows2 R ho kk
def joB (v : Vil) (t : Tel) (a c : Nat) : Bool := !decide (a = c) && cleanB (joW v t a c)
def joF (v : Vil) (t : Tel) : Nat → Nat → Option (Nat × Nat)
  | 0, _ => none
  | k + 1, a => match fstN (joB v t a) v.n 0 with
    | some c => some (a, c)
    | none => joF v t k (a + 1)
def qJo (to : Int32) : Option (Nat × Nat) → Int32
  | none => nM
  | some r => if to = nI 0 then nI r.1 else nI r.2
