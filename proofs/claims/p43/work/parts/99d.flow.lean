/-! WAYS: one way after another is taken (pure) -/
def tog (T : Nat → Bool) (k : Nat) : Nat → Bool := fun t => if t = k then !T t else T t
def wlkT (v : Vil) (T : Nat → Bool) (s : Sp) (a : Nat) : Nat → Nat → (Nat → Bool) → Nat → Bool
  | 0, _, U => U
  | f + 1, p, U => if p = a then U else wlkT v T s a f (asd v T (s.2 p)) (tog U (s.2 p))
def nxT (v : Vil) (T : Nat → Bool) (a c : Nat) : Nat → Bool := wlkT v T (spF v T a) a 16 c T
def Tq (v : Vil) (a c : Nat) : Nat → Nat → Bool
  | 0 => noT
  | j + 1 => nxT v (Tq v a c j) a c
def wt (v : Vil) (a t : Nat) : Int := (if v.fr t = a then 1 else 0) - (if v.to t = a then 1 else 0)
def net (v : Vil) (a : Nat) (T : Nat → Bool) : Nat → Int
  | 0 => 0
  | n + 1 => net v a T n + (if T n = true then wt v a n else 0)
theorem net_cong {v : Vil} {a : Nat} {T U : Nat → Bool} : ∀ {n : Nat}, (∀ t, t < n → T t = U t) → net v a T n = net v a U n
  | 0, _ => rfl
  | n + 1, h => by
    unfold net
    rw [net_cong (fun t ht => h t (by omega)), h n (by omega)]
theorem net_tog {v : Vil} {a k : Nat} {T : Nat → Bool} : ∀ {n : Nat}, k < n → net v a (tog T k) n = net v a T n + (if T k = true then -wt v a k else wt v a k)
  | n + 1, h => by
    unfold net
    by_cases c : k = n
    · subst c
      rw [net_cong (T := tog T k) (U := T) (fun t ht => if_neg (by omega)), show tog T k k = !T k from if_pos rfl]
      cases T k with
      | true =>
        rw [if_neg (by decide), if_pos rfl, if_pos rfl]
        omega
      | false =>
        rw [if_pos (by decide), if_neg (by decide), if_neg (by decide)]
        omega
    · rw [net_tog (n := n) (by omega), show tog T k n = T n from if_neg (by omega)]
      omega
theorem wt_le (v : Vil) (a t : Nat) : wt v a t ≤ 1 := by
  unfold wt
  split <;> split <;> omega
theorem net_le {v : Vil} {a : Nat} {T : Nat → Bool} : ∀ n : Nat, net v a T n ≤ n
  | 0 => by
    show (0 : Int) ≤ 0
    omega
  | n + 1 => by
    have h1 := net_le (v := v) (a := a) (T := T) n
    have h2 := wt_le v a n
    unfold net
    split <;> omega
theorem net_full {v : Vil} {a : Nat} {T : Nat → Bool} : ∀ {n : Nat}, net v a T n = n → ∀ t, t < n → T t = true ∧ wt v a t = 1
  | n + 1, h, t, ht => by
    have h1 := net_le (v := v) (a := a) (T := T) n
    have h2 := wt_le v a n
    unfold net at h
    have e : net v a T n = n ∧ T n = true ∧ wt v a n = 1 := by
      cases c : T n with
      | true =>
        rw [if_pos c] at h
        exact ⟨by omega, rfl, by omega⟩
      | false =>
        rw [if_neg (by rw [c]; exact Bool.false_ne_true)] at h
        omega
    by_cases c : t = n
    · subst c
      exact e.2
    · exact net_full e.1 t (by omega)
/-- what stands at each one come to -/
def depP (v : Vil) (T : Nat → Bool) (a : Nat) (s : Sp) (dep : Nat → Nat) : Prop := ∀ p, s.1 p = true → dep p < 16 ∧ (p ≠ a → s.2 p < v.m ∧ bsd v T (s.2 p) = p ∧ s.1 (asd v T (s.2 p)) = true ∧ dep p = dep (asd v T (s.2 p)) + 1)
theorem spF_dep {v : Vil} {T : Nat → Bool} {a : Nat} (hv : v.ok 40) (ha : a < v.n) : ∃ dep, depP v T a (spF v T a) dep := by
  obtain ⟨-, -, dep, h⟩ := rdS_I (T := T) hv ha 16
  refine ⟨dep, fun p hp => ?_⟩
  obtain ⟨h1, h2⟩ := h p hp
  have := cntB_le (rdS v T a 16).1 v.n
  have := hv.1.2
  exact ⟨by omega, h2⟩
/-- a way back: who stands on it further on is not touched -/
theorem way_ne {v : Vil} {T : Nat → Bool} {a : Nat} {s : Sp} {dep : Nat → Nat} {U : Nat → Bool} {p : Nat} (hD : depP v T a s dep) (hp : s.1 p = true) (ha : p ≠ a) (hU : ∀ q, s.1 q = true → q ≠ a → dep q ≤ dep p → U (s.2 q) = T (s.2 q)) : ∀ q, s.1 q = true → q ≠ a → dep q ≤ dep (asd v T (s.2 p)) → tog U (s.2 p) (s.2 q) = T (s.2 q) := by
  intro q hq hqa hd
  obtain ⟨-, g⟩ := hD p hp
  obtain ⟨g1, g2, g3, g4⟩ := g ha
  obtain ⟨-, k⟩ := hD q hq
  obtain ⟨k1, k2, k3, k4⟩ := k hqa
  have ne : s.2 q ≠ s.2 p := fun e => by
    rw [e, g2] at k2
    subst k2
    omega
  show (if s.2 q = s.2 p then _ else U (s.2 q)) = _
  rw [if_neg ne]
  exact hU q hq hqa (by omega)
theorem wlk_net {v : Vil} {T : Nat → Bool} {a : Nat} {s : Sp} {dep : Nat → Nat} (hD : depP v T a s dep) : ∀ f p U, dep p < f → s.1 p = true → (∀ q, s.1 q = true → q ≠ a → dep q ≤ dep p → U (s.2 q) = T (s.2 q)) → net v a (wlkT v T s a f p U) v.m = net v a U v.m + (if p = a then 0 else 1)
  | 0, p, U, h, _, _ => by omega
  | f + 1, p, U, hf, hp, hU => by
    show net v a (if p = a then U else wlkT v T s a f (asd v T (s.2 p)) (tog U (s.2 p))) v.m = _
    by_cases c : p = a
    · rw [if_pos c, if_pos c]
      omega
    · rw [if_neg c, if_neg c]
      obtain ⟨-, g⟩ := hD p hp
      obtain ⟨g1, g2, g3, g4⟩ := g c
      rw [wlk_net hD f _ _ (by omega) g3 (way_ne hD hp c hU), net_tog g1, hU p hp c (Nat.le_refl _)]
      unfold bsd at g2
      unfold asd wt
      cases z : T (s.2 p) with
      | true =>
        rw [if_pos z] at g2
        rw [if_pos rfl, if_pos rfl, if_neg (by rw [g2]; exact c)]
        split <;> omega
      | false =>
        rw [if_neg (by rw [z]; exact Bool.false_ne_true)] at g2
        rw [if_neg Bool.false_ne_true, if_neg Bool.false_ne_true, if_neg (c := v.to (s.2 p) = a) (by rw [g2]; exact c)]
        split <;> omega
theorem nxT_net {v : Vil} {T : Nat → Bool} {a c : Nat} (hv : v.ok 40) (ha : a < v.n) (hc : c ≠ a) (hs : (spF v T a).1 c = true) : net v a (nxT v T a c) v.m = net v a T v.m + 1 := by
  obtain ⟨dep, hD⟩ := spF_dep (T := T) hv ha
  have := wlk_net hD 16 c T (hD c hs).1 hs (fun _ _ _ _ => rfl)
  rw [if_neg hc] at this
  exact this
def rcB (v : Vil) (a c j : Nat) : Bool := (spF v (Tq v a c j) a).1 c
theorem Tq_net {v : Vil} {a c : Nat} (hv : v.ok 40) (ha : a < v.n) (hc : c ≠ a) : ∀ j, (∀ i, i < j → rcB v a c i = true) → net v a (Tq v a c j) v.m = j
  | 0, _ => by
    have z : ∀ n, net v a noT n = 0 := by
      intro n
      induction n with
      | zero => rfl
      | succ n ih =>
        show net v a noT n + (if false = true then wt v a n else 0) = 0
        rw [ih, if_neg Bool.false_ne_true]
        rfl
    exact z v.m
  | j + 1, h => by
    show net v a (nxT v (Tq v a c j) a c) v.m = _
    rw [nxT_net hv ha hc (h j (by omega)), Tq_net hv ha hc j (fun i hi => h i (by omega))]
    rfl
theorem Tq_stop {v : Vil} {a c : Nat} (hv : v.ok 40) (ha : a < v.n) (hc : c ≠ a) (h : ∀ i, i < v.m → rcB v a c i = true) : rcB v a c v.m = false := by
  have full := net_full (Tq_net hv ha hc v.m h)
  have hS : cls v (Tq v a c v.m) (fun p => decide (p = a)) := fun t ht g => by
    obtain ⟨f1, f2⟩ := full t ht
    have g : asd v (Tq v a c v.m) t = a := of_decide_eq_true g
    unfold asd at g
    rw [if_pos f1] at g
    unfold wt at f2
    rw [if_pos g] at f2
    exfalso
    split at f2 <;> omega
  cases z : rcB v a c v.m with
  | false => rfl
  | true =>
    have := rdS_least hS (a := a) (decide_eq_true rfl) 16 c z
    exact absurd (of_decide_eq_true this) hc
/-- how many ways, no two of which share a tie -/
def apO (v : Vil) (a c : Nat) : Option Nat := fstN (fun j => !rcB v a c j) (v.m + 1) 0
theorem apO_some {v : Vil} {a c : Nat} (hv : v.ok 40) (ha : a < v.n) (hc : c ≠ a) : ∃ N, apO v a c = some N ∧ N ≤ v.m ∧ rcB v a c N = false ∧ ∀ i, i < N → rcB v a c i = true := by
  cases h : apO v a c with
  | none =>
    have q := fstN_none.mp h
    have all : ∀ i, i ≤ v.m → rcB v a c i = true := fun i hi => by
      have := q i (Nat.zero_le _) (by omega)
      cases z : rcB v a c i with
      | true => rfl
      | false =>
        have this : (!rcB v a c i) = false := this
        rw [z] at this
        cases this
    have := Tq_stop hv ha hc (fun i hi => all i (by omega))
    rw [all v.m (Nat.le_refl _)] at this
    cases this
  | some N =>
    obtain ⟨q1, q2, q3⟩ := fstN_some h
    refine ⟨N, rfl, by omega, ?_, fun i hi => ?_⟩
    · have q2 : (!rcB v a c N) = true := q2
      cases z : rcB v a c N with
      | false => rfl
      | true =>
        rw [z] at q2
        cases q2
    · have := q3 i (Nat.zero_le _) hi
      cases z : rcB v a c i with
      | true => rfl
      | false =>
        have this : (!rcB v a c i) = false := this
        rw [z] at this
        cases this
def cuB (v : Vil) (a c : Nat) (t : Nat) : Bool := match apO v a c with
  | none => false
  | some N => decide (t < v.m) && ((spF v (Tq v a c N) a).1 (v.fr t) && !(spF v (Tq v a c N) a).1 (v.to t))
theorem cuB_eq {v : Vil} {a c N : Nat} (h : apO v a c = some N) (t : Nat) : cuB v a c t = (decide (t < v.m) && ((spF v (Tq v a c N) a).1 (v.fr t) && !(spF v (Tq v a c N) a).1 (v.to t))) := by
  unfold cuB
  rw [h]
/-- without a way there is no tie in the cut -/
theorem cuB_0 {v : Vil} {a c : Nat} (hv : v.ok 40) (ha : a < v.n) (h : apO v a c = some 0) (t : Nat) : cuB v a c t = false := by
  rw [cuB_eq h]
  by_cases ht : t < v.m
  · have := spF_st (T := noT) hv ha t ht
    have this : ((spF v noT a).1 (v.fr t) && !(spF v noT a).1 (v.to t)) = false := this
    show (_ && ((spF v noT a).1 (v.fr t) && !(spF v noT a).1 (v.to t))) = false
    rw [this, Bool.and_false]
  · rw [decide_eq_false ht, Bool.false_and]
