/-! WAYS: as many ties in a cut as ways that share none; without them no way (pure) -/
theorem wlk_all {v : Vil} {T : Nat → Bool} {a : Nat} {s : Sp} {dep : Nat → Nat} (hD : depP v T a s dep) (q : Nat) : ∀ f p U, dep p < f → s.1 p = true → (∀ q, s.1 q = true → q ≠ a → dep q ≤ dep p → U (s.2 q) = T (s.2 q)) → net v q (wlkT v T s a f p U) v.m = net v q U v.m + (if a = q then 1 else 0) - (if p = q then 1 else 0)
  | 0, p, U, h, _, _ => by omega
  | f + 1, p, U, hf, hp, hU => by
    show net v q (if p = a then U else wlkT v T s a f (asd v T (s.2 p)) (tog U (s.2 p))) v.m = _
    by_cases c : p = a
    · rw [if_pos c, c]
      omega
    · rw [if_neg c]
      obtain ⟨-, g⟩ := hD p hp
      obtain ⟨g1, g2, g3, g4⟩ := g c
      rw [wlk_all hD q f _ _ (by omega) g3 (way_ne hD hp c hU), net_tog g1, hU p hp c (Nat.le_refl _)]
      unfold bsd at g2
      unfold asd wt
      cases z : T (s.2 p) with
      | true =>
        rw [if_pos z] at g2
        rw [if_pos rfl, if_pos rfl, g2]
        omega
      | false =>
        rw [if_neg (by rw [z]; exact Bool.false_ne_true)] at g2
        rw [if_neg Bool.false_ne_true, if_neg Bool.false_ne_true, g2]
        omega
theorem net_no (v : Vil) (q : Nat) : ∀ n, net v q noT n = 0
  | 0 => rfl
  | n + 1 => by
    show net v q noT n + (if false = true then wt v q n else 0) = 0
    rw [net_no v q n, if_neg Bool.false_ne_true]
    rfl
theorem Tq_all {v : Vil} {a c q : Nat} (hv : v.ok 40) (ha : a < v.n) (hqa : a ≠ q) (hqc : c ≠ q) : ∀ j, (∀ i, i < j → rcB v a c i = true) → net v q (Tq v a c j) v.m = 0
  | 0, _ => net_no v q v.m
  | j + 1, h => by
    obtain ⟨dep, hD⟩ := spF_dep (T := Tq v a c j) hv ha
    have hs : (spF v (Tq v a c j) a).1 c = true := h j (by omega)
    have e := wlk_all hD q 16 c (Tq v a c j) (hD c hs).1 hs (fun _ _ _ _ => rfl)
    show net v q (wlkT v (Tq v a c j) (spF v (Tq v a c j) a) a 16 c (Tq v a c j)) v.m = 0
    rw [e, Tq_all hv ha hqa hqc j (fun i hi => h i (by omega)), if_neg hqa, if_neg hqc]
    rfl
def sumZ (f : Nat → Int) : Nat → Int
  | 0 => 0
  | n + 1 => sumZ f n + f n
theorem sumZ_cong {f g : Nat → Int} : ∀ {n : Nat}, (∀ i, i < n → f i = g i) → sumZ f n = sumZ g n
  | 0, _ => rfl
  | n + 1, h => by
    unfold sumZ
    rw [sumZ_cong (fun i hi => h i (by omega)), h n (by omega)]
theorem sumZ_add (f g : Nat → Int) : ∀ n, sumZ (fun i => f i + g i) n = sumZ f n + sumZ g n
  | 0 => rfl
  | n + 1 => by
    unfold sumZ
    rw [sumZ_add f g n]
    omega
theorem sumZ_0 : ∀ n, sumZ (fun _ => 0) n = 0
  | 0 => rfl
  | n + 1 => by
    unfold sumZ
    rw [sumZ_0 n]
    rfl
theorem sumZ_one {f : Nat → Int} {x : Nat} : ∀ {n : Nat}, x < n → (∀ i, i < n → i ≠ x → f i = 0) → sumZ f n = f x
  | n + 1, h, hz => by
    unfold sumZ
    by_cases e : x = n
    · subst e
      rw [sumZ_cong (g := fun _ => 0) (fun i hi => hz i (by omega) (by omega)), sumZ_0]
      omega
    · rw [sumZ_one (by omega) (fun i hi hx => hz i (by omega) hx), hz n (by omega) (fun z => e z.symm)]
      omega
def bZ (b : Bool) : Int := if b = true then 1 else 0
/-- the ties taken that lead out of a set, less those that lead into it -/
def netS (v : Vil) (S : Nat → Bool) (T : Nat → Bool) : Nat → Int
  | 0 => 0
  | n + 1 => netS v S T n + (if T n = true then bZ (S (v.fr n)) - bZ (S (v.to n)) else 0)
theorem wt_sum {v : Vil} {S : Nat → Bool} {t : Nat} (h1 : v.fr t < v.n) (h2 : v.to t < v.n) : sumZ (fun q => if S q = true then wt v q t else 0) v.n = bZ (S (v.fr t)) - bZ (S (v.to t)) := by
  have e : sumZ (fun q => if S q = true then wt v q t else 0) v.n = sumZ (fun q => (if q = v.fr t then bZ (S (v.fr t)) else 0) + (if q = v.to t then -bZ (S (v.to t)) else 0)) v.n := sumZ_cong (fun q hq => by
    have k1 : (v.fr t = q) = (q = v.fr t) := propext ⟨Eq.symm, Eq.symm⟩
    have k2 : (v.to t = q) = (q = v.to t) := propext ⟨Eq.symm, Eq.symm⟩
    unfold wt bZ
    simp only [k1, k2]
    by_cases c1 : q = v.fr t
    · by_cases c2 : q = v.to t
      · simp only [if_pos c1, if_pos c2]
        rw [← c1, ← c2]
        cases S q <;> simp
      · simp only [if_pos c1, if_neg c2]
        rw [← c1]
        cases S q <;> simp
    · by_cases c2 : q = v.to t
      · simp only [if_neg c1, if_pos c2]
        rw [← c2]
        cases S q <;> simp
      · simp only [if_neg c1, if_neg c2]
        cases S q <;> simp)
  rw [e, sumZ_add, sumZ_one h1 (fun i _ hi => if_neg hi), sumZ_one h2 (fun i _ hi => if_neg hi), if_pos rfl, if_pos rfl]
  omega
theorem net_sum {v : Vil} {S T : Nat → Bool} (h : ∀ t, t < v.m → v.fr t < v.n ∧ v.to t < v.n) : ∀ k, k ≤ v.m → sumZ (fun q => if S q = true then net v q T k else 0) v.n = netS v S T k
  | 0, _ => by
    have e : sumZ (fun q => if S q = true then net v q T 0 else 0) v.n = sumZ (fun _ => 0) v.n := sumZ_cong (fun q _ => by
      show (if S q = true then (0 : Int) else 0) = 0
      split <;> rfl)
    rw [e, sumZ_0]
    rfl
  | k + 1, hk => by
    have e : sumZ (fun q => if S q = true then net v q T (k + 1) else 0) v.n = sumZ (fun q => (if S q = true then net v q T k else 0) + (if T k = true then (if S q = true then wt v q k else 0) else 0)) v.n := sumZ_cong (fun q _ => by
      show (if S q = true then net v q T k + (if T k = true then wt v q k else 0) else 0) = _
      cases S q <;> cases T k <;> simp)
    rw [e, sumZ_add, net_sum h k (by omega)]
    show _ = netS v S T k + _
    congr 1
    cases T k with
    | true =>
      rw [if_pos rfl]
      have e2 : sumZ (fun q => if true = true then (if S q = true then wt v q k else 0) else 0) v.n = sumZ (fun q => if S q = true then wt v q k else 0) v.n := sumZ_cong (fun q _ => if_pos rfl)
      rw [e2]
      exact wt_sum (h k (by omega)).1 (h k (by omega)).2
    | false =>
      rw [if_neg Bool.false_ne_true]
      have e2 : sumZ (fun q => if false = true then (if S q = true then wt v q k else 0) else 0) v.n = sumZ (fun _ => 0) v.n := sumZ_cong (fun q _ => if_neg Bool.false_ne_true)
      rw [e2, sumZ_0]
theorem netS_cut {v : Vil} {S T : Nat → Bool} (h : cls v T S) : ∀ k, k ≤ v.m → netS v S T k = (cntB (fun t => S (v.fr t) && !S (v.to t)) k : Nat)
  | 0, _ => rfl
  | k + 1, hk => by
    show netS v S T k + _ = ((cntB (fun t => S (v.fr t) && !S (v.to t)) k + (S (v.fr k) && !S (v.to k)).toNat : Nat) : Int)
    rw [netS_cut h k (by omega)]
    have hc := h k (by omega)
    unfold asd bsd at hc
    cases c : T k with
    | true =>
      rw [if_pos c, if_pos c] at hc
      rw [if_pos rfl]
      unfold bZ
      cases a : S (v.fr k) with
      | true => cases b : S (v.to k) <;> simp
      | false =>
        cases b : S (v.to k) with
        | true =>
          rw [hc b] at a
          cases a
        | false => simp
    | false =>
      rw [if_neg (by rw [c]; exact Bool.false_ne_true), if_neg (by rw [c]; exact Bool.false_ne_true)] at hc
      rw [if_neg Bool.false_ne_true]
      cases a : S (v.fr k) with
      | true =>
        rw [hc a]
        simp
      | false => simp
/-- as many ties as ways -/
theorem cut_cnt {v : Vil} {a c N : Nat} (hv : v.ok 40) (ha : a < v.n) (hc : c ≠ a) (hA : apO v a c = some N) : cntB (cuB v a c) v.m = N := by
  obtain ⟨N', e1, -, h0, h1⟩ := apO_some hv ha hc
  rw [hA] at e1
  cases e1
  have ht : ∀ t, t < v.m → v.fr t < v.n ∧ v.to t < v.n := fun t q => ⟨(hv.2.2.2.2.2.2 t q).1, (hv.2.2.2.2.2.2 t q).2.1⟩
  have hcl : cls v (Tq v a c N) (spF v (Tq v a c N) a).1 := spF_cls hv ha
  have hin : (spF v (Tq v a c N) a).1 a = true := (rdS_I (T := Tq v a c N) hv ha 16).1
  have h0 : (spF v (Tq v a c N) a).1 c = false := h0
  have s1 := net_sum (S := (spF v (Tq v a c N) a).1) (T := Tq v a c N) ht v.m (Nat.le_refl _)
  have s2 : sumZ (fun q => if (spF v (Tq v a c N) a).1 q = true then net v q (Tq v a c N) v.m else 0) v.n = (N : Int) := by
    rw [sumZ_one ha (fun q _ hq => ?_)]
    · show (if (spF v (Tq v a c N) a).1 a = true then net v a (Tq v a c N) v.m else 0) = N
      rw [if_pos hin, Tq_net hv ha hc N h1]
    · by_cases z : (spF v (Tq v a c N) a).1 q = true
      · rw [if_pos z]
        exact Tq_all hv ha (fun e => hq e.symm) (fun e => by rw [← e, h0] at z; cases z) N h1
      · rw [if_neg z]
  have s3 := netS_cut hcl v.m (Nat.le_refl _)
  have e2 : cntB (cuB v a c) v.m = cntB (fun t => (spF v (Tq v a c N) a).1 (v.fr t) && !(spF v (Tq v a c N) a).1 (v.to t)) v.m := cntB_cong (fun t q => by rw [cuB_eq hA, decide_eq_true q, Bool.true_and])
  rw [e2]
  have : ((cntB (fun t => (spF v (Tq v a c N) a).1 (v.fr t) && !(spF v (Tq v a c N) a).1 (v.to t)) v.m : Nat) : Int) = (N : Int) := by rw [← s3, ← s1, s2]
  omega
/-- how far it is, and whether one comes there at all -/
theorem rx_some {v : Vil} {c t : Nat} {D : Nat → Option Nat} {s : Sp} (h : ∀ p, (D p).isSome = s.1 p) (p : Nat) : (rx v c D t p).isSome = (tst v noT s t).1 p := by
  have e1 : asd v noT t = v.fr t := rfl
  have e2 : bsd v noT t = v.to t := rfl
  have hf := h (v.fr t)
  have hp := h p
  unfold rx
  cases g : trg v noT s t with
  | true =>
    rw [tst_t g]
    obtain ⟨g1, g2⟩ := trg_iff.mp g
    rw [e1] at g1
    show _ = (s.1 p || decide (p = v.to t))
    by_cases q : p = v.to t
    · rw [if_pos q, decide_eq_true q, Bool.or_true]
      cases d : D (v.fr t) with
      | none =>
        rw [d, g1] at hf
        cases hf
      | some x =>
        dsimp only
        cases D p with
        | none => rfl
        | some y =>
          dsimp only
          split <;> rfl
    · rw [if_neg q, decide_eq_false q, Bool.or_false]
      exact hp
  | false =>
    rw [tst_f g]
    by_cases q : p = v.to t
    · rw [if_pos q]
      cases d : D (v.fr t) with
      | none => exact hp
      | some x =>
        dsimp only
        rw [d] at hf
        have hs : s.1 p = true := by
          cases z : s.1 p with
          | true => rfl
          | false =>
            have : trg v noT s t = true := trg_iff.mpr ⟨hf.symm, by rw [e2, ← q]; exact z⟩
            rw [this] at g
            cases g
        rw [hs]
        cases D p with
        | none => rfl
        | some y =>
          dsimp only
          split <;> rfl
    · rw [if_neg q]
      exact hp
theorem swp_some {v : Vil} {c : Nat} {D : Nat → Option Nat} {s : Sp} (h : ∀ p, (D p).isSome = s.1 p) : ∀ i p, (swp v c D i p).isSome = (swS v noT s i).1 p
  | 0, p => h p
  | i + 1, p => rx_some (swp_some h i) p
theorem rnd_some (v : Vil) (c a : Nat) : ∀ k p, (rnd v c a k p).isSome = (rdS v noT a k).1 p
  | 0, p => by
    show (if p = a then some 0 else none : Option Nat).isSome = decide (p = a)
    by_cases q : p = a
    · rw [if_pos q, decide_eq_true q]
      rfl
    · rw [if_neg q, decide_eq_false q]
      rfl
  | k + 1, p => swp_some (rnd_some v c a k) v.m p
theorem rnd_reach (v : Vil) (c a p : Nat) : (rnd v c a 16 p).isSome = (spF v noT a).1 p := rnd_some v c a 16 p
theorem apO_reach {v : Vil} {a c N : Nat} (h : apO v a c = some N) : (spF v noT a).1 c = decide (0 < N) := by
  obtain ⟨-, q2, q3⟩ := fstN_some h
  have q2 : (!rcB v a c N) = true := q2
  cases N with
  | zero =>
    have q2 : (!(spF v noT a).1 c) = true := q2
    cases z : (spF v noT a).1 c with
    | false => rfl
    | true => rw [z] at q2; cases q2
  | succ N =>
    have q3 : (!(spF v noT a).1 c) = false := q3 0 (Nat.zero_le _) (Nat.succ_pos _)
    cases z : (spF v noT a).1 c with
    | true => exact (decide_eq_true (Nat.succ_pos _)).symm
    | false => rw [z] at q3; cases q3
/-- without the ties of a cut there is no way -/
theorem less_no {v v' : Vil} {a c N : Nat} (hv : v.ok 40) (ha : a < v.n) (hc : c ≠ a) (hA : apO v a c = some N) (g : Nat → Nat) (hg : ∀ t, t < v'.m → g t < v.m ∧ cuB v a c (g t) = false ∧ v'.fr t = v.fr (g t) ∧ v'.to t = v.to (g t)) : (spF v' noT a).1 c = false := by
  obtain ⟨N', e1, -, h0, -⟩ := apO_some hv ha hc
  rw [hA] at e1
  cases e1
  have h0 : (spF v (Tq v a c N) a).1 c = false := h0
  have hin : (spF v (Tq v a c N) a).1 a = true := (rdS_I (T := Tq v a c N) hv ha 16).1
  have hS : cls v' noT (spF v (Tq v a c N) a).1 := fun t ht h => by
    obtain ⟨g1, g2, g3, g4⟩ := hg t ht
    have h : (spF v (Tq v a c N) a).1 (v'.fr t) = true := h
    show (spF v (Tq v a c N) a).1 (v'.to t) = true
    rw [g3] at h
    rw [g4]
    rw [cuB_eq hA, decide_eq_true g1, Bool.true_and, h, Bool.true_and, Bool.not_eq_false'] at g2
    exact g2
  cases z : (spF v' noT a).1 c with
  | false => rfl
  | true =>
    have := rdS_least hS hin 16 c z
    rw [h0] at this
    cases this
theorem no_way {v : Vil} {a c : Nat} (h : (spF v noT a).1 c = false) : apO v a c = some 0 := by
  refine fstN_at (Nat.zero_le _) (by omega) (fun j _ hj => absurd hj (Nat.not_lt_zero _)) ?_
  show (!(spF v noT a).1 c) = true
  rw [h]
  rfl
theorem no_soon {v : Vil} {a c k : Nat} (h : (spF v noT a).1 c = false) : rnd v k a 16 c = none := by
  have := rnd_reach v k a c
  rw [h] at this
  cases z : rnd v k a 16 c with
  | none => rfl
  | some x => rw [z] at this; cases this
