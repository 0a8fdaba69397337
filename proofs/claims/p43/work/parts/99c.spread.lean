/-! WAYS: whom one comes to, by ties forward, by taken ones back (pure) -/
abbrev Sp : Type := (Nat → Bool) × (Nat → Nat)
def asd (v : Vil) (T : Nat → Bool) (t : Nat) : Nat := if T t = true then v.to t else v.fr t
def bsd (v : Vil) (T : Nat → Bool) (t : Nat) : Nat := if T t = true then v.fr t else v.to t
def trg (v : Vil) (T : Nat → Bool) (s : Sp) (t : Nat) : Bool := s.1 (asd v T t) && !s.1 (bsd v T t)
def tst (v : Vil) (T : Nat → Bool) (s : Sp) (t : Nat) : Sp := if trg v T s t = true then (fun p => s.1 p || decide (p = bsd v T t), fun p => if p = bsd v T t then t else s.2 p) else s
def swS (v : Vil) (T : Nat → Bool) (s : Sp) : Nat → Sp
  | 0 => s
  | i + 1 => tst v T (swS v T s i) i
def rdS (v : Vil) (T : Nat → Bool) (a : Nat) : Nat → Sp
  | 0 => (fun p => decide (p = a), fun _ => 0)
  | k + 1 => swS v T (rdS v T a k) v.m
def spF (v : Vil) (T : Nat → Bool) (a : Nat) : Sp := rdS v T a 16
/-- whether anybody was come to in a sweep -/
def spC (v : Vil) (T : Nat → Bool) (s : Sp) : Nat → Bool
  | 0 => false
  | i + 1 => spC v T s i || trg v T (swS v T s i) i
theorem tst_t {v : Vil} {T : Nat → Bool} {s : Sp} {t : Nat} (h : trg v T s t = true) : tst v T s t = (fun p => s.1 p || decide (p = bsd v T t), fun p => if p = bsd v T t then t else s.2 p) := if_pos h
theorem tst_f {v : Vil} {T : Nat → Bool} {s : Sp} {t : Nat} (h : trg v T s t = false) : tst v T s t = s := if_neg (by rw [h]; exact Bool.false_ne_true)
theorem tst_mono {v : Vil} {T : Nat → Bool} {s : Sp} {t p : Nat} (h : s.1 p = true) : (tst v T s t).1 p = true := by
  cases c : trg v T s t with
  | true =>
    rw [tst_t c]
    show (s.1 p || _) = true
    rw [h]
    rfl
  | false =>
    rw [tst_f c]
    exact h
theorem swS_mono {v : Vil} {T : Nat → Bool} {s : Sp} {p : Nat} (h : s.1 p = true) : ∀ i, (swS v T s i).1 p = true
  | 0 => h
  | i + 1 => tst_mono (swS_mono h i)
theorem trg_iff {v : Vil} {T : Nat → Bool} {s : Sp} {t : Nat} : trg v T s t = true ↔ s.1 (asd v T t) = true ∧ s.1 (bsd v T t) = false := by
  unfold trg
  rw [Bool.and_eq_true, Bool.not_eq_true']
theorem spC_f {v : Vil} {T : Nat → Bool} {s : Sp} : ∀ i, spC v T s i = false → swS v T s i = s ∧ ∀ t, t < i → trg v T s t = false
  | 0, _ => ⟨rfl, fun t h => absurd h (Nat.not_lt_zero _)⟩
  | i + 1, h => by
    have h : (spC v T s i || trg v T (swS v T s i) i) = false := h
    rw [Bool.or_eq_false_iff] at h
    obtain ⟨g1, g2⟩ := spC_f i h.1
    rw [g1] at h
    refine ⟨?_, fun t ht => ?_⟩
    · show tst v T (swS v T s i) i = s
      rw [g1]
      exact tst_f h.2
    · by_cases c : t = i
      · rw [c]
        exact h.2
      · exact g2 t (by omega)
theorem spC_t {v : Vil} {T : Nat → Bool} {s : Sp} : ∀ i, spC v T s i = true → ∃ t, t < i ∧ s.1 (bsd v T t) = false ∧ (swS v T s i).1 (bsd v T t) = true
  | i + 1, h => by
    have h : (spC v T s i || trg v T (swS v T s i) i) = true := h
    rw [Bool.or_eq_true] at h
    rcases h with h | h
    · obtain ⟨t, g1, g2, g3⟩ := spC_t i h
      exact ⟨t, by omega, g2, tst_mono g3⟩
    · refine ⟨i, by omega, ?_, ?_⟩
      · have := (trg_iff.mp h).2
        cases c : s.1 (bsd v T i) with
        | false => rfl
        | true =>
          rw [swS_mono c i] at this
          cases this
      · show (tst v T (swS v T s i) i).1 (bsd v T i) = true
        rw [tst_t h]
        show (_ || decide (bsd v T i = bsd v T i)) = true
        rw [decide_eq_true rfl, Bool.or_true]
theorem cnt_lt {f g : Nat → Bool} (h : ∀ p, f p = true → g p = true) : ∀ {n p : Nat}, p < n → f p = false → g p = true → cntB f n < cntB g n
  | n + 1, p, hp, h1, h2 => by
    have le : ∀ n, cntB f n ≤ cntB g n := by
      intro n
      induction n with
      | zero => exact Nat.le_refl _
      | succ n ih =>
        show cntB f n + (f n).toNat ≤ cntB g n + (g n).toNat
        have : (f n).toNat ≤ (g n).toNat := by
          cases c : f n with
          | false => exact Nat.zero_le _
          | true =>
            rw [h n c]
            exact Nat.le_refl _
        omega
    show cntB f n + (f n).toNat < cntB g n + (g n).toNat
    by_cases c : p = n
    · subst c
      rw [h1, h2]
      have := le p
      show cntB f p + 0 < cntB g p + 1
      omega
    · have := cnt_lt h (n := n) (p := p) (by omega) h1 h2
      have : (f n).toNat ≤ (g n).toNat := by
        cases c : f n with
        | false => exact Nat.zero_le _
        | true =>
          rw [h n c]
          exact Nat.le_refl _
      omega
/-- what is known of all come to -/
def spI (v : Vil) (T : Nat → Bool) (a : Nat) (s : Sp) : Prop := s.1 a = true ∧ (∀ p, s.1 p = true → p < v.n) ∧ ∃ dep : Nat → Nat, ∀ p, s.1 p = true → dep p < cntB s.1 v.n ∧ (p ≠ a → s.2 p < v.m ∧ bsd v T (s.2 p) = p ∧ s.1 (asd v T (s.2 p)) = true ∧ dep p = dep (asd v T (s.2 p)) + 1)
theorem sd_lt {v : Vil} (hv : v.ok 40) (T : Nat → Bool) {t : Nat} (ht : t < v.m) : asd v T t < v.n ∧ bsd v T t < v.n := by
  obtain ⟨z1, z2, -⟩ := hv.2.2.2.2.2.2 t ht
  unfold asd bsd
  split
  · exact ⟨z2, z1⟩
  · exact ⟨z1, z2⟩
theorem tst_I {v : Vil} {T : Nat → Bool} {a t : Nat} {s : Sp} (hv : v.ok 40) (ht : t < v.m) (h : spI v T a s) : spI v T a (tst v T s t) := by
  cases c : trg v T s t with
  | false =>
    rw [tst_f c]
    exact h
  | true =>
    obtain ⟨h1, h2, dep, h3⟩ := h
    obtain ⟨c1, c2⟩ := trg_iff.mp c
    rw [tst_t c]
    have nb : ∀ p, s.1 p = true → p ≠ bsd v T t := fun p hp e => by
      rw [e, c2] at hp
      cases hp
    have lt : cntB s.1 v.n < cntB (fun p => s.1 p || decide (p = bsd v T t)) v.n := cnt_lt (fun p hp => by rw [hp]; rfl) (sd_lt hv T ht).2 c2 (by rw [decide_eq_true rfl, Bool.or_true])
    refine ⟨by show (s.1 a || _) = true; rw [h1]; rfl, fun p hp => ?_, fun p => if p = bsd v T t then dep (asd v T t) + 1 else dep p, fun p hp => ?_⟩
    · have hp : (s.1 p || decide (p = bsd v T t)) = true := hp
      rw [Bool.or_eq_true, decide_eq_true_iff] at hp
      rcases hp with hp | hp
      · exact h2 p hp
      · rw [hp]
        exact (sd_lt hv T ht).2
    · have hp : (s.1 p || decide (p = bsd v T t)) = true := hp
      rw [Bool.or_eq_true, decide_eq_true_iff] at hp
      show (if p = bsd v T t then dep (asd v T t) + 1 else dep p) < cntB (fun p => s.1 p || decide (p = bsd v T t)) v.n ∧ (p ≠ a → (if p = bsd v T t then t else s.2 p) < v.m ∧ bsd v T (if p = bsd v T t then t else s.2 p) = p ∧ (s.1 (asd v T (if p = bsd v T t then t else s.2 p)) || _) = true ∧ (if p = bsd v T t then dep (asd v T t) + 1 else dep p) = (if asd v T (if p = bsd v T t then t else s.2 p) = bsd v T t then dep (asd v T t) + 1 else dep (asd v T (if p = bsd v T t then t else s.2 p))) + 1)
      by_cases e : p = bsd v T t
      · rw [if_pos e, if_pos e, if_neg (nb _ c1), c1]
        have := (h3 _ c1).1
        exact ⟨by omega, fun _ => ⟨ht, e.symm, rfl, rfl⟩⟩
      · rw [if_neg e, if_neg e]
        have hp : s.1 p = true := hp.elim id (fun z => absurd z e)
        obtain ⟨g1, g2⟩ := h3 p hp
        refine ⟨by omega, fun ha => ?_⟩
        obtain ⟨g3, g4, g5, g6⟩ := g2 ha
        rw [if_neg (nb _ g5), g5]
        exact ⟨g3, g4, rfl, g6⟩
theorem swS_I {v : Vil} {T : Nat → Bool} {a : Nat} {s : Sp} (hv : v.ok 40) (h : spI v T a s) : ∀ i, i ≤ v.m → spI v T a (swS v T s i)
  | 0, _ => h
  | i + 1, hi => tst_I hv (by omega) (swS_I hv h i (by omega))
theorem rdS_I {v : Vil} {T : Nat → Bool} {a : Nat} (hv : v.ok 40) (ha : a < v.n) : ∀ k, spI v T a (rdS v T a k)
  | 0 => by
    refine ⟨decide_eq_true rfl, fun p hp => ?_, fun _ => 0, fun p hp => ?_⟩
    · have hp : decide (p = a) = true := hp
      rw [of_decide_eq_true hp]
      exact ha
    · have hp : decide (p = a) = true := hp
      refine ⟨?_, fun z => absurd (of_decide_eq_true hp) z⟩
      have := cnt_lt (f := fun _ => false) (g := fun p => decide (p = a)) (fun _ h => by cases h) ha rfl (decide_eq_true rfl)
      show 0 < cntB (fun p => decide (p = a)) v.n
      omega
  | k + 1 => swS_I hv (rdS_I hv ha k) v.m (Nat.le_refl _)
/-- nothing goes on -/
theorem rdS_st {v : Vil} {T : Nat → Bool} {a k : Nat} (h : rdS v T a (k + 1) = rdS v T a k) : ∀ j, rdS v T a (k + j) = rdS v T a k
  | 0 => rfl
  | j + 1 => by
    show swS v T (rdS v T a (k + j)) v.m = _
    rw [rdS_st h j]
    exact h
theorem rdS_spF {v : Vil} {T : Nat → Bool} {a k : Nat} (hk : k ≤ 16) (h : rdS v T a (k + 1) = rdS v T a k) : spF v T a = rdS v T a k := by
  have := rdS_st h (16 - k)
  rw [show k + (16 - k) = 16 by omega] at this
  exact this
theorem rdS_cnt {v : Vil} {T : Nat → Bool} {a : Nat} (hv : v.ok 40) (ha : a < v.n) : ∀ k, (∀ j, j < k → spC v T (rdS v T a j) v.m = true) → k + 1 ≤ cntB (rdS v T a k).1 v.n
  | 0, _ => by
    have := cnt_lt (f := fun _ => false) (g := fun p => decide (p = a)) (fun _ h => by cases h) ha rfl (decide_eq_true rfl)
    show 1 ≤ cntB (fun p => decide (p = a)) v.n
    omega
  | k + 1, h => by
    have g := rdS_cnt hv ha k (fun j hj => h j (by omega))
    obtain ⟨t, t1, t2, t3⟩ := spC_t v.m (h k (by omega))
    have := cnt_lt (f := (rdS v T a k).1) (g := (rdS v T a (k + 1)).1) (fun p hp => swS_mono hp v.m) (sd_lt hv T t1).2 t2 t3
    omega
theorem spF_st {v : Vil} {T : Nat → Bool} {a : Nat} (hv : v.ok 40) (ha : a < v.n) : ∀ t, t < v.m → trg v T (spF v T a) t = false := by
  have hn := hv.1.2
  have ex : ∃ k, k ≤ 15 ∧ spC v T (rdS v T a k) v.m = false := by
    refine Decidable.byContradiction (fun q => ?_)
    have all : ∀ j, j < 16 → spC v T (rdS v T a j) v.m = true := fun j hj => by
      cases c : spC v T (rdS v T a j) v.m with
      | true => rfl
      | false => exact absurd ⟨j, by omega, c⟩ q
    have := rdS_cnt hv ha 16 all
    have := cntB_le (rdS v T a 16).1 v.n
    omega
  obtain ⟨k, hk, c⟩ := ex
  obtain ⟨g1, g2⟩ := spC_f v.m c
  rw [rdS_spF (by omega) g1]
  exact g2
/-- the same seen, then all is the same -/
theorem swS_same {v : Vil} {T : Nat → Bool} {s : Sp} (h : ∀ t, t < v.m → (swS v T s v.m).1 (bsd v T t) = s.1 (bsd v T t)) : swS v T s v.m = s := by
  cases c : spC v T s v.m with
  | false => exact (spC_f v.m c).1
  | true =>
    obtain ⟨t, t1, t2, t3⟩ := spC_t v.m c
    rw [h t t1, t2] at t3
    cases t3
/-- those come to are all whom closed sets have -/
def cls (v : Vil) (T : Nat → Bool) (S : Nat → Bool) : Prop := ∀ t, t < v.m → S (asd v T t) = true → S (bsd v T t) = true
theorem spF_cls {v : Vil} {T : Nat → Bool} {a : Nat} (hv : v.ok 40) (ha : a < v.n) : cls v T (spF v T a).1 := fun t ht h => by
  have := spF_st (T := T) hv ha t ht
  cases c : (spF v T a).1 (bsd v T t) with
  | true => rfl
  | false =>
    rw [trg_iff.mpr ⟨h, c⟩] at this
    cases this
theorem tst_least {v : Vil} {T S : Nat → Bool} {s : Sp} {t : Nat} (hS : cls v T S) (ht : t < v.m) (h : ∀ p, s.1 p = true → S p = true) : ∀ p, (tst v T s t).1 p = true → S p = true := by
  intro p hp
  cases c : trg v T s t with
  | false =>
    rw [tst_f c] at hp
    exact h p hp
  | true =>
    rw [tst_t c] at hp
    have hp : (s.1 p || decide (p = bsd v T t)) = true := hp
    rw [Bool.or_eq_true, decide_eq_true_iff] at hp
    rcases hp with hp | hp
    · exact h p hp
    · rw [hp]
      exact hS t ht (h _ (trg_iff.mp c).1)
theorem swS_least {v : Vil} {T S : Nat → Bool} {s : Sp} (hS : cls v T S) (h : ∀ p, s.1 p = true → S p = true) : ∀ i, i ≤ v.m → ∀ p, (swS v T s i).1 p = true → S p = true
  | 0, _ => h
  | i + 1, hi => tst_least hS (by omega) (swS_least hS h i (by omega))
theorem rdS_least {v : Vil} {T S : Nat → Bool} {a : Nat} (hS : cls v T S) (ha : S a = true) : ∀ k p, (rdS v T a k).1 p = true → S p = true
  | 0, p, hp => by
    have hp : decide (p = a) = true := hp
    rw [of_decide_eq_true hp]
    exact ha
  | k + 1, p, hp => swS_least hS (fun p hp => rdS_least hS ha k p hp) v.m (Nat.le_refl _) p hp
def noT : Nat → Bool := fun _ => false
def alT : Nat → Bool := fun _ => true
/-- forward from the one to the other just if back from the other to the one -/
theorem spF_back {v : Vil} {p q : Nat} (hv : v.ok 40) (hp : p < v.n) (hq : q < v.n) : (spF v noT q).1 p = (spF v alT p).1 q := by
  have one : ∀ (T U : Nat → Bool) (a c : Nat), (∀ t, asd v T t = bsd v U t) → (∀ t, bsd v T t = asd v U t) → a < v.n → c < v.n → (spF v T a).1 c = true → (spF v U c).1 a = true := by
    intro T U a c e1 e2 ha hc h
    cases z : (spF v U c).1 a with
    | true => rfl
    | false =>
      have hS : cls v T (fun x => !(spF v U c).1 x) := fun t ht g => by
        cases y : (spF v U c).1 (bsd v T t) with
        | false =>
          show (!(spF v U c).1 (bsd v T t)) = true
          rw [y]
          rfl
        | true =>
          rw [e2] at y
          have := spF_cls (T := U) hv hc t ht y
          rw [← e1] at this
          have g : (!(spF v U c).1 (asd v T t)) = true := g
          rw [this] at g
          cases g
      have := rdS_least hS (a := a) (by show (!(spF v U c).1 a) = true; rw [z]; rfl) 16 c h
      have this : (!(spF v U c).1 c) = true := this
      have cc : (spF v U c).1 c = true := (rdS_I (T := U) hv hc 16).1
      rw [cc] at this
      cases this
  have e1 : ∀ t, asd v noT t = bsd v alT t := fun t => rfl
  have e2 : ∀ t, bsd v noT t = asd v alT t := fun t => rfl
  cases c : (spF v noT q).1 p with
  | true => exact (one noT alT q p e1 e2 hq hp c).symm
  | false =>
    cases d : (spF v alT p).1 q with
    | false => rfl
    | true =>
      rw [one alT noT p q (fun t => (e2 t).symm) (fun t => (e1 t).symm) hp hq d] at c
      cases c
