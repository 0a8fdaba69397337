/-! WAYS: a village alone; loud -/
/-- the village asked, in the class's cells -/
theorem c_vil {B : Bk} {a1 : Int32} {I : MI} (ok : B.ok) (hc : bkC 1 B I) (h : inR a1 B.nv = true) : vp_in a1 2 ∧ (B.vl a1.toNatClampNeg).ok 40 ∧ (2 + 4 + 7 * a1.toNatClampNeg) + 6 < 36 ∧ vilC (2 + 4 + 7 * a1.toNatClampNeg) (B.vl a1.toNatClampNeg) I := by
  have h1 := ok.1.1
  obtain ⟨k, hk, rfl⟩ := (inR_iff (by omega)).mp h
  have ek : (nI k).toNatClampNeg = k := n_cl (by omega)
  rw [ek]
  refine ⟨by rw [n_in (by omega)]; omega, ok.2.2.1 k hk, by omega, ?_⟩
  have := hc.2.2.1 k hk
  rw [show 1 + 5 + 7 * k = 2 + 4 + 7 * k by omega] at this
  exact this
/-- to how many others ties lead from one -/
def ldB (v : Vil) (p i q : Nat) : Bool := anyN i (fun t => decide (v.fr t = p) && decide (v.to t = q))
def ldE (v : Vil) (p : Nat) : Nat := cntB (ldB v p v.m) v.n
theorem or_bit {x : Int32} {n q : Nat} {f : Nat → Bool} (hn : n ≤ 32) (hq : q < n) (hx : x = bI n f) : x ||| nI (2 ^ q) = bI n (fun i => f i || decide (q = i)) := by
  subst hx
  refine bI_of hn (fun i hi => ?_)
  rw [b_or, bI_bit f hn, b_2p hi]
  by_cases c : i < n
  · rw [decide_eq_true c, Bool.true_and, Bool.true_and]
  · rw [decide_eq_false c, Bool.false_and, Bool.false_and, decide_eq_false (by omega)]
    rfl
theorem ldB_s (v : Vil) (p i q : Nat) : ldB v p (i + 1) q = (ldB v p i q || (decide (v.fr i = p) && decide (v.to i = q))) := rfl
theorem gsN_max {e : Nat → Nat} : ∀ {n j : Nat}, gsN e n = some j → ∀ i, i < n → e i ≤ e j
  | n + 1, j, h, i, hi => by
    obtain ⟨n1, n2⟩ := gsN_next (e := e) (n := n)
    cases q : gsN e n with
    | none =>
      rw [n1 q] at h
      cases h
      have : n = 0 := by
        rcases Nat.eq_zero_or_pos n with z | z
        · exact z
        · obtain ⟨j, hj⟩ := gsN_some (e := e) z
          rw [q] at hj
          cases hj
      rw [show i = n by omega]
      exact Nat.le_refl _
    | some z =>
      have := gsN_max q
      rw [n2 z q] at h
      split at h
      · cases h
        rcases (by omega : i = n ∨ i < n) with r | r
        · rw [r]
          exact Nat.le_refl _
        · have := this i r
          omega
      · cases h
        rcases (by omega : i = n ∨ i < n) with r | r
        · rw [r]
          omega
        · exact this i r
theorem ldE_pos {v : Vil} (hv : v.ok 40) (hm : 0 < v.m) : v.fr 0 < v.n ∧ 0 < ldE v (v.fr 0) := by
  obtain ⟨z1, z2, -⟩ := hv.2.2.2.2.2.2 0 hm
  refine ⟨z1, ?_⟩
  have hb : ldB v (v.fr 0) v.m (v.to 0) = true := anyN_iff.mpr ⟨0, hm, by rw [decide_eq_true rfl, decide_eq_true rfl]; rfl⟩
  have pos : ∀ (f : Nat → Bool) n q, q < n → f q = true → 0 < cntB f n := by
    intro f n
    induction n with
    | zero => intro q h; omega
    | succ n ih =>
      intro q h hf
      show 0 < cntB f n + (f n).toNat
      by_cases c : q = n
      · subst c
        rw [hf]
        exact Nat.succ_pos _
      · have := ih q (by omega) hf
        omega
  exact pos _ _ _ z2 hb
theorem ldE_0 {v : Vil} (h : v.m = 0) (p : Nat) : ldE v p = 0 := by
  unfold ldE
  rw [h]
  have z : ∀ n, cntB (ldB v p 0) n = 0 := by
    intro n
    induction n with
    | zero => rfl
    | succ n ih =>
      show cntB (ldB v p 0) n + 0 = 0
      rw [ih]
  exact z _
/-- the class's best one: with a number above 0 alone -/
def ldI (e : Nat → Nat) : Option Nat → Int32
  | none => nM
  | some j => if e j = 0 then nM else nI j
def ldV (e : Nat → Nat) : Option Nat → Nat
  | none => 0
  | some j => e j
