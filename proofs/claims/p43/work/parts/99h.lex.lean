/-! TEXTS: tokens (pure) -/
def isBl (c : Nat) : Bool := decide (c = 10) || decide (c = 32)
def isLt (c : Nat) : Bool := decide (97 ≤ c) && decide (c ≤ 122)
def isDg (c : Nat) : Bool := decide (48 ≤ c) && decide (c ≤ 57)
def runF (f : Nat → Bool) (y : Nat → Nat) : Nat → Nat → Nat
  | 0, p => p
  | k + 1, p => if f (y p) = true then runF f y k (p + 1) else p
/-- where a run of such bytes ends -/
def rnT (f : Nat → Bool) (y : Nat → Nat) (n p : Nat) : Nat := runF f y (n - p) p
theorem rnT_go {f : Nat → Bool} {y : Nat → Nat} {n p : Nat} (h : p < n) (hf : f (y p) = true) : rnT f y n p = rnT f y n (p + 1) := by
  unfold rnT
  obtain ⟨k, hk⟩ : ∃ k, n - p = k + 1 := ⟨n - p - 1, by omega⟩
  rw [hk, show n - (p + 1) = k by omega]
  exact if_pos hf
theorem rnT_out {f : Nat → Bool} {y : Nat → Nat} {n p : Nat} (h : n ≤ p) : rnT f y n p = p := by
  unfold rnT
  rw [show n - p = 0 by omega]
  rfl
theorem rnT_stop {f : Nat → Bool} {y : Nat → Nat} {n p : Nat} (hf : f (y p) = false) : rnT f y n p = p := by
  by_cases h : p < n
  · unfold rnT
    obtain ⟨k, hk⟩ : ∃ k, n - p = k + 1 := ⟨n - p - 1, by omega⟩
    rw [hk]
    exact if_neg (by rw [hf]; exact Bool.false_ne_true)
  · exact rnT_out (by omega)
theorem rnT_all {f : Nat → Bool} {y : Nat → Nat} {n : Nat} : ∀ k p, p + k = n → (p ≤ rnT f y n p ∧ rnT f y n p ≤ n) ∧ (∀ q, p ≤ q → q < rnT f y n p → f (y q) = true) ∧ (rnT f y n p < n → f (y (rnT f y n p)) = false)
  | 0, p, h => by
    rw [rnT_out (by omega)]
    exact ⟨⟨Nat.le_refl _, by omega⟩, fun q h1 h2 => absurd h2 (by omega), fun q => absurd q (by omega)⟩
  | k + 1, p, h => by
    cases c : f (y p) with
    | true =>
      rw [rnT_go (by omega) c]
      obtain ⟨⟨h1, h2⟩, h3, h4⟩ := rnT_all (f := f) (y := y) (n := n) k (p + 1) (by omega)
      refine ⟨⟨by omega, h2⟩, fun q q1 q2 => ?_, h4⟩
      by_cases e : q = p
      · rw [e]
        exact c
      · exact h3 q (by omega) q2
    | false =>
      rw [rnT_stop c]
      exact ⟨⟨Nat.le_refl _, by omega⟩, fun q h1 h2 => absurd h2 (by omega), fun _ => c⟩
theorem rnT_le {f : Nat → Bool} {y : Nat → Nat} {n p : Nat} (h : p ≤ n) : p ≤ rnT f y n p ∧ rnT f y n p ≤ n := (rnT_all (n - p) p (by omega)).1
theorem rnT_in {f : Nat → Bool} {y : Nat → Nat} {n p q : Nat} (h : p ≤ n) (h1 : p ≤ q) (h2 : q < rnT f y n p) : f (y q) = true := (rnT_all (n - p) p (by omega)).2.1 q h1 h2
theorem rnT_end {f : Nat → Bool} {y : Nat → Nat} {n p : Nat} (h : p ≤ n) (h1 : rnT f y n p < n) : f (y (rnT f y n p)) = false := (rnT_all (n - p) p (by omega)).2.2 h1
theorem rnT_lt {f : Nat → Bool} {y : Nat → Nat} {n p : Nat} (h : p < n) (hf : f (y p) = true) : p < rnT f y n p := by
  rw [rnT_go h hf]
  have := (rnT_le (f := f) (y := y) (p := p + 1) (n := n) (by omega)).1
  omega
/-- where the next token begins -/
def whr (y : Nat → Nat) (n p : Nat) : Nat := rnT isBl y n p
/-- its kind: the end, letters, a number, the stop, a stray byte or row -/
def kin (y : Nat → Nat) (n w : Nat) : Nat := if n ≤ w then 0 else if isLt (y w) = true then 1 else if isDg (y w) = true then (if rnT isDg y n w ≤ w + 2 then 2 else 4) else if y w = 59 then 3 else 4
/-- where it ends -/
def nxt (y : Nat → Nat) (n w : Nat) : Nat := if n ≤ w then w else if isLt (y w) = true then rnT isLt y n w else if isDg (y w) = true then rnT isDg y n w else w + 1
def nmb (y : Nat → Nat) (n w : Nat) : Nat := if rnT isDg y n w = w + 1 then y w - 48 else 10 * (y w - 48) + (y (w + 1) - 48)
/-- the token behind it -/
def adv (y : Nat → Nat) (n w : Nat) : Nat := whr y n (nxt y n w)
theorem lt_dg {c : Nat} (h : isLt c = true) : isDg c = false := by
  unfold isLt at h
  unfold isDg
  rw [Bool.and_eq_true, decide_eq_true_iff, decide_eq_true_iff] at h
  rw [show decide (c ≤ 57) = false from decide_eq_false (by omega), Bool.and_false]
theorem nxt_le {y : Nat → Nat} {n w : Nat} (h : w ≤ n) : w ≤ nxt y n w ∧ nxt y n w ≤ n ∧ (w < n → w < nxt y n w) := by
  unfold nxt
  by_cases h0 : n ≤ w
  · rw [if_pos h0]
    exact ⟨Nat.le_refl _, h, fun q => absurd q (by omega)⟩
  · rw [if_neg h0]
    cases h1 : isLt (y w) with
    | true =>
      rw [if_pos rfl]
      have := rnT_le (f := isLt) (y := y) h
      exact ⟨this.1, this.2, fun q => rnT_lt q h1⟩
    | false =>
      rw [if_neg Bool.false_ne_true]
      cases h2 : isDg (y w) with
      | true =>
        rw [if_pos rfl]
        have := rnT_le (f := isDg) (y := y) h
        exact ⟨this.1, this.2, fun q => rnT_lt q h2⟩
      | false =>
        rw [if_neg Bool.false_ne_true]
        exact ⟨by omega, by omega, fun _ => by omega⟩
theorem adv_le {y : Nat → Nat} {n w : Nat} (h : w ≤ n) : w ≤ adv y n w ∧ adv y n w ≤ n ∧ (w < n → w < adv y n w) := by
  obtain ⟨h1, h2, h3⟩ := nxt_le (y := y) h
  obtain ⟨g1, g2⟩ := rnT_le (f := isBl) (y := y) h2
  unfold adv whr
  exact ⟨by omega, g2, fun q => by have := h3 q; omega⟩
theorem kin_lt {y : Nat → Nat} {n w : Nat} (h : kin y n w ≠ 0) : w < n := by
  unfold kin at h
  by_cases h0 : n ≤ w
  · rw [if_pos h0] at h
    exact absurd rfl h
  · omega
theorem kin_0 {y : Nat → Nat} {n w : Nat} (h : n ≤ w) : kin y n w = 0 := if_pos h
theorem kin_le (y : Nat → Nat) (n w : Nat) : kin y n w ≤ 4 := by
  unfold kin
  repeat' split
  all_goals omega
theorem kin_e0 {y : Nat → Nat} {n w : Nat} (h : kin y n w = 0) : n ≤ w := by
  unfold kin at h
  by_cases h0 : n ≤ w
  · exact h0
  · rw [if_neg h0] at h
    repeat' split at h
    all_goals cases h
theorem kin_2 {y : Nat → Nat} {n w : Nat} (h : kin y n w = 2) : w < n ∧ isDg (y w) = true ∧ rnT isDg y n w ≤ w + 2 := by
  have hw : w < n := kin_lt (by rw [h]; decide)
  unfold kin at h
  rw [if_neg (by omega)] at h
  cases h1 : isLt (y w) with
  | true =>
    rw [if_pos h1] at h
    cases h
  | false =>
    rw [if_neg (by rw [h1]; exact Bool.false_ne_true)] at h
    cases h2 : isDg (y w) with
    | true =>
      rw [if_pos h2] at h
      by_cases h3 : rnT isDg y n w ≤ w + 2
      · exact ⟨hw, rfl, h3⟩
      · rw [if_neg h3] at h
        cases h
    | false =>
      rw [if_neg (by rw [h2]; exact Bool.false_ne_true)] at h
      split at h <;> cases h
theorem kin_1 {y : Nat → Nat} {n w : Nat} : kin y n w = 1 ↔ w < n ∧ isLt (y w) = true := by
  constructor
  · intro h
    have hw : w < n := kin_lt (by rw [h]; decide)
    refine ⟨hw, ?_⟩
    unfold kin at h
    rw [if_neg (by omega)] at h
    cases h1 : isLt (y w) with
    | true => rfl
    | false =>
      rw [if_neg (by rw [h1]; exact Bool.false_ne_true)] at h
      repeat' split at h
      all_goals cases h
  · rintro ⟨h1, h2⟩
    unfold kin
    rw [if_neg (by omega), if_pos h2]
theorem dg_le {c : Nat} (h : isDg c = true) : 48 ≤ c ∧ c ≤ 57 := by
  unfold isDg at h
  rw [Bool.and_eq_true, decide_eq_true_iff, decide_eq_true_iff] at h
  exact h
theorem lt_le {c : Nat} (h : isLt c = true) : 97 ≤ c ∧ c ≤ 122 := by
  unfold isLt at h
  rw [Bool.and_eq_true, decide_eq_true_iff, decide_eq_true_iff] at h
  exact h
theorem nmb_le {y : Nat → Nat} {n w : Nat} (h : kin y n w = 2) : nmb y n w ≤ 99 := by
  obtain ⟨h1, h2, h3⟩ := kin_2 h
  have g := dg_le h2
  unfold nmb
  by_cases e : rnT isDg y n w = w + 1
  · rw [if_pos e]
    omega
  · rw [if_neg e]
    have := rnT_lt h1 h2
    have g2 := dg_le (rnT_in (f := isDg) (y := y) (n := n) (p := w) (q := w + 1) (by omega) (by omega) (by omega))
    omega
/-! words -/
def nmW : Nat → List Nat
  | 0 => [112, 101, 111, 112, 108, 101]
  | 1 => [102, 105, 114, 115, 116]
  | 2 => [108, 97, 115, 116]
  | 3 => [109, 111, 115, 116]
  | 4 => [116, 105, 108, 108]
  | 5 => [98, 111, 116, 104]
  | 6 => [111, 110, 99, 101]
  | 7 => [100, 111, 117, 98, 116]
  | 8 => [116, 105, 101]
  | 9 => [115, 108, 111, 119]
  | 10 => [116, 105, 114, 101, 115]
  | 11 => [119, 111, 114, 100]
  | 12 => [100, 101, 110, 121]
  | _ => [119, 97, 108, 108]
/-- the letters from a place on -/
def lts (y : Nat → Nat) : Nat → Nat → List Nat
  | 0, _ => []
  | k + 1, w => y w :: lts y k (w + 1)
def isW (y : Nat → Nat) (n w i : Nat) : Bool := decide (lts y (nxt y n w - w) w = nmW i)
def wrd (y : Nat → Nat) (n w : Nat) : Option Nat := fstN (isW y n w) 14 0
theorem nmW_inj : ∀ i, i < 14 → ∀ j, j < 14 → nmW i = nmW j → i = j := by decide +kernel
/-- the word of a sort of text that a token is -/
def wrdS (y : Nat → Nat) (n sort w : Nat) : Option Nat := if kin y n w = 1 then (if sort = 0 then fstN (isW y n w) 11 0 else fstN (isW y n w) 3 11) else none
theorem wrd_iff {y : Nat → Nat} {n w i : Nat} (hi : i < 14) : wrd y n w = some i ↔ isW y n w i = true := by
  constructor
  · intro h
    exact (fstN_some h).2.1
  · intro h
    refine fstN_at (Nat.zero_le _) (by omega) (fun j _ hj => ?_) h
    cases c : isW y n w j with
    | false => rfl
    | true =>
      have e1 := of_decide_eq_true c
      have e2 := of_decide_eq_true h
      have := nmW_inj j (by omega) i hi (e1.symm.trans e2)
      omega
theorem wrdS_some {y : Nat → Nat} {n sort w i : Nat} (h : wrdS y n sort w = some i) : (i < 14 ∧ (if sort = 0 then i < 11 else 11 ≤ i)) ∧ kin y n w = 1 ∧ isW y n w i = true := by
  unfold wrdS at h
  by_cases k1 : kin y n w = 1
  · rw [if_pos k1] at h
    by_cases s0 : sort = 0
    · rw [if_pos s0] at h ⊢
      obtain ⟨q1, q2, -⟩ := fstN_some h
      exact ⟨⟨by omega, by omega⟩, k1, q2⟩
    · rw [if_neg s0] at h ⊢
      obtain ⟨q1, q2, -⟩ := fstN_some h
      exact ⟨⟨by omega, by omega⟩, k1, q2⟩
  · rw [if_neg k1] at h
    cases h
theorem wrdS_none {y : Nat → Nat} {n sort w : Nat} (h : wrdS y n sort w = none) (k1 : kin y n w = 1) : ∀ i, i < 14 → (if sort = 0 then i < 11 else 11 ≤ i) → isW y n w i = false := by
  unfold wrdS at h
  rw [if_pos k1] at h
  intro i hi hs
  by_cases s0 : sort = 0
  · rw [if_pos s0] at h hs
    exact fstN_none.mp h i (Nat.zero_le _) (by omega)
  · rw [if_neg s0] at h hs
    exact fstN_none.mp h i (by omega) (by omega)
/-! letters as digits -/
def cod : List Nat → Nat → Nat
  | [], a => a
  | x :: l, a => cod l (32 * a + (x - 96))
def letL (l : List Nat) : Prop := ∀ x, x ∈ l → 97 ≤ x ∧ x ≤ 122
theorem cod_snoc (x : Nat) : ∀ l a, cod (l ++ [x]) a = 32 * cod l a + (x - 96)
  | [], a => rfl
  | z :: l, a => cod_snoc x l (32 * a + (z - 96))
theorem cod_pos : ∀ l, letL l → l ≠ [] → ∀ a, 0 < cod l a
  | [x], h, _, a => by
    have := h x (List.mem_cons_self ..)
    show 0 < 32 * a + (x - 96)
    omega
  | x :: z :: l, h, _, a => cod_pos (z :: l) (fun q hq => h q (List.mem_cons_of_mem _ hq)) (by simp) _
theorem cod_inj : ∀ k l m, l.length = k → letL l → letL m → cod l 0 = cod m 0 → l = m
  | 0, l, m, hk, hl, hm, h => by
    have e : l = [] := List.eq_nil_of_length_eq_zero hk
    subst e
    by_cases c : m = []
    · exact c.symm
    · have := cod_pos m hm c 0
      have h : 0 = cod m 0 := h
      omega
  | k + 1, l, m, hk, hl, hm, h => by
    have nl : l ≠ [] := fun e => by
      rw [e] at hk
      cases hk
    have nm : m ≠ [] := fun e => by
      have := cod_pos l hl nl 0
      rw [e] at h
      have h : cod l 0 = 0 := h
      omega
    have el := List.dropLast_concat_getLast nl
    have em := List.dropLast_concat_getLast nm
    have hx := hl _ (List.getLast_mem nl)
    have hz := hm _ (List.getLast_mem nm)
    rw [← el, ← em, cod_snoc, cod_snoc] at h
    have e1 : l.getLast nl = m.getLast nm := by omega
    have e2 : cod l.dropLast 0 = cod m.dropLast 0 := by omega
    have := cod_inj k l.dropLast m.dropLast (by rw [List.length_dropLast, hk]; rfl) (fun x hx => hl x (List.dropLast_subset _ hx)) (fun x hx => hm x (List.dropLast_subset _ hx)) e2
    rw [← el, ← em, this, e1]
theorem nmW_let : ∀ i, i < 14 → (nmW i).all (fun x => decide (97 ≤ x) && decide (x ≤ 122)) = true := by decide +kernel
theorem nmW_letL {i : Nat} (hi : i < 14) : letL (nmW i) := fun x hx => by
  have := List.all_eq_true.mp (nmW_let i hi) x hx
  rw [Bool.and_eq_true, decide_eq_true_iff, decide_eq_true_iff] at this
  exact this
theorem lts_len (y : Nat → Nat) : ∀ k w, (lts y k w).length = k
  | 0, _ => rfl
  | k + 1, w => by
    show (lts y k (w + 1)).length + 1 = k + 1
    rw [lts_len]
theorem lts_mem {y : Nat → Nat} {x : Nat} : ∀ k w, x ∈ lts y k w → ∃ q, w ≤ q ∧ q < w + k ∧ x = y q
  | k + 1, w, h => by
    rcases List.mem_cons.mp h with h | h
    · exact ⟨w, Nat.le_refl _, by omega, h⟩
    · obtain ⟨q, h1, h2, h3⟩ := lts_mem k (w + 1) h
      exact ⟨q, by omega, by omega, h3⟩
theorem lts_snoc (y : Nat → Nat) : ∀ k w, lts y (k + 1) w = lts y k w ++ [y (w + k)]
  | 0, w => rfl
  | k + 1, w => by
    show y w :: lts y (k + 1) (w + 1) = y w :: (lts y k (w + 1) ++ [y (w + (k + 1))])
    rw [lts_snoc y k (w + 1), show w + 1 + k = w + (k + 1) by omega]
theorem nmW_len : ∀ i, i < 14 → (nmW i).length ≤ 6 := by decide +kernel
