/-! WHAT THE LAW ASKS OF A RUN (pure): its ring, who holds, what was heard -/
theorem per_ha {w : Wd} (ok : w.v.ok 41) (hs : w.still) {a l : Nat} (h : rgU w 201 = some (a, l)) (j p s : Nat) (hp : p < w.v.n) (h2 : s < 2) : (stt w (a + j)).ha s p = (stt w (a + l + j)).ha s p := by
  obtain ⟨q1, q2, q3, q4⟩ := rgU_some h
  have al := (alk_iff ok).mp q4
  exact (period (fun t ht => (ok.2.2.2.2.2.2 t ht).1) hs q1 (show a < a + l by omega) al j s h2 p hp).1.1
theorem per_hd {w : Wd} (ok : w.v.ok 41) (hs : w.still) {a l : Nat} (h : rgU w 201 = some (a, l)) (j : Nat) : hdI w (a + j) = hdI w (a + l + j) := bI_cong (fun p hp => by
  unfold hold
  rw [per_ha ok hs h j p 0 hp (by decide), per_ha ok hs h j p 1 hp (by decide)])
theorem per_dn {w : Wd} (ok : w.v.ok 41) (hs : w.still) {a l : Nat} (h : rgU w 201 = some (a, l)) (j : Nat) : dnI w (a + j) = dnI w (a + l + j) := bI_cong (fun p hp => per_ha ok hs h j p 1 hp (by decide))
theorem per_d {w : Wd} (ok : w.v.ok 41) (hs : w.still) {a l d : Nat} (h : rgU w 201 = some (a, l)) (hd : a ≤ d) : hdI w d = hdI w (d + l) ∧ dnI w d = dnI w (d + l) := by
  have h1 := per_hd ok hs h (d - a)
  have h2 := per_dn ok hs h (d - a)
  rw [show a + (d - a) = d by omega, show a + l + (d - a) = d + l by omega] at h1 h2
  exact ⟨h1, h2⟩
theorem nz_f (w : Wd) (d : Nat) : nzB w d = false ↔ hdI w d = nI 0 := by
  unfold nzB
  rw [decide_eq_false_iff_not, Classical.not_not]
/-- clean just if nobody holds on the ring's days -/
theorem clean_iff {w : Wd} {a l : Nat} (h : rgU w 201 = some (a, l)) : cleanB w = true ↔ ∀ d, a ≤ d → d < a + l → hdI w d = nI 0 := by
  unfold cleanB
  rw [h]
  show (fstN (nzB w) l a).isNone = true ↔ _
  rw [Option.isNone_iff_eq_none, fstN_none]
  exact ⟨fun q d h1 h2 => (nz_f w d).mp (q d h1 h2), fun q d h1 h2 => (nz_f w d).mpr (q d h1 h2)⟩
theorem clean_no {w : Wd} (h : rgU w 201 = none) : cleanB w = false := by
  unfold cleanB
  rw [h]
  rfl
/-- who holds has not the denial -/
theorem hold_deny (w : Wd) (hn : w.v.n ≤ 32) (d : Nat) : hdI w d &&& dnI w d = nI 0 := b_ext (fun i hi => by
  rw [b_and, b_0]
  unfold hdI dnI hold
  rw [bI_bit _ hn, bI_bit _ hn]
  cases (stt w d).ha 1 i <;> simp)
/-- who has the word got it by some of it that came -/
theorem takes_word {k : Nat} {h0 h1 : Bool} {z : Int} {a c : Nat} (hk : mostOK k h0 h1 z) (h : (takes k h0 h1 z a c).1 = true) : h0 = true ∨ 0 < a := by
  unfold takes at h
  by_cases c1 : k = 1
  · rw [if_pos c1] at h
    split at h
    · exact Or.inr (by omega)
    · split at h
      · cases h
      · exact Or.inl h
  · rw [if_neg c1] at h
    by_cases c2 : k = 2
    · rw [if_pos c2] at h
      split at h
      · rename_i q
        by_cases ha : 0 < a
        · exact Or.inr ha
        · have ha0 : a = 0 := by omega
          subst ha0
          by_cases hz : 0 < z
          · exact Or.inl ((hk.2 c2).1 hz).1
          · exfalso
            unfold clampI at q
            split at q
            · omega
            · split at q
              · omega
              · omega
      · split at h
        · cases h
        · exact Or.inl h
    · rw [if_neg c2] at h
      by_cases c3 : k = 3
      · rw [if_pos c3] at h
        split at h
        · cases h
        · split at h
          · exact Or.inl h
          · split at h
            · rename_i q
              exact Or.inr q
            · exact Or.inl h
      · rw [if_neg c3] at h
        by_cases c4 : k = 4
        · rw [if_pos c4] at h
          have h : (h0 || decide (0 < a)) = true := h
          rw [Bool.or_eq_true, decide_eq_true_iff] at h
          exact h
        · rw [if_neg c4] at h
          split at h
          · exact Or.inl h
          · rename_i q
            split at h
            · rename_i q2
              refine Or.inr ?_
              have : ¬ a + c = 0 := fun e => q (Or.inr (Or.inr e))
              omega
            · cases h
theorem hrd_cam {w : Wd} {d : Nat} {S : St} {s p : Nat} (h : 0 < hrdS w d S s p) : 0 < camS w d S s p := by
  unfold hrdS at h
  split at h
  · exact absurd h (Nat.lt_irrefl 0)
  · exact h
theorem word_came (w : Wd) (p : Nat) : ∀ d, (stt w d).ha 0 p = true → ∃ e, e ≤ d ∧ 0 < camS w e (stp w e) 0 p := by
  intro d
  induction d with
  | zero =>
    intro h
    have h : (takes (w.v.kd p) false false 0 (hrdS w 0 st0 0 p) (hrdS w 0 st0 1 p)).1 = true := h
    rcases takes_word (most_stp w p 0) h with h | h
    · cases h
    · exact ⟨0, Nat.le_refl _, hrd_cam h⟩
  | succ d ih =>
    intro h
    have h : (takes (w.v.kd p) ((stt w d).ha 0 p) ((stt w d).ha 1 p) ((stt w d).su p) (hrdS w (d + 1) (stt w d) 0 p) (hrdS w (d + 1) (stt w d) 1 p)).1 = true := h
    rcases takes_word (most_stp w p (d + 1)) h with h | h
    · obtain ⟨e, h1, h2⟩ := ih h
      exact ⟨e, by omega, h2⟩
    · exact ⟨d + 1, Nat.le_refl _, hrd_cam h⟩
theorem held_pos (w : Wd) (p : Nat) : ∀ n, 0 < heldN w p n ↔ anyN n (fun e => hold w e p) = true
  | 0 => by simp [heldN, anyN]
  | n + 1 => by
    have ih := held_pos w p n
    show 0 < heldN w p n + (hold w n p).toNat ↔ (anyN n (fun e => hold w e p) || hold w n p) = true
    rw [Bool.or_eq_true, ← ih]
    cases hold w n p with
    | true => simp
    | false => simp
/-- who holds by a day heard it by then -/
theorem held_heard {w : Wd} {p n : Nat} (hn : n ≤ 201) (h : 0 < heldN w p n) : ∃ e, hon w 0 p 201 = some e ∧ e < n := by
  obtain ⟨d, hd, hh⟩ := anyN_iff.mp ((held_pos w p n).mp h)
  have hw : (stt w d).ha 0 p = true := by
    have hh : ((stt w d).ha 0 p && !(stt w d).ha 1 p) = true := hh
    rw [Bool.and_eq_true] at hh
    exact hh.1
  obtain ⟨e, h1, h2⟩ := word_came w p d hw
  cases c : hon w 0 p 201 with
  | none =>
    have := fstN_none.mp c e (Nat.zero_le _) (by omega)
    have this : decide (0 < camS w e (stp w e) 0 p) = false := this
    rw [decide_eq_true h2] at this
    cases this
  | some e' =>
    refine ⟨e', rfl, ?_⟩
    obtain ⟨-, -, h3⟩ := fstN_some c
    by_cases q : e < e'
    · have := h3 e (Nat.zero_le _) q
      have this : decide (0 < camS w e (stp w e) 0 p) = false := this
      rw [decide_eq_true h2] at this
      cases this
    · omega
/-- how long a chain is: a number -/
theorem chS_n (w : Wd) : ∀ (u : Nat) (S : Nat → Bool) (m : Nat) (o : Option Nat), m + u < 1000 → ∃ k, k < 1000 ∧ chS w nM u S m o = nI k
  | 0, S, m, o, h => ⟨m, by omega, by unfold chS endV; rw [if_pos rfl]⟩
  | u + 1, S, m, none, h => ⟨m, by omega, by unfold chS endV; rw [if_pos rfl]⟩
  | u + 1, S, m, some q, h => by
    have hne : ¬ nI m = nM := by
      rw [n_eqm (by omega)]
      exact not_false
    unfold chS
    rw [if_neg hne]
    split
    · exact ⟨m + 1, by omega, by unfold endV; rw [if_pos rfl]⟩
    · exact chS_n w u _ (m + 1) _ (by omega)
/-- those who hold by a day are among those who ever hold -/
theorem ev_sub {w : Wd} (hn : w.v.n ≤ 32) {N M : Nat} (h : N ≤ M) : evI w N &&& (evI w M ^^^ nM) = nI 0 := b_ext (fun i hi => by
  rw [b_and, b_xor, b_m1 i hi, b_0]
  unfold evI
  rw [bI_bit _ hn, bI_bit _ hn]
  cases c : anyN N (fun e => hold w e i) with
  | false => simp
  | true =>
    obtain ⟨e, he, hh⟩ := anyN_iff.mp c
    have : anyN M (fun e => hold w e i) = true := anyN_iff.mpr ⟨e, by omega, hh⟩
    rw [this]
    simp)
theorem ev_bit {w : Wd} (hn : w.v.n ≤ 32) {N p : Nat} (hp : p < w.v.n) : bt (evI w N) p = decide (0 < heldN w p N) := by
  unfold evI
  rw [bI_bit _ hn, decide_eq_true hp, Bool.true_and]
  cases c : anyN N (fun e => hold w e p) with
  | true => exact (decide_eq_true ((held_pos w p N).mpr c)).symm
  | false => exact (decide_eq_false (fun q => by rw [(held_pos w p N).mp q] at c; cases c)).symm
