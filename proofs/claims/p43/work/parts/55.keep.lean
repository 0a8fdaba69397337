/-! A DAY of the reference is kept; days that are alike there -/
def lkS (w : Wd) (d j : Nat) : Int32 :=
  if j < 16 then (if j < w.v.n then nI (hc ((stt w d).ha 0 j) ((stt w d).ha 1 j)) else nI 0)
  else if j < 32 then (if j - 16 < w.v.n then zI ((stt w d).su (j - 16)) else nI 0)
  else if j < 48 then nI (if j - 32 < w.v.n then (stt w d).cn 0 (j - 32) else 0)
  else if j < 64 then nI (if j - 48 < w.v.n then (stt w d).cn 1 (j - 48) else 0)
  else nI ((stt w d).du ((j - 64) % 32 % 2) ((j - 64) / 32 + 1) ((j - 64) % 32 / 2))
def sgS (w : Wd) (d : Nat) : Nat → Int64
  | 0 => 0
  | n + 1 => sgS w d n * 1000003 + Int32.toInt64 (lkS w d n)
/-- what the reference knows behind a day -/
def endP (w : Wd) (d : Nat) (I : MI) : Prop := cmP w (d + 1) I ∧ (∀ s, s < 2 → ∀ p, p < 16 → I 197 (2 * p + s) = nI (if p < w.v.n then (stt w d).cn s p else 0)) ∧ ∀ p, p < w.v.n → I 190 (16 * d + p) = nI (hc ((stt w d).ha 0 p) ((stt w d).ha 1 p)) ∧ I 193 (16 * d + p) = zI ((stt w d).su p)
theorem syP_end {w : Wd} {d : Nat} {I0 I : MI} (ok : w.v.ok 41) (h : syP w d w.v.n 0 I0 I) (hp : ∀ p, p < w.v.n → perM w d p I0) : endP w d I := by
  obtain ⟨a1, a2, a3, a4, a5⟩ := h
  have dn : ∀ s p, p < w.v.n → dnS w.v.n 0 s p = true := fun s p hp => by
    unfold dnS
    rw [decide_eq_true hp, Bool.true_or]
  refine ⟨fun j hj s hs p hp' => ?_, fun s hs p hp' => ?_, fun p hp' => ?_⟩
  · obtain ⟨q1, q2⟩ := a3 (j + 1) (by omega) (by omega) s hs p hp'
    rw [show d + 1 + j = d + (j + 1) by omega, q1, q2]
    have e1 : sumN (outT w d s (j + 1) p (fun s t => dnS w.v.n 0 s (w.v.fr t))) w.v.m = sumN (fun t => if (w.v.to t = p ∧ w.v.dl s t = j + 1) ∧ goS w d (stp w d) s t = true then w.v.st t else 0) w.v.m := sumN_cong (fun t ht => by
      have := (ok.2.2.2.2.2.2 t ht).1
      unfold outT
      simp only [dn s _ this, Bool.true_and])
    have e2 : minN ((stp w d).bf s (j + 1 + 1) p) (outF w d s (j + 1) p (fun s t => dnS w.v.n 0 s (w.v.fr t))) w.v.m = minN ((stp w d).bf s (j + 1 + 1) p) (fun t => if (w.v.to t = p ∧ w.v.dl s t = j + 1) ∧ goS w d (stp w d) s t = true then w.v.fr t else 99) w.v.m := by
      refine eq_of_le_iff (fun q => ?_)
      rw [minN_iff, minN_iff]
      refine and_congr Iff.rfl (forall_congr' (fun t => imp_congr_right (fun ht => ?_)))
      have := (ok.2.2.2.2.2.2 t ht).1
      unfold outF
      simp only [dn s _ this, Bool.true_and]
    rw [e1, e2]
    show _ = nI ((stt w d).du s (j + 1) p) ∧ _ = nI ((stt w d).bf s (j + 1) p)
    rw [stt_eq]
    exact ⟨rfl, rfl⟩
  · rw [a4 s hs p hp']
    by_cases c : p < w.v.n
    · rw [if_pos c, if_pos c, dn s p c, Bool.true_and, stt_cn]
    · rw [if_neg c, if_neg c]
  · obtain ⟨q1, q2, q3, q4⟩ := hp p hp'
    rw [a1 190 (by omega), a1 193 (by omega), stt_ha, stt_ha, stt_su]
    exact ⟨q1, q4⟩
/-- a kept day -/
def lkP (w : Wd) (d : Nat) (I : MI) (L : ML) : Prop := (∀ j, j < 288 → I 200 (288 * d + j) = lkS w d j) ∧ L 201 d = sgS w d 288
theorem sgS_eq {w : Wd} {a d : Nat} : ∀ {n : Nat}, (∀ j, j < n → lkS w a j = lkS w d j) → sgS w a n = sgS w d n
  | 0, _ => rfl
  | n + 1, h => by
    unfold sgS
    rw [sgS_eq (fun j hj => h j (by omega)), h n (by omega)]
theorem lk_iff {w : Wd} (ok : w.v.ok 41) {a d : Nat} (ha : a ≤ 200) (hd : d ≤ 200) : alk w (stt w a) (stt w d) = true ↔ ∀ j, j < 288 → lkS w a j = lkS w d j := by
  have hn := ok.1.2
  have cA := fun s p => cn_le w s p a
  have cD := fun s p => cn_le w s p d
  have uA := fun p => su_le w a p
  have uD := fun p => su_le w d p
  have dA : ∀ s k p, (stt w a).du s k p ≤ 369 := fun s k p => by rw [du_T]; exact dueT_le ok s a k p (Nat.le_refl _)
  have dD : ∀ s k p, (stt w d).du s k p ≤ 369 := fun s k p => by rw [du_T]; exact dueT_le ok s d k p (Nat.le_refl _)
  have out : ∀ e s k p, s < 2 → w.v.n ≤ p → (stt w e).du s k p = 0 := fun e s k p hs hp => by
    rw [du_T]
    refine sumN_all0 (fun t ht => ?_)
    have := (ok.2.2.2.2.2.2 t ht).2.1
    unfold dueT
    rw [if_neg (by omega)]
  have hcE : ∀ h0 h1 k0 k1 : Bool, nI (hc h0 h1) = nI (hc k0 k1) ↔ h0 = k0 ∧ h1 = k1 := by decide
  unfold alk alA alD
  rw [Bool.and_eq_true, Bool.and_eq_true, allN_iff, allN_iff, allN_iff]
  constructor
  · rintro ⟨h1, h2, h3⟩ j hj
    have h1 := fun p hp => of_decide_eq_true (h1 p hp)
    have hdu : ∀ s, s < 2 → ∀ k, 1 ≤ k → ∀ p, (stt w a).du s k p = (stt w d).du s k p := by
      intro s hs k hk p
      by_cases c : p < w.v.n
      · by_cases c2 : k ≤ 6
        · rcases (by omega : s = 0 ∨ s = 1) with rfl | rfl
          · have := of_decide_eq_true (allN_iff.mp (h2 (k - 1) (by omega)) p c)
            rw [show k - 1 + 1 = k by omega] at this
            exact this
          · have := of_decide_eq_true (allN_iff.mp (h3 (k - 1) (by omega)) p c)
            rw [show k - 1 + 1 = k by omega] at this
            exact this
        · rw [du_big ok hs p a k (by omega), du_big ok hs p d k (by omega)]
      · rw [out a s k p hs (by omega), out d s k p hs (by omega)]
    unfold lkS
    by_cases c1 : j < 16
    · rw [if_pos c1, if_pos c1]
      by_cases c : j < w.v.n
      · rw [if_pos c, if_pos c, (h1 j c).1, (h1 j c).2.1]
      · rw [if_neg c, if_neg c]
    · rw [if_neg c1, if_neg c1]
      by_cases c2 : j < 32
      · rw [if_pos c2, if_pos c2]
        by_cases c : j - 16 < w.v.n
        · rw [if_pos c, if_pos c, (h1 _ c).2.2.2.2]
        · rw [if_neg c, if_neg c]
      · rw [if_neg c2, if_neg c2]
        by_cases c3 : j < 48
        · rw [if_pos c3, if_pos c3]
          by_cases c : j - 32 < w.v.n
          · rw [if_pos c, if_pos c, (h1 _ c).2.2.1]
          · rw [if_neg c, if_neg c]
        · rw [if_neg c3, if_neg c3]
          by_cases c4 : j < 64
          · rw [if_pos c4, if_pos c4]
            by_cases c : j - 48 < w.v.n
            · rw [if_pos c, if_pos c, (h1 _ c).2.2.2.1]
            · rw [if_neg c, if_neg c]
          · rw [if_neg c4, if_neg c4, hdu _ (Nat.mod_lt _ (by decide)) _ (by omega) _]
  · intro h
    have hdu : ∀ s, s < 2 → ∀ k, k < 6 → ∀ p, p < w.v.n → (stt w a).du s (k + 1) p = (stt w d).du s (k + 1) p := by
      intro s hs k hk p hp
      have := h (64 + 32 * k + 2 * p + s) (by omega)
      unfold lkS at this
      rw [if_neg (by omega), if_neg (by omega), if_neg (by omega), if_neg (by omega), if_neg (by omega), if_neg (by omega), if_neg (by omega), if_neg (by omega), show (64 + 32 * k + 2 * p + s - 64) % 32 % 2 = s by omega, show (64 + 32 * k + 2 * p + s - 64) / 32 + 1 = k + 1 by omega, show (64 + 32 * k + 2 * p + s - 64) % 32 / 2 = p by omega, n_eq (by have := dA s (k + 1) p; omega) (by have := dD s (k + 1) p; omega)] at this
      exact this
    refine ⟨fun p hp => decide_eq_true ?_, fun k hk => allN_iff.mpr (fun p hp => decide_eq_true (hdu 0 (by decide) k hk p hp)), fun k hk => allN_iff.mpr (fun p hp => decide_eq_true (hdu 1 (by decide) k hk p hp))⟩
    have q1 := h p (by omega)
    have q2 := h (16 + p) (by omega)
    have q3 := h (32 + p) (by omega)
    have q4 := h (48 + p) (by omega)
    unfold lkS at q1 q2 q3 q4
    rw [if_pos (c := p < 16) (by omega), if_pos (c := p < 16) (by omega), if_pos hp, if_pos hp, hcE] at q1
    rw [if_neg (c := 16 + p < 16) (by omega), if_neg (c := 16 + p < 16) (by omega), if_pos (c := 16 + p < 32) (by omega), if_pos (c := 16 + p < 32) (by omega), show 16 + p - 16 = p by omega, if_pos hp, if_pos hp, z_eq (by have := uA p; omega) (by have := uA p; omega) (by have := uD p; omega) (by have := uD p; omega)] at q2
    rw [if_neg (c := 32 + p < 16) (by omega), if_neg (c := 32 + p < 16) (by omega), if_neg (c := 32 + p < 32) (by omega), if_neg (c := 32 + p < 32) (by omega), if_pos (c := 32 + p < 48) (by omega), if_pos (c := 32 + p < 48) (by omega), show 32 + p - 32 = p by omega, if_pos hp, if_pos hp, n_eq (by have := cA 0 p; omega) (by have := cD 0 p; omega)] at q3
    rw [if_neg (c := 48 + p < 16) (by omega), if_neg (c := 48 + p < 16) (by omega), if_neg (c := 48 + p < 32) (by omega), if_neg (c := 48 + p < 32) (by omega), if_neg (c := 48 + p < 48) (by omega), if_neg (c := 48 + p < 48) (by omega), if_pos (c := 48 + p < 64) (by omega), if_pos (c := 48 + p < 64) (by omega), show 48 + p - 48 = p by omega, if_pos hp, if_pos hp, n_eq (by have := cA 1 p; omega) (by have := cD 1 p; omega)] at q4
    exact ⟨q1.1, q1.2, q3, q4, q2⟩
