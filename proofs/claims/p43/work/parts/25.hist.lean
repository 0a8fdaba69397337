/-! WHAT IS TO COME, by what went; days that are alike -/
theorem sumN_add (f g : Nat → Nat) : ∀ n, sumN (fun t => f t + g t) n = sumN f n + sumN g n
  | 0 => rfl
  | n + 1 => by
    unfold sumN
    rw [sumN_add f g n]
    omega
theorem sumN_cong {f g : Nat → Nat} : ∀ {n : Nat}, (∀ i, i < n → f i = g i) → sumN f n = sumN g n
  | 0, _ => rfl
  | n + 1, h => by
    unfold sumN
    rw [sumN_cong (fun i hi => h i (by omega)), h n (by omega)]
theorem sumN_zero : ∀ (n : Nat), sumN (fun _ => 0) n = 0
  | 0 => rfl
  | n + 1 => by
    unfold sumN
    rw [sumN_zero n]
theorem sumN_le {f : Nat → Nat} {c : Nat} : ∀ {n : Nat}, (∀ i, i < n → f i ≤ c) → sumN f n ≤ n * c
  | 0, _ => Nat.zero_le _
  | n + 1, h => by
    unfold sumN
    have := sumN_le (n := n) (fun i hi => h i (by omega))
    have := h n (by omega)
    rw [Nat.succ_mul]
    omega
theorem minN_iff {z : Nat} {f : Nat → Nat} {x : Nat} : ∀ {n : Nat}, x ≤ minN z f n ↔ x ≤ z ∧ ∀ i, i < n → x ≤ f i
  | 0 => by simp [minN]
  | n + 1 => by
    have ih := minN_iff (z := z) (f := f) (x := x) (n := n)
    unfold minN
    constructor
    · intro h
      have h1 : x ≤ minN z f n ∧ x ≤ f n := by split at h <;> omega
      refine ⟨(ih.mp h1.1).1, fun i hi => ?_⟩
      by_cases q : i = n
      · subst q; exact h1.2
      · exact (ih.mp h1.1).2 i (by omega)
    · intro h
      have h1 := ih.mpr ⟨h.1, fun i hi => h.2 i (by omega)⟩
      have h2 := h.2 n (by omega)
      split <;> omega
theorem eq_of_le_iff {a b : Nat} (h : ∀ x, x ≤ a ↔ x ≤ b) : a = b := Nat.le_antisymm ((h a).mp (Nat.le_refl _)) ((h b).mpr (Nat.le_refl _))
theorem du_hist (w : Wd) (s p : Nat) : ∀ d k, (stt w d).du s k p = sumN (fun t => if (w.v.to t = p ∧ k ≤ w.v.dl s t ∧ w.v.dl s t ≤ d + k) ∧ went w s (d + k - w.v.dl s t) t = true then w.v.st t else 0) w.v.m := by
  intro d
  induction d with
  | zero =>
    intro k
    show 0 + sumN _ _ = _
    rw [Nat.zero_add]
    refine sumN_cong (fun t ht => ?_)
    by_cases h : w.v.dl s t = k
    · have e : 0 + k - w.v.dl s t = 0 := by omega
      rw [e]
      by_cases h2 : w.v.to t = p
      · simp only [h, h2, true_and, and_true, Nat.le_refl, Nat.zero_add]
        rfl
      · simp [h2]
    · rw [if_neg (by intro q; exact h q.1.2), if_neg (by intro q; omega)]
  | succ d ih =>
    intro k
    show (stt w d).du s (k + 1) p + sumN _ _ = _
    rw [ih (k + 1), ← sumN_add]
    refine sumN_cong (fun t ht => ?_)
    by_cases h : w.v.dl s t = k
    · have e : d + 1 + k - w.v.dl s t = d + 1 := by omega
      rw [e, if_neg (by intro q; omega), Nat.zero_add]
      by_cases h2 : w.v.to t = p
      · have h3 : k ≤ d + 1 + k := by omega
        simp only [h, h2, true_and, and_true, Nat.le_refl, h3]
        rfl
      · simp [h2]
    · rw [if_neg (c := (w.v.to t = p ∧ w.v.dl s t = k) ∧ _) (by intro q; exact h q.1.2), Nat.add_zero]
      have e : d + (k + 1) - w.v.dl s t = d + 1 + k - w.v.dl s t := by omega
      rw [e]
      by_cases h2 : (w.v.to t = p ∧ k ≤ w.v.dl s t ∧ w.v.dl s t ≤ d + 1 + k) ∧ went w s (d + 1 + k - w.v.dl s t) t = true
      · rw [if_pos h2, if_pos ⟨⟨h2.1.1, by omega, by omega⟩, h2.2⟩]
      · rw [if_neg h2, if_neg (fun q => h2 ⟨⟨q.1.1, by omega, by omega⟩, q.2⟩)]
theorem bf_hist (w : Wd) (s p : Nat) : ∀ d k, (stt w d).bf s k p = minN 99 (fun t => if (w.v.to t = p ∧ k ≤ w.v.dl s t ∧ w.v.dl s t ≤ d + k) ∧ went w s (d + k - w.v.dl s t) t = true then w.v.fr t else 99) w.v.m := by
  intro d
  induction d with
  | zero =>
    intro k
    show minN 99 _ _ = _
    refine eq_of_le_iff (fun x => ?_)
    rw [minN_iff, minN_iff]
    refine and_congr Iff.rfl (forall_congr' (fun t => imp_congr Iff.rfl ?_))
    by_cases h : w.v.dl s t = k
    · have e : 0 + k - w.v.dl s t = 0 := by omega
      rw [e]
      by_cases h2 : w.v.to t = p
      · simp only [h, h2, true_and, and_true, Nat.le_refl, Nat.zero_add]
        exact Iff.rfl
      · simp [h2]
    · rw [if_neg (by intro q; exact h q.1.2), if_neg (by intro q; omega)]
  | succ d ih =>
    intro k
    show minN ((stt w d).bf s (k + 1) p) _ _ = _
    rw [ih (k + 1)]
    refine eq_of_le_iff (fun x => ?_)
    rw [minN_iff, minN_iff, minN_iff, and_assoc]
    refine and_congr_right (fun hx => ?_)
    have hC : ∀ t, t < w.v.m → ((x ≤ (if (w.v.to t = p ∧ k + 1 ≤ w.v.dl s t ∧ w.v.dl s t ≤ d + (k + 1)) ∧ went w s (d + (k + 1) - w.v.dl s t) t = true then w.v.fr t else 99) ∧ x ≤ (if (w.v.to t = p ∧ w.v.dl s t = k) ∧ goS w (d + 1) (stt w d) s t = true then w.v.fr t else 99)) ↔ x ≤ (if (w.v.to t = p ∧ k ≤ w.v.dl s t ∧ w.v.dl s t ≤ d + 1 + k) ∧ went w s (d + 1 + k - w.v.dl s t) t = true then w.v.fr t else 99)) := by
      intro t ht
      by_cases h : w.v.dl s t = k
      · have e : d + 1 + k - w.v.dl s t = d + 1 := by omega
        rw [e, if_neg (by intro q; omega)]
        by_cases h2 : w.v.to t = p
        · have h3 : k ≤ d + 1 + k := by omega
          simp only [h, h2, true_and, and_true, Nat.le_refl, h3, hx]
          exact Iff.rfl
        · simp [h2, hx]
      · rw [if_neg (c := (w.v.to t = p ∧ w.v.dl s t = k) ∧ _) (by intro q; exact h q.1.2)]
        have e : d + (k + 1) - w.v.dl s t = d + 1 + k - w.v.dl s t := by omega
        rw [e]
        by_cases h2 : (w.v.to t = p ∧ k ≤ w.v.dl s t ∧ w.v.dl s t ≤ d + 1 + k) ∧ went w s (d + 1 + k - w.v.dl s t) t = true
        · rw [if_pos h2, if_pos ⟨⟨h2.1.1, by omega, by omega⟩, h2.2⟩]
          exact and_iff_left hx
        · rw [if_neg h2, if_neg (fun q => h2 ⟨⟨q.1.1, by omega, by omega⟩, q.2⟩)]
          exact and_iff_left hx
    constructor
    · rintro ⟨h1, h2⟩ t ht
      exact (hC t ht).mp ⟨h1 t ht, h2 t ht⟩
    · intro h1
      exact ⟨fun t ht => ((hC t ht).mpr (h1 t ht)).1, fun t ht => ((hC t ht).mpr (h1 t ht)).2⟩
theorem ca_hist (w : Wd) (s p : Nat) (hd : ∀ t, t < w.v.m → 1 ≤ w.v.dl s t) : ∀ d, camS w d (stp w d) s p = w.am s d p + sumN (fun t => if (w.v.to t = p ∧ w.v.dl s t ≤ d) ∧ went w s (d - w.v.dl s t) t = true then w.v.st t else 0) w.v.m
  | 0 => by
    show _ + 0 = _
    congr 1
    refine ((sumN_cong (g := fun _ => 0) (fun t ht => ?_)).trans (sumN_zero w.v.m)).symm
    have := hd t ht
    rw [if_neg (by intro q; omega)]
  | d + 1 => by
    show _ + (stt w d).du s 1 p = _
    rw [du_hist]
    congr 1
    refine sumN_cong (fun t ht => ?_)
    have := hd t ht
    by_cases h : (w.v.to t = p ∧ w.v.dl s t ≤ d + 1) ∧ went w s (d + 1 - w.v.dl s t) t = true
    · rw [if_pos h, if_pos ⟨⟨h.1.1, this, h.1.2⟩, h.2⟩]
    · rw [if_neg h, if_neg (fun q => h ⟨⟨q.1.1, q.1.2.2⟩, q.2⟩)]
theorem bf_hist1 (w : Wd) (s p : Nat) (hd : ∀ t, t < w.v.m → 1 ≤ w.v.dl s t) : ∀ d, (stp w d).bf s 1 p = minN 99 (fun t => if (w.v.to t = p ∧ w.v.dl s t ≤ d) ∧ went w s (d - w.v.dl s t) t = true then w.v.fr t else 99) w.v.m
  | 0 => by
    show 99 = _
    refine eq_of_le_iff (fun x => ?_)
    rw [minN_iff]
    constructor
    · intro h
      refine ⟨h, fun t ht => ?_⟩
      have := hd t ht
      rw [if_neg (by intro q; omega)]
      exact h
    · exact fun h => h.1
  | d + 1 => by
    show (stt w d).bf s 1 p = _
    rw [bf_hist]
    refine eq_of_le_iff (fun x => ?_)
    rw [minN_iff, minN_iff]
    refine and_congr Iff.rfl (forall_congr' (fun t => imp_congr_right (fun ht => ?_)))
    have := hd t ht
    by_cases h : (w.v.to t = p ∧ w.v.dl s t ≤ d + 1) ∧ went w s (d + 1 - w.v.dl s t) t = true
    · rw [if_pos h, if_pos ⟨⟨h.1.1, this, h.1.2⟩, h.2⟩]
    · rw [if_neg h, if_neg (fun q => h ⟨⟨q.1.1, q.1.2.2⟩, q.2⟩)]
/-- days are alike, for those who are there -/
def alike (w : Wd) (S S' : St) : Prop := ∀ s, s < 2 → ∀ p, p < w.v.n → (S.ha s p = S'.ha s p ∧ S.cn s p = S'.cn s p ∧ S.su p = S'.su p) ∧ ∀ k, 1 ≤ k → S.du s k p = S'.du s k p
theorem step_alike {w : Wd} {d d' : Nat} {S S' : St} (hf : ∀ t, t < w.v.m → w.v.fr t < w.v.n) (h : alike w S S') (ha : ∀ s, s < 2 → ∀ p, p < w.v.n → w.am s d p = w.am s d' p) (ho : ∀ t, t < w.v.m → w.op d t = w.op d' t) : alike w (step w d S) (step w d' S') ∧ ∀ s, s < 2 → ∀ p, p < w.v.n → camS w d S s p = camS w d' S' s p ∧ saS w d S s p = saS w d' S' s p := by
  have hc : ∀ s, s < 2 → ∀ p, p < w.v.n → camS w d S s p = camS w d' S' s p := fun s hs p hp => by
    unfold camS
    rw [ha s hs p hp, (h s hs p hp).2 1 (Nat.le_refl _)]
  have hr : ∀ s, s < 2 → ∀ p, p < w.v.n → hrdS w d S s p = hrdS w d' S' s p := fun s hs p hp => by
    unfold hrdS
    rw [hc s hs p hp]
  have ht : ∀ p, p < w.v.n → tkS w d S p = tkS w d' S' p := fun p hp => by
    unfold tkS
    rw [hr 0 (by decide) p hp, hr 1 (by decide) p hp, (h 0 (by decide) p hp).1.1, (h 1 (by decide) p hp).1.1, (h 0 (by decide) p hp).1.2.2]
  have hh : ∀ s p, p < w.v.n → haS w d S s p = haS w d' S' s p := fun s p hp => by
    unfold haS
    rw [ht p hp]
  have hs : ∀ s, s < 2 → ∀ p, p < w.v.n → saS w d S s p = saS w d' S' s p := fun s hs p hp => by
    unfold saS
    rw [hh s p hp, (h s hs p hp).1.2.1]
  have hg : ∀ s, s < 2 → ∀ t, t < w.v.m → goS w d S s t = goS w d' S' s t := fun s hs' t ht => by
    unfold goS
    rw [hs s hs' _ (hf t ht), ho t ht]
  refine ⟨fun s hs' p hp => ⟨⟨hh s p hp, ?_, congrArg (fun q => q.2.2) (ht p hp)⟩, fun k hk => ?_⟩, fun s hs' p hp => ⟨hc s hs' p hp, hs s hs' p hp⟩⟩
  · show _ + _ = _ + _
    rw [(h s hs' p hp).1.2.1, hs s hs' p hp]
  · show _ + sumN _ _ = _ + sumN _ _
    rw [(h s hs' p hp).2 (k + 1) (by omega)]
    congr 1
    exact sumN_cong (fun t ht => by rw [hg s hs' t ht])
/-- behind the last day a world is the same every day -/
def Wd.still (w : Wd) : Prop := ∀ d d', w.la < d → w.la < d' → (∀ s, s < 2 → ∀ p, p < w.v.n → w.am s d p = w.am s d' p) ∧ ∀ t, t < w.v.m → w.op d t = w.op d' t
theorem period {w : Wd} (hf : ∀ t, t < w.v.m → w.v.fr t < w.v.n) (hs : w.still) {a b : Nat} (h1 : w.la ≤ a) (h2 : a < b) (h : alike w (stt w a) (stt w b)) : ∀ j, alike w (stt w (a + j)) (stt w (b + j))
  | 0 => h
  | j + 1 => by
    have ih := period hf hs h1 h2 h j
    exact (step_alike hf ih (hs (a + j + 1) (b + j + 1) (by omega) (by omega)).1 (hs (a + j + 1) (b + j + 1) (by omega) (by omega)).2).1
/-- every later day is as one ahead of the second of two days that are alike -/
theorem period_in {w : Wd} (hf : ∀ t, t < w.v.m → w.v.fr t < w.v.n) (hs : w.still) {a b : Nat} (h1 : w.la ≤ a) (h2 : a < b) (h : alike w (stt w a) (stt w b)) : ∀ e, ∃ e', e' < b ∧ e' ≤ e ∧ alike w (stt w e') (stt w e) := by
  intro e
  induction e using Nat.strongRecOn with
  | _ e ih =>
    by_cases q : e < b
    · exact ⟨e, q, Nat.le_refl _, fun s _ p _ => ⟨⟨rfl, rfl, rfl⟩, fun _ _ => rfl⟩⟩
    · obtain ⟨e', g1, g2, g3⟩ := ih (a + (e - b)) (by omega)
      have := period hf hs h1 h2 h (e - b)
      rw [show b + (e - b) = e by omega] at this
      exact ⟨e', g1, by omega, fun s hs p hp => ⟨⟨(g3 s hs p hp).1.1.trans (this s hs p hp).1.1, (g3 s hs p hp).1.2.1.trans (this s hs p hp).1.2.1, (g3 s hs p hp).1.2.2.trans (this s hs p hp).1.2.2⟩, fun k hk => ((g3 s hs p hp).2 k hk).trans ((this s hs p hp).2 k hk)⟩⟩
/-- worlds that agree on the days ahead live alike on them -/
theorem stt_agree {w w' : Wd} (hv : w'.v = w.v) (hsi : w'.si = w.si) {D : Nat} (ha : ∀ d, d < D → ∀ s p, w'.am s d p = w.am s d p) (ho : ∀ d, d < D → ∀ t, w'.op d t = w.op d t) : ∀ d, d < D → stt w' d = stt w d := by
  have hst : ∀ d, d < D → ∀ S, step w' d S = step w d S := by
    intro d hd S
    have e1 : camS w' d S = camS w d S := by
      funext s p
      unfold camS
      rw [ha d hd s p]
    have e2 : hrdS w' d S = hrdS w d S := by
      funext s p
      unfold hrdS
      rw [e1, hv]
    have e3 : tkS w' d S = tkS w d S := by
      funext p
      unfold tkS
      rw [e2, hv]
    have e4 : haS w' d S = haS w d S := by
      funext s p
      unfold haS
      rw [e3]
    have e5 : saS w' d S = saS w d S := by
      funext s p
      unfold saS
      rw [e4, hv, hsi]
    have e6 : goS w' d S = goS w d S := by
      funext s t
      unfold goS
      rw [e5, hv, ho d hd t]
    unfold step
    rw [e1, e3, e4, e5, e6, hv]
  intro d
  induction d with
  | zero => exact fun hd => hst 0 hd st0
  | succ d ih =>
    intro hd
    show step w' (d + 1) (stt w' d) = step w (d + 1) (stt w d)
    rw [ih (by omega), hst (d + 1) hd]
