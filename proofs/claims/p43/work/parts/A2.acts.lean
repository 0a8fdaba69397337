/-! TELLINGS out of lists of acts; a what-if told besides is the same world (pure) -/
abbrev Act : Type := Nat × Nat × Nat × Nat
def adA (t : Tel) (q : Act) : Tel := addA t q.1 q.2.1 q.2.2.1 q.2.2.2
def tlL : List Act → Tel → Tel
  | [], t => t
  | q :: l, t => tlL l (adA t q)
theorem tlL_snoc : ∀ (l : List Act) (q : Act) (t : Tel), tlL (l ++ [q]) t = adA (tlL l t) q
  | [], _, _ => rfl
  | a :: l, q, t => tlL_snoc l q (adA t a)
theorem adA_lo {t : Tel} {q : Act} {k : Nat} (h : k < t.n) : (adA t q).so k = t.so k ∧ (adA t q).a k = t.a k ∧ (adA t q).b k = t.b k ∧ (adA t q).c k = t.c k := ⟨if_neg (by omega), if_neg (by omega), if_neg (by omega), if_neg (by omega)⟩
theorem adA_at (t : Tel) (q : Act) : (adA t q).so t.n = q.1 ∧ (adA t q).a t.n = q.2.1 ∧ (adA t q).b t.n = q.2.2.1 ∧ (adA t q).c t.n = q.2.2.2 := ⟨if_pos rfl, if_pos rfl, if_pos rfl, if_pos rfl⟩
theorem adA_amt (t : Tel) (q : Act) (s d p : Nat) : (adA t q).amt s d p = t.amt s d p + (if q.1 = s ∧ q.2.1 = d ∧ q.2.2.1 = p then 9 else 0) := by
  obtain ⟨h1, h2, h3, -⟩ := adA_at t q
  show sumN _ (t.n + 1) = _
  unfold sumN
  rw [h1, h2, h3]
  congr 1
  exact sumN_cong (fun k hk => by rw [(adA_lo (q := q) hk).1, (adA_lo (q := q) hk).2.1, (adA_lo (q := q) hk).2.2.1])
theorem anyN_cong {f g : Nat → Bool} : ∀ {n : Nat}, (∀ i, i < n → f i = g i) → anyN n f = anyN n g
  | 0, _ => rfl
  | n + 1, h => by
    show (anyN n f || f n) = (anyN n g || g n)
    rw [anyN_cong (fun i hi => h i (by omega)), h n (by omega)]
theorem adA_wall (t : Tel) (q : Act) (d k : Nat) : (adA t q).wall d k = (t.wall d k || decide (q.1 = 2 ∧ q.2.1 = k ∧ q.2.2.1 ≤ d ∧ d ≤ q.2.2.2)) := by
  obtain ⟨h1, h2, h3, h4⟩ := adA_at t q
  show (anyN t.n _ || decide _) = _
  rw [h1, h2, h3, h4]
  congr 1
  exact anyN_cong (fun k hk => by rw [(adA_lo (q := q) hk).1, (adA_lo (q := q) hk).2.1, (adA_lo (q := q) hk).2.2.1, (adA_lo (q := q) hk).2.2.2])
theorem maxN_cong {f g : Nat → Nat} : ∀ {n : Nat}, (∀ i, i < n → f i = g i) → maxN f n = maxN g n
  | 0, _ => rfl
  | n + 1, h => by
    unfold maxN
    rw [maxN_cong (fun i hi => h i (by omega)), h n (by omega)]
theorem adA_la1 (t : Tel) (q : Act) : (adA t q).la1 = if t.la1 < (if q.1 = 2 then q.2.2.2 else q.2.1) then (if q.1 = 2 then q.2.2.2 else q.2.1) else t.la1 := by
  obtain ⟨h1, h2, h3, h4⟩ := adA_at t q
  have e : maxN (fun a => if (adA t q).so a = 2 then (adA t q).c a else (adA t q).a a) t.n = t.la1 := maxN_cong (fun k hk => by rw [(adA_lo (q := q) hk).1, (adA_lo (q := q) hk).2.1, (adA_lo (q := q) hk).2.2.2])
  show maxN _ (t.n + 1) = _
  unfold maxN
  rw [e, h1, h2, h4]
def bitsL (i x : Nat) : List Nat := (List.range i).filter x.testBit
theorem bitsL_s (i x : Nat) : bitsL (i + 1) x = if x.testBit i = true then bitsL i x ++ [i] else bitsL i x := by
  unfold bitsL
  rw [List.range_succ, List.filter_append]
  cases c : x.testBit i with
  | true => rw [if_pos rfl]; simp [c]
  | false => rw [if_neg Bool.false_ne_true]; simp [c]
theorem bitsL_len (x : Nat) : ∀ i, (bitsL i x).length = cntB x.testBit i
  | 0 => rfl
  | i + 1 => by
    rw [bitsL_s]
    show _ = cntB x.testBit i + (x.testBit i).toNat
    rw [← bitsL_len x i]
    cases x.testBit i with
    | true => rw [if_pos rfl, List.length_append]; rfl
    | false => rw [if_neg Bool.false_ne_true]; rfl
/-- so many tellings of a sort on a day, to each one of a set -/
def dnL (so day i x : Nat) : List Act := (bitsL i x).map (fun p => (so, day, p, 0))
theorem dnL_s (so day i x : Nat) : dnL so day (i + 1) x = if x.testBit i = true then dnL so day i x ++ [(so, day, i, 0)] else dnL so day i x := by
  unfold dnL
  rw [bitsL_s]
  split
  · rw [List.map_append]
    rfl
  · rfl
theorem dnL_tl (l : List Act) (t : Tel) (so day x : Nat) : ∀ i, tlL (l ++ dnL so day (i + 1) x) t = if x.testBit i = true then adA (tlL (l ++ dnL so day i x) t) (so, day, i, 0) else tlL (l ++ dnL so day i x) t := by
  intro i
  rw [dnL_s]
  split
  · rw [← List.append_assoc, tlL_snoc]
  · rfl
theorem dn_amt (l : List Act) (t : Tel) (so day x s d p : Nat) : ∀ i, (tlL (l ++ dnL so day i x) t).amt s d p = (tlL l t).amt s d p + (if (so = s ∧ day = d) ∧ p < i ∧ x.testBit p = true then 9 else 0)
  | 0 => by
    have e : l ++ dnL so day 0 x = l := List.append_nil l
    rw [e, if_neg (by rintro ⟨-, h, -⟩; exact Nat.not_lt_zero _ h)]
    rfl
  | i + 1 => by
    rw [dnL_tl]
    by_cases hp : p = i
    · subst hp
      cases c : x.testBit p with
      | true =>
        rw [if_pos rfl, adA_amt, dn_amt l t so day x s d p p, if_neg (c := (so = s ∧ day = d) ∧ p < p ∧ x.testBit p = true) (by rintro ⟨-, h, -⟩; omega)]
        by_cases q : so = s ∧ day = d
        · rw [if_pos ⟨q.1, q.2, rfl⟩, if_pos ⟨q, by omega, rfl⟩]
        · rw [if_neg (fun z => q ⟨z.1, z.2.1⟩), if_neg (fun z => q z.1)]
      | false =>
        rw [if_neg Bool.false_ne_true, dn_amt l t so day x s d p p, c, if_neg (by rintro ⟨-, -, h⟩; cases h), if_neg (by rintro ⟨-, -, h⟩; cases h)]
    · have e : ((so = s ∧ day = d) ∧ p < i + 1 ∧ x.testBit p = true) ↔ ((so = s ∧ day = d) ∧ p < i ∧ x.testBit p = true) := ⟨fun z => ⟨z.1, by omega, z.2.2⟩, fun z => ⟨z.1, by omega, z.2.2⟩⟩
      split
      · rw [adA_amt, dn_amt l t so day x s d p i, if_neg (c := so = s ∧ day = d ∧ i = p) (fun z => hp z.2.2.symm), Nat.add_zero]
        by_cases q : (so = s ∧ day = d) ∧ p < i ∧ x.testBit p = true
        · rw [if_pos q, if_pos (e.mpr q)]
        · rw [if_neg q, if_neg (fun z => q (e.mp z))]
      · rw [dn_amt l t so day x s d p i]
        by_cases q : (so = s ∧ day = d) ∧ p < i ∧ x.testBit p = true
        · rw [if_pos q, if_pos (e.mpr q)]
        · rw [if_neg q, if_neg (fun z => q (e.mp z))]
theorem dn_wall (l : List Act) (t : Tel) {so day x : Nat} (hs : so ≠ 2) (d k : Nat) : ∀ i, (tlL (l ++ dnL so day i x) t).wall d k = (tlL l t).wall d k
  | 0 => by rw [show l ++ dnL so day 0 x = l from List.append_nil l]
  | i + 1 => by
    rw [dnL_tl]
    split
    · rw [adA_wall, dn_wall l t hs d k i, decide_eq_false (fun z => hs z.1), Bool.or_false]
    · exact dn_wall l t hs d k i
theorem dn_la1 (l : List Act) (t : Tel) {so day x : Nat} (hs : so ≠ 2) : ∀ i, (tlL (l ++ dnL so day i x) t).la1 = if anyN i x.testBit = true then (if (tlL l t).la1 < day then day else (tlL l t).la1) else (tlL l t).la1
  | 0 => by rw [show l ++ dnL so day 0 x = l from List.append_nil l]; rfl
  | i + 1 => by
    rw [dnL_tl]
    have ih := dn_la1 l t (day := day) (x := x) hs i
    show _ = if (anyN i x.testBit || x.testBit i) = true then _ else _
    cases c : x.testBit i with
    | true =>
      rw [if_pos rfl, adA_la1, Bool.or_true, if_pos rfl, if_neg (show ¬ ((so, day, i, 0) : Act).1 = 2 from hs), ih]
      by_cases q2 : (tlL l t).la1 < day <;> by_cases q : anyN i x.testBit = true <;> simp [q, q2]
    | false => rw [if_neg Bool.false_ne_true, Bool.or_false, ih]
theorem tb_hi {x n p : Nat} (h : x < 2 ^ n) (hp : n ≤ p) : x.testBit p = false := Nat.testBit_lt_two_pow (Nat.lt_of_lt_of_le h (Nat.pow_le_pow_right (by decide) hp))
/-- a cure told besides is the same world as the cure as a what-if -/
theorem dn_world (v : Vil) (m0 : Nat) (l : List Act) (t : Tel) {n day x : Nat} (hn : n ≤ 32) (hx : x < 2 ^ n) : mkW v m0 (tlL (l ++ dnL 1 day n x) t) wi0 = mkW v m0 (tlL l t) (dnX x.testBit day day) := by
  have e1 : amW (tlL (l ++ dnL 1 day n x) t) wi0 = amW (tlL l t) (dnX x.testBit day day) := by
    funext s d p
    have z0 : amW (tlL (l ++ dnL 1 day n x) t) wi0 s d p = (tlL (l ++ dnL 1 day n x) t).amt s d p := by
      unfold amW
      rw [if_neg (show ¬ wi0.al = true from Bool.false_ne_true), if_neg (by rintro ⟨-, h⟩; exact Bool.false_ne_true h), Nat.add_zero]
    have z1 : amW (tlL l t) (dnX x.testBit day day) s d p = (tlL l t).amt s d p + (if (s = 1 ∧ day ≤ d ∧ d ≤ day) ∧ x.testBit p = true then 9 else 0) := by
      unfold amW
      rw [if_neg (show ¬ (dnX x.testBit day day).al = true from Bool.false_ne_true)]
      rfl
    rw [z0, z1, dn_amt]
    congr 1
    by_cases q : (s = 1 ∧ day ≤ d ∧ d ≤ day) ∧ x.testBit p = true
    · have hp : p < n := by
        refine Nat.not_le.mp fun z => ?_
        have := tb_hi hx z
        rw [q.2] at this
        cases this
      rw [if_pos q, if_pos ⟨⟨q.1.1.symm, by omega⟩, hp, q.2⟩]
    · rw [if_neg q, if_neg (fun z => q ⟨⟨z.1.1.symm, by omega, by omega⟩, z.2.2⟩)]
  have e2 : opW m0 (tlL (l ++ dnL 1 day n x) t) wi0 = opW m0 (tlL l t) (dnX x.testBit day day) := by
    funext d k
    show (!(false || ((tlL (l ++ dnL 1 day n x) t).wall d k && decide (k < m0)) || (false && decide (0 ≤ d)))) = (!(false || ((tlL l t).wall d k && decide (k < m0)) || (false && decide (0 ≤ d))))
    rw [dn_wall l t (by decide)]
  have e32 : anyN 32 x.testBit = anyN n x.testBit := by
    cases c : anyN n x.testBit with
    | true =>
      obtain ⟨i, h1, h2⟩ := anyN_iff.mp c
      exact anyN_iff.mpr ⟨i, by omega, h2⟩
    | false =>
      refine anyN_no.mpr (fun i hi => ?_)
      by_cases q : i < n
      · exact anyN_no.mp c i q
      · exact tb_hi hx (by omega)
  have e3 : laW (tlL (l ++ dnL 1 day n x) t) wi0 = laW (tlL l t) (dnX x.testBit day day) := by
    have z0 : ∀ T : Tel, laW T wi0 = T.la1 := fun T => rfl
    have z1 : ∀ T : Tel, laW T (dnX x.testBit day day) = if anyN 32 x.testBit = true then (if T.la1 < day then day else T.la1) else T.la1 := fun T => rfl
    rw [z0, z1, e32]
    exact dn_la1 l t (by decide) n
  unfold mkW
  rw [e1, e2, e3]
  rfl
theorem LsA_mem {n s x : Nat} (h : x ∈ LsA n s) : x < 2 ^ n ∧ cntB x.testBit n = s := by
  rw [← flt_s, List.mem_filter, decide_eq_true_iff] at h
  have := List.mem_range'_1.mp h.1
  exact ⟨by omega, h.2⟩
theorem cntL_0 {P : Nat → Bool} : ∀ {l : List Nat}, l.find? P = none → cntL P l = 0
  | [], _ => rfl
  | x :: l, h => by
    rw [List.find?_cons] at h
    cases c : P x with
    | true => rw [c] at h; cases h
    | false =>
      rw [c] at h
      show (P x).toNat + cntL P l = 0
      rw [c, cntL_0 h]
      rfl
theorem cntL_pos {P : Nat → Bool} {x : Nat} : ∀ {l : List Nat}, x ∈ l → P x = true → 0 < cntL P l
  | y :: l, h, hp => by
    show 0 < (P y).toNat + cntL P l
    rcases List.mem_cons.mp h with e | h
    · rw [← e, hp]
      exact Nat.lt_of_lt_of_le Nat.zero_lt_one (Nat.le_add_right _ _)
    · have := cntL_pos h hp
      omega
theorem szF_get {P : Nat → Bool} {n : Nat} : ∀ c lo, (szF P n c lo = none ∧ ∀ s, lo ≤ s → s < lo + c → cntL P (LsA n s) = 0) ∨ ∃ x s, szF P n c lo = some x ∧ lo ≤ s ∧ s < lo + c ∧ x ∈ LsA n s ∧ P x = true ∧ ∀ s', lo ≤ s' → s' < s → cntL P (LsA n s') = 0
  | 0, lo => Or.inl ⟨rfl, fun s h1 h2 => absurd h2 (by omega)⟩
  | c + 1, lo => by
    cases q : (LsA n lo).find? P with
    | some x =>
      refine Or.inr ⟨x, lo, szF_some q, Nat.le_refl _, by omega, List.mem_of_find?_eq_some q, List.find?_some q, fun s' h1 h2 => absurd h2 (by omega)⟩
    | none =>
      rw [szF_none q]
      have z := cntL_0 q
      rcases szF_get (P := P) (n := n) c (lo + 1) with ⟨h1, h2⟩ | ⟨x, s, h1, h2, h3, h4, h5, h6⟩
      · refine Or.inl ⟨h1, fun s g1 g2 => ?_⟩
        by_cases e : s = lo
        · rw [e]; exact z
        · exact h2 s (by omega) (by omega)
      · refine Or.inr ⟨x, s, h1, by omega, by omega, h4, h5, fun s' g1 g2 => ?_⟩
        by_cases e : s' = lo
        · rw [e]; exact z
        · exact h6 s' (by omega) g2
/-! those told on day 0 besides walls, as a what-if -/
theorem wl_amt {t : Tel} (h : ∀ k, k < t.n → t.so k = 2) (s d p : Nat) (hs : s < 2) : t.amt s d p = 0 := by
  unfold Tel.amt
  refine (sumN_cong (g := fun _ => 0) (fun k hk => ?_)).trans (sumN_zero _)
  rw [if_neg]
  rintro ⟨q, -, -⟩
  rw [h k hk] at q
  omega
theorem tlL_app : ∀ (l m : List Act) (t : Tel), tlL (l ++ m) t = tlL m (tlL l t)
  | [], _, _ => rfl
  | q :: l, m, t => tlL_app l m (adA t q)
theorem wl_amt2 (t : Tel) {s d p : Nat} (hs : s < 2) : ∀ (m : List Act), (∀ q, q ∈ m → q.1 = 2) → ∀ t, (tlL m t).amt s d p = t.amt s d p
  | [], _, _ => rfl
  | q :: m, h, t => by
    show (tlL m (adA t q)).amt s d p = _
    rw [wl_amt2 t hs m (fun z hz => h z (List.mem_cons_of_mem _ hz)), adA_amt, if_neg]
    · rfl
    · rintro ⟨z, -, -⟩
      rw [h q List.mem_cons_self] at z
      omega
/-- worlds to which the same words and denials come live alike -/
theorem step_two {v : Vil} {am am' : Nat → Nat → Nat → Nat} {op : Nat → Nat → Bool} {si : Nat → Bool} {la la' d : Nat} {S S' : St} (hf : ∀ t, t < v.m → v.fr t < v.n) (h : alike (v, am, op, si, la) S S') (ha : ∀ s, s < 2 → ∀ p, am' s d p = am s d p) : alike (v, am, op, si, la) (step (v, am, op, si, la) d S) (step (v, am', op, si, la') d S') := by
  have hc : ∀ s, s < 2 → ∀ p, p < v.n → camS (v, am, op, si, la) d S s p = camS (v, am', op, si, la') d S' s p := fun s hs p hp => by
    show am s d p + S.du s 1 p = am' s d p + S'.du s 1 p
    rw [ha s hs p, (h s hs p hp).2 1 (Nat.le_refl _)]
  have hr : ∀ s, s < 2 → ∀ p, p < v.n → hrdS (v, am, op, si, la) d S s p = hrdS (v, am', op, si, la') d S' s p := fun s hs p hp => by
    unfold hrdS
    rw [hc s hs p hp]
    rfl
  have ht : ∀ p, p < v.n → tkS (v, am, op, si, la) d S p = tkS (v, am', op, si, la') d S' p := fun p hp => by
    unfold tkS
    rw [hr 0 (by decide) p hp, hr 1 (by decide) p hp, (h 0 (by decide) p hp).1.1, (h 1 (by decide) p hp).1.1, (h 0 (by decide) p hp).1.2.2]
    rfl
  have hh : ∀ s p, p < v.n → haS (v, am, op, si, la) d S s p = haS (v, am', op, si, la') d S' s p := fun s p hp => by
    unfold haS
    rw [ht p hp]
  have hs : ∀ s, s < 2 → ∀ p, p < v.n → saS (v, am, op, si, la) d S s p = saS (v, am', op, si, la') d S' s p := fun s hs p hp => by
    unfold saS
    rw [hh s p hp, (h s hs p hp).1.2.1]
    rfl
  have hg : ∀ s, s < 2 → ∀ t, t < v.m → goS (v, am, op, si, la) d S s t = goS (v, am', op, si, la') d S' s t := fun s hs' t ht => by
    have e := hs s hs' (v.fr t) (hf t ht)
    show (saS (v, am, op, si, la) d S s (v.fr t) && op d t) = (saS (v, am', op, si, la') d S' s (v.fr t) && op d t)
    rw [e]
  refine fun s hs' p hp => ⟨⟨hh s p hp, ?_, congrArg (fun q => q.2.2) (ht p hp)⟩, fun k hk => ?_⟩
  · have e := hs s hs' p hp
    have e2 : S.cn s p = S'.cn s p := (h s hs' p hp).1.2.1
    show S.cn s p + (if saS (v, am, op, si, la) d S s p = true ∧ 0 < v.lim s p then 1 else 0) = S'.cn s p + (if saS (v, am', op, si, la') d S' s p = true ∧ 0 < v.lim s p then 1 else 0)
    rw [e, e2]
  · have e2 : S.du s (k + 1) p = S'.du s (k + 1) p := (h s hs' p hp).2 (k + 1) (by omega)
    show S.du s (k + 1) p + sumN (fun t => if (v.to t = p ∧ v.dl s t = k) ∧ goS (v, am, op, si, la) d S s t = true then v.st t else 0) v.m = S'.du s (k + 1) p + sumN (fun t => if (v.to t = p ∧ v.dl s t = k) ∧ goS (v, am', op, si, la') d S' s t = true then v.st t else 0) v.m
    rw [e2]
    congr 1
    exact sumN_cong (fun t ht => by rw [hg s hs' t ht])
theorem stt_two {v : Vil} {am am' : Nat → Nat → Nat → Nat} {op : Nat → Nat → Bool} {si : Nat → Bool} {la la' : Nat} (hf : ∀ t, t < v.m → v.fr t < v.n) (ha : ∀ d s, s < 2 → ∀ p, am' s d p = am s d p) : ∀ d, alike (v, am, op, si, la) (stt (v, am, op, si, la) d) (stt (v, am', op, si, la') d)
  | 0 => step_two hf (fun s hs p hp => ⟨⟨rfl, rfl, rfl⟩, fun _ _ => rfl⟩) (ha 0)
  | d + 1 => step_two hf (stt_two hf ha d) (ha (d + 1))
/-- told so from day 0 on, besides walls: as a what-if -/
theorem bg_hdI (v : Vil) (m0 : Nat) (m : List Act) {n x : Nat} (hf : ∀ t, t < v.m → v.fr t < v.n) (hx : x < 2 ^ n) (hm : ∀ q, q ∈ m → q.1 = 2) (d : Nat) : hdI (mkW v m0 (tlL (dnL 0 0 n x ++ m) telN) wi0) d = hdI (mkW v m0 (tlL (dnL 0 0 n x ++ m) telN) (bgX x.testBit)) d := by
  have e : ∀ d s, s < 2 → ∀ p, amW (tlL (dnL 0 0 n x ++ m) telN) (bgX x.testBit) s d p = amW (tlL (dnL 0 0 n x ++ m) telN) wi0 s d p := by
    intro d s hs p
    have z0 : amW (tlL (dnL 0 0 n x ++ m) telN) wi0 s d p = (tlL (dnL 0 0 n x ++ m) telN).amt s d p := by
      unfold amW
      rw [if_neg (show ¬ wi0.al = true from Bool.false_ne_true), if_neg (by rintro ⟨-, h⟩; exact Bool.false_ne_true h), Nat.add_zero]
    have z1 : amW (tlL (dnL 0 0 n x ++ m) telN) (bgX x.testBit) s d p = (if (s = 0 ∧ d = 0) ∧ x.testBit p = true then 9 else 0) := by
      unfold amW
      rw [if_pos (show (bgX x.testBit).al = true from rfl), if_neg (c := (s = 1 ∧ _ ≤ d ∧ d ≤ _) ∧ _) (by rintro ⟨-, h⟩; exact Bool.false_ne_true h)]
      rfl
    rw [z0, z1, tlL_app, wl_amt2 telN hs m hm]
    have := dn_amt [] telN 0 0 x s d p n
    rw [List.nil_append] at this
    rw [this]
    have z2 : (tlL [] telN).amt s d p = 0 := rfl
    rw [z2, Nat.zero_add]
    by_cases q : (s = 0 ∧ d = 0) ∧ x.testBit p = true
    · have hp : p < n := by
        refine Nat.not_le.mp fun z => ?_
        have := tb_hi hx z
        rw [q.2] at this
        cases this
      rw [if_pos q, if_pos ⟨⟨q.1.1.symm, q.1.2.symm⟩, hp, q.2⟩]
    · rw [if_neg q, if_neg (fun z => q ⟨⟨z.1.1.symm, z.1.2.symm⟩, z.2.2⟩)]
  have key : ∀ d, alike (mkW v m0 (tlL (dnL 0 0 n x ++ m) telN) wi0) (stt (mkW v m0 (tlL (dnL 0 0 n x ++ m) telN) wi0) d) (stt (mkW v m0 (tlL (dnL 0 0 n x ++ m) telN) (bgX x.testBit)) d) := stt_two hf e
  exact bI_cong (fun p hp => by
    have h0 := (key d 0 (by decide) p hp).1.1
    have h1 := (key d 1 (by decide) p hp).1.1
    unfold hold
    rw [h0, h1])
