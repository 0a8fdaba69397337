/-! THE LAW'S TEXTS: what a village's, a telling's lines leave (pure) -/
theorem ln_0 (x : Nat) (S : Sm) : (lnR (0, [x]) S).vv = setPe S.vv x ∧ (lnR (0, [x]) S).gr = S.gr ∧ (lnR (0, [x]) S).tt = S.tt ∧ (lnR (0, [x]) S).fl = 0 := ⟨rfl, rfl, rfl, rfl⟩
theorem ln_k {i : Nat} (h1 : 1 ≤ i) (h6 : i ≤ 6) (p : Nat) (S : Sm) : (lnR (i, [p]) S).vv = setKd S.vv p (i - 1) ∧ (lnR (i, [p]) S).gr = (if S.gr < p then p else S.gr) ∧ (lnR (i, [p]) S).tt = S.tt ∧ (lnR (i, [p]) S).fl = 0 := by
  rcases (by omega : i = 1 ∨ i = 2 ∨ i = 3 ∨ i = 4 ∨ i = 5 ∨ i = 6) with rfl | rfl | rfl | rfl | rfl | rfl <;> exact ⟨rfl, rfl, rfl, rfl⟩
theorem ln_7 (p x : Nat) (S : Sm) : (lnR (7, [p, x]) S).vv = setDb S.vv p x ∧ (lnR (7, [p, x]) S).gr = (if S.gr < p then p else S.gr) ∧ (lnR (7, [p, x]) S).tt = S.tt ∧ (lnR (7, [p, x]) S).fl = 0 := ⟨rfl, rfl, rfl, rfl⟩
theorem ln_8 (a c d s : Nat) (S : Sm) : (lnR (8, [a, c, d, s]) S).vv = addG S.vv a c d s ∧ (lnR (8, [a, c, d, s]) S).gr = (if (if S.gr < a then a else S.gr) < c then c else (if S.gr < a then a else S.gr)) ∧ (lnR (8, [a, c, d, s]) S).tt = S.tt ∧ (lnR (8, [a, c, d, s]) S).fl = 0 := ⟨rfl, rfl, rfl, rfl⟩
theorem ln_9 (x : Nat) (S : Sm) : (lnR (9, [x]) S).vv = setSl S.vv x ∧ (lnR (9, [x]) S).gr = S.gr ∧ (lnR (9, [x]) S).tt = S.tt ∧ (lnR (9, [x]) S).fl = 0 := ⟨rfl, rfl, rfl, rfl⟩
theorem ln_10 (x z : Nat) (S : Sm) : (lnR (10, [x, z]) S).vv = setTi S.vv x z ∧ (lnR (10, [x, z]) S).gr = S.gr ∧ (lnR (10, [x, z]) S).tt = S.tt ∧ (lnR (10, [x, z]) S).fl = 0 := ⟨rfl, rfl, rfl, rfl⟩
theorem ln_11 (a c : Nat) (S : Sm) : (lnR (11, [a, c]) S).tt = addA S.tt 0 a c 0 ∧ (lnR (11, [a, c]) S).fl = 0 := ⟨rfl, rfl⟩
theorem ln_12 (a c : Nat) (S : Sm) : (lnR (12, [a, c]) S).tt = addA S.tt 1 a c 0 ∧ (lnR (12, [a, c]) S).fl = 0 := ⟨rfl, rfl⟩
theorem ln_13 (a c d : Nat) (S : Sm) : (lnR (13, [a, c, d]) S).tt = addA S.tt 2 a c d ∧ (lnR (13, [a, c, d]) S).fl = 0 := ⟨rfl, rfl⟩
/-- lines that a text may have -/
theorem lnOK_mk {sort i : Nat} {l : List Nat} {S : Sm} (h1 : i < 14) (h2 : if sort = 0 then i < 11 else 11 ≤ i) (h3 : fulB i S = false) (h4 : l.length = needW i) (h5 : accOK i 0 l S.nb) : lnOK sort (i, l) S := ⟨h1, h2, h3, h4, h5⟩
theorem ok_0 {x : Nat} {S : Sm} (h : 1 ≤ x ∧ x ≤ 16) : lnOK 0 (0, [x]) S := lnOK_mk (by decide) (by decide) rfl rfl ⟨decide_eq_true h, by omega, trivial⟩
theorem ok_k {i p : Nat} {S : Sm} (h1 : 1 ≤ i) (h6 : i ≤ 6) (hp : p < 16) : lnOK 0 (i, [p]) S := by
  rcases (by omega : i = 1 ∨ i = 2 ∨ i = 3 ∨ i = 4 ∨ i = 5 ∨ i = 6) with rfl | rfl | rfl | rfl | rfl | rfl <;> exact lnOK_mk (by decide) (by decide) rfl rfl ⟨(show (decide (p < 16) && !decide _) = true by rw [decide_eq_true hp, decide_eq_false (by rintro ⟨⟨h, -⟩, -⟩; cases h)]; rfl), by omega, trivial⟩
theorem ok_7 {p x : Nat} {S : Sm} (hp : p < 16) (hx : 1 ≤ x ∧ x ≤ 99) : lnOK 0 (7, [p, x]) S := lnOK_mk (by decide) (by decide) rfl rfl ⟨(show (decide (p < 16) && !decide _) = true by rw [decide_eq_true hp, decide_eq_false (by rintro ⟨⟨h, -⟩, -⟩; cases h)]; rfl), by omega, decide_eq_true hx.1, hx.2, trivial⟩
theorem ok_8 {a c d s : Nat} {S : Sm} (hm : S.vv.m < 40) (ha : a < 16) (hc : c < 16) (hac : a ≠ c) (hd : 1 ≤ d ∧ d ≤ 3) (hs : 1 ≤ s ∧ s ≤ 9) : lnOK 0 (8, [a, c, d, s]) S := by
  refine lnOK_mk (by decide) (by decide) ?_ rfl ⟨?_, by omega, ?_, by omega, decide_eq_true hd, by omega, decide_eq_true hs, by omega, trivial⟩
  · show (decide (8 = 8 ∧ 40 ≤ S.vv.m) || decide _) = false
    rw [decide_eq_false (by omega), decide_eq_false (by rintro ⟨h, -⟩; exact absurd h (by decide))]
    rfl
  · show (decide (a < 16) && !decide _) = true
    rw [decide_eq_true ha, decide_eq_false (by rintro ⟨⟨-, h⟩, -⟩; cases h)]
    rfl
  · show (decide (c < 16) && !decide ((8 = 8 ∧ 1 = 1) ∧ c = a)) = true
    rw [decide_eq_true hc, decide_eq_false (by rintro ⟨-, h⟩; exact hac h.symm)]
    rfl
theorem ok_9 {x : Nat} {S : Sm} (h : x ≤ 3) : lnOK 0 (9, [x]) S := lnOK_mk (by decide) (by decide) rfl rfl ⟨decide_eq_true h, by omega, trivial⟩
theorem ok_10 {x z : Nat} {S : Sm} (h : x ≤ 30) (g : z ≤ 30) : lnOK 0 (10, [x, z]) S := lnOK_mk (by decide) (by decide) rfl rfl ⟨decide_eq_true h, by omega, decide_eq_true g, by omega, trivial⟩
theorem ful_t {i : Nat} {S : Sm} (hi : i = 11 ∨ i = 12 ∨ i = 13) (h : S.tt.n < 30) : fulB i S = false := by
  unfold fulB
  rw [decide_eq_false (by omega), decide_eq_false (by omega)]
  rfl
theorem ok_11 {a c : Nat} {S : Sm} (hn : S.tt.n < 30) (ha : a ≤ 99) (hc : c < 16) : lnOK 1 (11, [a, c]) S := lnOK_mk (by decide) (by decide) (ful_t (Or.inl rfl) hn) rfl ⟨rfl, ha, decide_eq_true (Or.inr hc), by omega, trivial⟩
theorem ok_12 {a c : Nat} {S : Sm} (hn : S.tt.n < 30) (ha : a ≤ 99) (hc : c < 16) : lnOK 1 (12, [a, c]) S := lnOK_mk (by decide) (by decide) (ful_t (Or.inr (Or.inl rfl)) hn) rfl ⟨rfl, ha, decide_eq_true (Or.inr hc), by omega, trivial⟩
theorem ok_13 {a c d : Nat} {S : Sm} (hn : S.tt.n < 30) (ha : a < 40) (hcd : c ≤ d) (hd : d ≤ 99) : lnOK 1 (13, [a, c, d]) S := lnOK_mk (by decide) (by decide) (ful_t (Or.inr (Or.inr rfl)) hn) rfl ⟨decide_eq_true ha, by omega, rfl, by omega, decide_eq_true hcd, hd, trivial⟩
/-- a village's lines -/
def kdLn (V : Vil) (p : Nat) : List (Nat × List Nat) := (if 0 < V.kd p then [(V.kd p + 1, [p])] else []) ++ (if 1 < V.db p then [(7, [p, V.db p])] else [])
def pLs (V : Vil) : Nat → List (Nat × List Nat)
  | 0 => []
  | i + 1 => pLs V i ++ kdLn V i
def tLs (V : Vil) : Nat → List (Nat × List Nat)
  | 0 => []
  | j + 1 => tLs V j ++ [(8, [V.fr j, V.to j, V.dy j, V.st j])]
/-- a village with nothing told beyond its people, its ties; of i people, j ties so far -/
def cnV (V : Vil) (sl tw td i j : Nat) : Vil := mkV V.n j sl tw td (fun p => if p < i then V.kd p else 0) (fun p => if p < i then V.db p else 1) (fun t => if t < j then V.fr t else 0) (fun t => if t < j then V.to t else 0) (fun t => if t < j then V.dy t else 0) (fun t => if t < j then V.st t else 0)
/-- what the law draws: a village of eight at most, twelve ties at most -/
def Vok (V : Vil) : Prop := (1 ≤ V.n ∧ V.n ≤ 8) ∧ V.m ≤ 12 ∧ V.sl ≤ 3 ∧ V.tw ≤ 30 ∧ V.td ≤ 30 ∧ (∀ p, p < V.n → V.kd p ≤ 5 ∧ 1 ≤ V.db p ∧ V.db p ≤ 99) ∧ ∀ t, t < V.m → V.fr t < V.n ∧ V.to t < V.n ∧ V.fr t ≠ V.to t ∧ (1 ≤ V.dy t ∧ V.dy t ≤ 3) ∧ 1 ≤ V.st t ∧ V.st t ≤ 9
def SV (V : Vil) (sl tw td i j : Nat) (S : Sm) : Prop := S.fl = 0 ∧ S.gr < V.n ∧ S.vv = cnV V sl tw td i j
theorem kd_step {V : Vil} {p : Nat} {S : Sm} (hV : Vok V) (hp : p < V.n) (h : SV V 0 0 0 p 0 S) : lnsOK 0 (kdLn V p) S ∧ SV V 0 0 0 (p + 1) 0 (lnsR (kdLn V p) S) := by
  obtain ⟨⟨n1, n8⟩, -, -, -, -, hk, -⟩ := hV
  obtain ⟨k5, d1, d99⟩ := hk p hp
  obtain ⟨h0, h1, h2⟩ := h
  -- behind the kind
  have A : lnsOK 0 (if 0 < V.kd p then [(V.kd p + 1, [p])] else []) S ∧ (lnsR (if 0 < V.kd p then [(V.kd p + 1, [p])] else []) S).fl = 0 ∧ (lnsR (if 0 < V.kd p then [(V.kd p + 1, [p])] else []) S).gr < V.n ∧ (lnsR (if 0 < V.kd p then [(V.kd p + 1, [p])] else []) S).vv = setKd S.vv p (V.kd p) := by
    by_cases c : 0 < V.kd p
    · rw [if_pos c]
      obtain ⟨e1, e2, e3, e4⟩ := ln_k (i := V.kd p + 1) (by omega) (by omega) p S
      refine ⟨⟨ok_k (by omega) (by omega) (by omega), trivial⟩, e4, ?_, e1⟩
      show (lnR (V.kd p + 1, [p]) S).gr < V.n
      rw [e2]
      split <;> omega
    · rw [if_neg c]
      refine ⟨trivial, h0, h1, ?_⟩
      show S.vv = setKd S.vv p (V.kd p)
      rw [h2, show V.kd p = 0 by omega]
      unfold setKd cnV
      show mkV _ _ _ _ _ _ _ _ _ _ _ = mkV _ _ _ _ _ _ _ _ _ _ _
      congr 1
      funext q
      show (if q < p then V.kd q else 0) = if q = p then 0 else (if q < p then V.kd q else 0)
      by_cases e : q = p
      · rw [if_pos e, if_neg (by omega)]
      · rw [if_neg e]
  obtain ⟨a1, a2, a3, a4⟩ := A
  obtain ⟨S1, hS1⟩ : ∃ S1, S1 = lnsR (if 0 < V.kd p then [(V.kd p + 1, [p])] else []) S := ⟨_, rfl⟩
  rw [← hS1] at a2 a3 a4
  have B : lnsOK 0 (if 1 < V.db p then [(7, [p, V.db p])] else []) S1 ∧ (lnsR (if 1 < V.db p then [(7, [p, V.db p])] else []) S1).fl = 0 ∧ (lnsR (if 1 < V.db p then [(7, [p, V.db p])] else []) S1).gr < V.n ∧ (lnsR (if 1 < V.db p then [(7, [p, V.db p])] else []) S1).vv = setDb S1.vv p (V.db p) := by
    by_cases c : 1 < V.db p
    · rw [if_pos c]
      obtain ⟨e1, e2, e3, e4⟩ := ln_7 p (V.db p) S1
      refine ⟨⟨ok_7 (by omega) ⟨d1, d99⟩, trivial⟩, e4, ?_, e1⟩
      show (lnR (7, [p, V.db p]) S1).gr < V.n
      rw [e2]
      split <;> omega
    · rw [if_neg c]
      refine ⟨trivial, a2, a3, ?_⟩
      show S1.vv = setDb S1.vv p (V.db p)
      rw [a4, h2, show V.db p = 1 by omega]
      unfold setDb setKd cnV
      show mkV _ _ _ _ _ _ _ _ _ _ _ = mkV _ _ _ _ _ _ _ _ _ _ _
      congr 1
      funext q
      show (if q < p then V.db q else 1) = if q = p then 1 else (if q < p then V.db q else 1)
      by_cases e : q = p
      · rw [if_pos e, if_neg (by omega)]
      · rw [if_neg e]
  obtain ⟨b1, b2, b3, b4⟩ := B
  have eR : lnsR (kdLn V p) S = lnsR (if 1 < V.db p then [(7, [p, V.db p])] else []) S1 := by
    unfold kdLn
    rw [lnsR_app, hS1]
  rw [eR]
  refine ⟨?_, b2, b3, ?_⟩
  · unfold kdLn
    exact lnsOK_app _ _ _ a1 (by rw [← hS1]; exact b1)
  · rw [b4, a4, h2]
    unfold setDb setKd cnV
    show mkV _ _ _ _ _ _ _ _ _ _ _ = mkV _ _ _ _ _ _ _ _ _ _ _
    congr 1
    · funext q
      show (if q = p then V.kd p else (if q < p then V.kd q else 0)) = if q < p + 1 then V.kd q else 0
      by_cases e : q = p
      · rw [if_pos e, if_pos (by omega), e]
      · rw [if_neg e]
        by_cases e2 : q < p
        · rw [if_pos e2, if_pos (by omega)]
        · rw [if_neg e2, if_neg (by omega)]
    · funext q
      show (if q = p then V.db p else (if q < p then V.db q else 1)) = if q < p + 1 then V.db q else 1
      by_cases e : q = p
      · rw [if_pos e, if_pos (by omega), e]
      · rw [if_neg e]
        by_cases e2 : q < p
        · rw [if_pos e2, if_pos (by omega)]
        · rw [if_neg e2, if_neg (by omega)]
theorem kd_all {V : Vil} {S : Sm} (hV : Vok V) (h : SV V 0 0 0 0 0 S) : ∀ i, i ≤ V.n → lnsOK 0 (pLs V i) S ∧ SV V 0 0 0 i 0 (lnsR (pLs V i) S)
  | 0, _ => ⟨trivial, h⟩
  | i + 1, hi => by
    obtain ⟨h1, h2⟩ := kd_all hV h i (by omega)
    obtain ⟨g1, g2⟩ := kd_step hV (by omega) h2
    show lnsOK 0 (pLs V i ++ kdLn V i) S ∧ SV V 0 0 0 (i + 1) 0 (lnsR (pLs V i ++ kdLn V i) S)
    rw [lnsR_app]
    exact ⟨lnsOK_app _ _ _ h1 g1, g2⟩
theorem fn_s {f : Nat → Nat} {j : Nat} : (fun t => if t = j then f j else (if t < j then f t else 0)) = fun t => if t < j + 1 then f t else 0 := by
  funext t
  by_cases e : t = j
  · rw [if_pos e, if_pos (by omega), e]
  · rw [if_neg e]
    by_cases e2 : t < j
    · rw [if_pos e2, if_pos (by omega)]
    · rw [if_neg e2, if_neg (by omega)]
theorem tie_step {V : Vil} {i j : Nat} {S : Sm} (hV : Vok V) (hj : j < V.m) (h : SV V 0 0 0 i j S) : lnOK 0 (8, [V.fr j, V.to j, V.dy j, V.st j]) S ∧ SV V 0 0 0 i (j + 1) (lnR (8, [V.fr j, V.to j, V.dy j, V.st j]) S) := by
  obtain ⟨⟨n1, n8⟩, hm, -, -, -, -, ht⟩ := hV
  obtain ⟨t1, t2, t3, t4, t5⟩ := ht j hj
  obtain ⟨h0, h1, h2⟩ := h
  obtain ⟨e1, e2, e3, e4⟩ := ln_8 (V.fr j) (V.to j) (V.dy j) (V.st j) S
  have hm' : S.vv.m = j := by rw [h2]; rfl
  refine ⟨ok_8 (by omega) (by omega) (by omega) t3 t4 t5, e4, ?_, ?_⟩
  · rw [e2]
    repeat' split
    all_goals omega
  · rw [e1, h2]
    unfold addG cnV
    show mkV V.n (j + 1) 0 0 0 _ _ (fun t => if t = j then V.fr j else (if t < j then V.fr t else 0)) (fun t => if t = j then V.to j else (if t < j then V.to t else 0)) (fun t => if t = j then V.dy j else (if t < j then V.dy t else 0)) (fun t => if t = j then V.st j else (if t < j then V.st t else 0)) = _
    rw [fn_s, fn_s, fn_s, fn_s]
    rfl
theorem tie_all {V : Vil} {i : Nat} {S : Sm} (hV : Vok V) (h : SV V 0 0 0 i 0 S) : ∀ j, j ≤ V.m → lnsOK 0 (tLs V j) S ∧ SV V 0 0 0 i j (lnsR (tLs V j) S)
  | 0, _ => ⟨trivial, h⟩
  | j + 1, hj => by
    obtain ⟨h1, h2⟩ := tie_all hV h j (by omega)
    obtain ⟨g1, g2⟩ := tie_step hV (by omega) h2
    show lnsOK 0 (tLs V j ++ [_]) S ∧ SV V 0 0 0 i (j + 1) (lnsR (tLs V j ++ [_]) S)
    rw [lnsR_app]
    exact ⟨lnsOK_app _ _ _ h1 ⟨g1, trivial⟩, g2⟩
def vlL (V : Vil) : List (Nat × List Nat) := [(0, [V.n])] ++ (pLs V V.n ++ (tLs V V.m ++ [(9, [V.sl]), (10, [V.tw, V.td])]))
def cV (V : Vil) : Vil := cnV V V.sl V.tw V.td V.n V.m
theorem vl_ok {V : Vil} (hV : Vok V) : lnsOK 0 (vlL V) S0 ∧ (lnsR (vlL V) S0).fl = 0 ∧ (lnsR (vlL V) S0).gr < V.n ∧ (lnsR (vlL V) S0).vv = cV V := by
  obtain ⟨⟨n1, n8⟩, hm, h3, h4, h5, -, -⟩ := id hV
  have s0 : SV V 0 0 0 0 0 (lnR (0, [V.n]) S0) := by
    obtain ⟨e1, e2, e3, e4⟩ := ln_0 V.n S0
    refine ⟨e4, ?_, ?_⟩
    · rw [e2]
      exact n1
    · rw [e1]
      unfold setPe cnV
      show mkV V.n 0 0 0 0 (fun _ => 0) (fun _ => 1) (fun _ => 0) (fun _ => 0) (fun _ => 0) (fun _ => 0) = _
      have z : ∀ (f : Nat → Nat) (c : Nat), (fun p => if p < 0 then f p else c) = fun _ => c := fun f c => funext fun p => if_neg (Nat.not_lt_zero _)
      rw [z, z, z, z, z, z]
  obtain ⟨a1, a2⟩ := kd_all hV s0 V.n (Nat.le_refl _)
  obtain ⟨b1, b2⟩ := tie_all hV a2 V.m (Nat.le_refl _)
  obtain ⟨c0, c1, c2⟩ := b2
  obtain ⟨d1, d2, d3, d4⟩ := ln_9 V.sl (lnsR (tLs V V.m) (lnsR (pLs V V.n) (lnR (0, [V.n]) S0)))
  obtain ⟨f1, f2, f3, f4⟩ := ln_10 V.tw V.td (lnR (9, [V.sl]) (lnsR (tLs V V.m) (lnsR (pLs V V.n) (lnR (0, [V.n]) S0))))
  have eR : lnsR (vlL V) S0 = lnR (10, [V.tw, V.td]) (lnR (9, [V.sl]) (lnsR (tLs V V.m) (lnsR (pLs V V.n) (lnR (0, [V.n]) S0)))) := by
    unfold vlL
    rw [lnsR_app, lnsR_app, lnsR_app]
    rfl
  rw [eR]
  refine ⟨?_, f4, by rw [f2, d2]; exact c1, ?_⟩
  · unfold vlL
    exact lnsOK_app _ _ _ ⟨ok_0 ⟨n1, by omega⟩, trivial⟩ (lnsOK_app _ _ _ a1 (lnsOK_app _ _ _ b1 ⟨ok_9 h3, ok_10 h4 h5, trivial⟩))
  · rw [f1, d1, c2]
    rfl
theorem dgs_len (x : Nat) : (dgs x).length ≤ 2 := by
  unfold dgs
  split <;> simp
theorem nmE_len : ∀ l : List Nat, (nmE l).length ≤ 4 * l.length
  | [] => Nat.le_refl _
  | x :: l => by
    show (32 :: (dgs x ++ 32 :: nmE l)).length ≤ 4 * (l.length + 1)
    have h1 := dgs_len x
    have h2 := nmE_len l
    simp only [List.length_cons, List.length_append]
    omega
theorem nmW_len6 (i : Nat) : (nmW i).length ≤ 6 := by
  by_cases h : i < 14
  · exact nmW_len i h
  · obtain ⟨k, rfl⟩ : ∃ k, i = k + 14 := ⟨i - 14, by omega⟩
    exact (by decide : ([119, 97, 108, 108] : List Nat).length ≤ 6)
theorem lnE_len (q : Nat × List Nat) : (lnE q).length ≤ 7 + 4 * q.2.length := by
  have h1 := nmW_len6 q.1
  have h2 := nmE_len q.2
  unfold lnE
  simp only [List.length_append, List.length_cons, List.length_nil]
  omega
theorem pLs_len (V : Vil) : ∀ i, (txE (pLs V i)).length ≤ 26 * i ∧ (pLs V i).length ≤ 2 * i
  | 0 => ⟨Nat.le_refl _, Nat.le_refl _⟩
  | i + 1 => by
    obtain ⟨h1, h2⟩ := pLs_len V i
    show (txE (pLs V i ++ kdLn V i)).length ≤ _ ∧ (pLs V i ++ kdLn V i).length ≤ _
    rw [txE_app, List.length_append, List.length_append]
    have a1 : (txE (if 0 < V.kd i then [(V.kd i + 1, [i])] else [])).length ≤ 11 ∧ (if 0 < V.kd i then [(V.kd i + 1, [i])] else []).length ≤ 1 := by
      split
      · have := lnE_len (V.kd i + 1, [i])
        exact ⟨by show (lnE (V.kd i + 1, [i]) ++ []).length ≤ 11; rw [List.append_nil]; exact this, Nat.le_refl _⟩
      · exact ⟨by decide, by decide⟩
    have a2 : (txE (if 1 < V.db i then [(7, [i, V.db i])] else [])).length ≤ 15 ∧ (if 1 < V.db i then [(7, [i, V.db i])] else []).length ≤ 1 := by
      split
      · have := lnE_len (7, [i, V.db i])
        exact ⟨by show (lnE (7, [i, V.db i]) ++ []).length ≤ 15; rw [List.append_nil]; exact this, Nat.le_refl _⟩
      · exact ⟨by decide, by decide⟩
    have e1 : (txE (kdLn V i)).length = (txE (if 0 < V.kd i then [(V.kd i + 1, [i])] else [])).length + (txE (if 1 < V.db i then [(7, [i, V.db i])] else [])).length := by
      unfold kdLn
      rw [txE_app, List.length_append]
    have e2 : (kdLn V i).length = (if 0 < V.kd i then [(V.kd i + 1, [i])] else []).length + (if 1 < V.db i then [(7, [i, V.db i])] else []).length := by
      unfold kdLn
      rw [List.length_append]
    omega
theorem tLs_len (V : Vil) : ∀ j, (txE (tLs V j)).length ≤ 23 * j ∧ (tLs V j).length = j
  | 0 => ⟨Nat.le_refl _, rfl⟩
  | j + 1 => by
    obtain ⟨h1, h2⟩ := tLs_len V j
    show (txE (tLs V j ++ [_])).length ≤ _ ∧ (tLs V j ++ [_]).length = _
    rw [txE_app, List.length_append, List.length_append, h2]
    have := lnE_len (8, [V.fr j, V.to j, V.dy j, V.st j])
    have e : (txE [(8, [V.fr j, V.to j, V.dy j, V.st j])]).length = (lnE (8, [V.fr j, V.to j, V.dy j, V.st j])).length := by
      show (lnE _ ++ []).length = _
      rw [List.append_nil]
    have this : (lnE (8, [V.fr j, V.to j, V.dy j, V.st j])).length ≤ 23 := this
    exact ⟨by omega, rfl⟩
theorem vl_len {V : Vil} (hV : Vok V) : (txE (vlL V)).length ≤ 521 ∧ (vlL V).length ≤ 601 := by
  obtain ⟨⟨n1, n8⟩, hm, -⟩ := hV
  obtain ⟨a1, a2⟩ := pLs_len V V.n
  obtain ⟨b1, b2⟩ := tLs_len V V.m
  have c1 : (lnE (0, [V.n])).length ≤ 11 := lnE_len (0, [V.n])
  have c2 : (lnE (9, [V.sl])).length ≤ 11 := lnE_len (9, [V.sl])
  have c3 : (lnE (10, [V.tw, V.td])).length ≤ 15 := lnE_len (10, [V.tw, V.td])
  constructor
  · unfold vlL
    rw [txE_app, txE_app, txE_app]
    show ((lnE (0, [V.n]) ++ []) ++ (txE (pLs V V.n) ++ (txE (tLs V V.m) ++ (lnE (9, [V.sl]) ++ (lnE (10, [V.tw, V.td]) ++ []))))).length ≤ _
    simp only [List.length_append, List.append_nil]
    omega
  · unfold vlL
    simp only [List.length_append, List.length_cons, List.length_nil]
    omega
/-- a telling's lines -/
def acLn (q : Act) : Nat × List Nat := (11 + q.1, if q.1 = 2 then [q.2.1, q.2.2.1, q.2.2.2] else [q.2.1, q.2.2.1])
def tlLs : List Act → List (Nat × List Nat)
  | [] => []
  | q :: l => acLn q :: tlLs l
/-- an act that can be told so -/
def Aok (q : Act) : Prop := (q.1 = 0 ∨ q.1 = 1) ∧ q.2.1 ≤ 99 ∧ q.2.2.1 < 16 ∧ q.2.2.2 = 0 ∨ q.1 = 2 ∧ q.2.1 < 40 ∧ q.2.2.1 ≤ q.2.2.2 ∧ q.2.2.2 ≤ 99
theorem ac_step {q : Act} {S : Sm} (h : Aok q) (hn : S.tt.n < 30) : lnOK 1 (acLn q) S ∧ (lnR (acLn q) S).tt = adA S.tt q ∧ (lnR (acLn q) S).fl = 0 := by
  obtain ⟨so, a, c, d⟩ := q
  rcases h with ⟨h1 | h1, h2, h3, h4⟩ | ⟨h1, h2, h3, h4⟩
  · have h1 : so = 0 := h1
    have h4 : d = 0 := h4
    subst h1
    subst h4
    exact ⟨ok_11 hn h2 h3, (ln_11 a c S).1, (ln_11 a c S).2⟩
  · have h1 : so = 1 := h1
    have h4 : d = 0 := h4
    subst h1
    subst h4
    exact ⟨ok_12 hn h2 h3, (ln_12 a c S).1, (ln_12 a c S).2⟩
  · have h1 : so = 2 := h1
    subst h1
    exact ⟨ok_13 hn h2 h3 h4, (ln_13 a c d S).1, (ln_13 a c d S).2⟩
theorem ac_all : ∀ (l : List Act) (S : Sm), (∀ q, q ∈ l → Aok q) → S.tt.n + l.length ≤ 30 → S.fl = 0 → lnsOK 1 (tlLs l) S ∧ (lnsR (tlLs l) S).tt = tlL l S.tt ∧ (lnsR (tlLs l) S).fl = 0
  | [], S, _, _, h0 => ⟨trivial, rfl, h0⟩
  | q :: l, S, h, hn, _ => by
    have hn : S.tt.n + (l.length + 1) ≤ 30 := hn
    obtain ⟨h1, h2, h3⟩ := ac_step (h q List.mem_cons_self) (S := S) (by omega)
    have e : (lnR (acLn q) S).tt.n = S.tt.n + 1 := by rw [h2]; rfl
    obtain ⟨g1, g2, g3⟩ := ac_all l (lnR (acLn q) S) (fun z hz => h z (List.mem_cons_of_mem _ hz)) (by omega) h3
    refine ⟨⟨h1, g1⟩, ?_, g3⟩
    show (lnsR (tlLs l) (lnR (acLn q) S)).tt = tlL l (adA S.tt q)
    rw [g2, h2]
theorem tlLs_len : ∀ l : List Act, (txE (tlLs l)).length ≤ 19 * l.length ∧ (tlLs l).length = l.length
  | [] => ⟨Nat.le_refl _, rfl⟩
  | q :: l => by
    obtain ⟨h1, h2⟩ := tlLs_len l
    have := lnE_len (acLn q)
    have e : (acLn q).2.length ≤ 3 := by
      show (if q.1 = 2 then [q.2.1, q.2.2.1, q.2.2.2] else [q.2.1, q.2.2.1]).length ≤ 3
      split <;> simp
    constructor
    · show (lnE (acLn q) ++ txE (tlLs l)).length ≤ 19 * (l.length + 1)
      rw [List.length_append]
      omega
    · show (tlLs l).length + 1 = l.length + 1
      rw [h2]
theorem tlLs_app : ∀ l m : List Act, tlLs (l ++ m) = tlLs l ++ tlLs m
  | [], _ => rfl
  | q :: l, m => congrArg (acLn q :: ·) (tlLs_app l m)
