/-! TEXTS written line by line are read as they were written (pure) -/
/-- the bytes from a place on, to the end -/
def At (y : Nat → Nat) (n w : Nat) (l : List Nat) : Prop := w + l.length = n ∧ ∀ j, j < l.length → y (w + j) = l.getD j 0
theorem At.cons {y : Nat → Nat} {n w c : Nat} {l : List Nat} (h : At y n w (c :: l)) : y w = c ∧ At y n (w + 1) l ∧ w < n := by
  obtain ⟨h1, h2⟩ := h
  have h1 : w + (l.length + 1) = n := h1
  refine ⟨?_, ⟨by omega, fun j hj => ?_⟩, by omega⟩
  · exact h2 0 (Nat.succ_pos _)
  · have := h2 (j + 1) (Nat.succ_lt_succ hj)
    rw [show w + 1 + j = w + (j + 1) by omega, this]
    rfl
theorem At.app {y : Nat → Nat} {n : Nat} {r : List Nat} : ∀ {l : List Nat} {w : Nat}, At y n w (l ++ r) → At y n (w + l.length) r
  | [], w, h => h
  | c :: l, w, h => by
    have := At.app (l := l) (w := w + 1) (At.cons h).2.1
    rw [show w + (c :: l).length = w + 1 + l.length by simp; omega]
    exact this
theorem At.nil {y : Nat → Nat} {n w : Nat} (h : At y n w []) : w = n := h.1
def blkB (c : Nat) : Bool := !isBl c
theorem whr_b {y : Nat → Nat} {n w : Nat} {l : List Nat} (h : At y n w (32 :: l)) : whr y n w = whr y n (w + 1) := by
  obtain ⟨h1, h2, h3⟩ := h.cons
  unfold whr
  exact rnT_go h3 (by rw [h1]; rfl)
theorem whr_n {y : Nat → Nat} {n w c : Nat} {l : List Nat} (h : At y n w (c :: l)) (hc : isBl c = false) : whr y n w = w := by
  obtain ⟨h1, h2, h3⟩ := h.cons
  unfold whr
  exact rnT_stop (by rw [h1]; exact hc)
theorem whr_e {y : Nat → Nat} {n w : Nat} (h : At y n w []) : whr y n w = w := by
  unfold whr
  exact rnT_out (by rw [h.nil]; exact Nat.le_refl _)
/-- a run of bytes of a kind, and what stops it -/
theorem run_at {f : Nat → Bool} {y : Nat → Nat} {n c : Nat} {r : List Nat} (hc : f c = false) : ∀ {l : List Nat} {w : Nat}, At y n w (l ++ c :: r) → (∀ x, x ∈ l → f x = true) → rnT f y n w = w + l.length
  | [], w, h, _ => by
    obtain ⟨h1, h2, h3⟩ := At.cons (c := c) (l := r) h
    exact rnT_stop (by rw [h1]; exact hc)
  | a :: l, w, h, hl => by
    obtain ⟨h1, h2, h3⟩ := At.cons (c := a) (l := l ++ c :: r) h
    rw [rnT_go h3 (by rw [h1]; exact hl a List.mem_cons_self), run_at hc h2 (fun x hx => hl x (List.mem_cons_of_mem _ hx))]
    show w + 1 + l.length = w + (l.length + 1)
    omega
theorem lts_at {y : Nat → Nat} {n : Nat} {r : List Nat} : ∀ {l : List Nat} {w : Nat}, At y n w (l ++ r) → lts y l.length w = l
  | [], _, _ => rfl
  | a :: l, w, h => by
    obtain ⟨h1, h2, -⟩ := At.cons (c := a) (l := l ++ r) h
    show y w :: lts y l.length (w + 1) = a :: l
    rw [h1, lts_at h2]
/-- a word -/
theorem tk_word {y : Nat → Nat} {n w i sort c : Nat} {r : List Nat} (h : At y n w (nmW i ++ c :: r)) (hi : i < 14) (hs : if sort = 0 then i < 11 else 11 ≤ i) (hc : isLt c = false) : kin y n w = 1 ∧ wrdS y n sort w = some i ∧ adv y n w = whr y n (w + (nmW i).length) := by
  have hal : ∀ x, x ∈ nmW i → isLt x = true := fun x hx => by
    have := nmW_letL hi x hx
    unfold isLt
    rw [decide_eq_true this.1, decide_eq_true this.2]
    rfl
  have hr := run_at (f := isLt) hc h hal
  have hne : ∃ a l, nmW i = a :: l := by
    cases e : nmW i with
    | nil =>
      exfalso
      have : ∀ i, i < 14 → nmW i ≠ [] := by decide +kernel
      exact this i hi e
    | cons a l => exact ⟨a, l, rfl⟩
  obtain ⟨a, l, e⟩ := hne
  have hw : y w = a ∧ w < n := by
    rw [e] at h
    exact ⟨(At.cons (l := l ++ c :: r) h).1, (At.cons (l := l ++ c :: r) h).2.2⟩
  have hlw : isLt (y w) = true := by
    rw [hw.1]
    exact hal a (by rw [e]; exact List.mem_cons_self)
  have k1 : kin y n w = 1 := kin_1.mpr ⟨hw.2, hlw⟩
  have hnx : nxt y n w = w + (nmW i).length := by
    unfold nxt
    rw [if_neg (by omega), if_pos hlw, hr]
  have hisW : isW y n w i = true := by
    unfold isW
    rw [hnx, Nat.add_sub_cancel_left, lts_at h]
    exact decide_eq_true rfl
  have hno : ∀ j, j < 14 → j ≠ i → isW y n w j = false := fun j hj hji => by
    cases c : isW y n w j with
    | false => rfl
    | true =>
      have e1 := of_decide_eq_true c
      have e2 := of_decide_eq_true hisW
      exact absurd (nmW_inj j hj i hi (e1.symm.trans e2)) hji
  refine ⟨k1, ?_, by unfold adv; rw [hnx]⟩
  unfold wrdS
  rw [if_pos k1]
  by_cases s0 : sort = 0
  · rw [if_pos s0] at hs ⊢
    exact fstN_at (Nat.zero_le _) (by omega) (fun j _ hj => hno j (by omega) (by omega)) hisW
  · rw [if_neg s0] at hs ⊢
    exact fstN_at hs (by omega) (fun j _ hj => hno j (by omega) (by omega)) hisW
/-- a number's digits -/
def dgs (x : Nat) : List Nat := if x < 10 then [48 + x] else [48 + x / 10, 48 + x % 10]
theorem isDg_d {k : Nat} (h : k < 10) : isDg (48 + k) = true := by
  unfold isDg
  rw [decide_eq_true (show 48 ≤ 48 + k by omega), decide_eq_true (show 48 + k ≤ 57 by omega)]
  rfl
theorem isLt_d {k : Nat} (h : k < 10) : isLt (48 + k) = false := by
  unfold isLt
  rw [decide_eq_false (show ¬ 97 ≤ 48 + k by omega)]
  rfl
theorem tk_num {y : Nat → Nat} {n w x : Nat} {r : List Nat} (h : At y n w (dgs x ++ 32 :: r)) (hx : x ≤ 99) : kin y n w = 2 ∧ nmb y n w = x ∧ adv y n w = whr y n (w + (dgs x).length) := by
  by_cases c : x < 10
  · have e : dgs x = [48 + x] := if_pos c
    rw [e] at h ⊢
    have hr := run_at (f := isDg) (y := y) (n := n) (c := 32) (l := [48 + x]) rfl h (fun z hz => by rw [List.mem_singleton.mp hz]; exact isDg_d c)
    have hr : rnT isDg y n w = w + 1 := hr
    obtain ⟨h1, h2, h3⟩ := At.cons (l := 32 :: r) h
    refine ⟨?_, ?_, ?_⟩
    · unfold kin
      rw [if_neg (by omega), h1, isLt_d c, isDg_d c, hr, if_neg (by simp), if_pos rfl, if_pos (by omega)]
    · unfold nmb
      rw [if_pos hr, h1]
      omega
    · unfold adv nxt
      rw [if_neg (by omega), h1, isLt_d c, isDg_d c, hr]
      rfl
  · have e : dgs x = [48 + x / 10, 48 + x % 10] := if_neg c
    have c1 : x / 10 < 10 := by omega
    have c2 : x % 10 < 10 := by omega
    rw [e] at h ⊢
    have hr := run_at (f := isDg) (y := y) (n := n) (c := 32) (l := [48 + x / 10, 48 + x % 10]) rfl h (fun z hz => by
      rcases List.mem_cons.mp hz with e | hz
      · rw [e]; exact isDg_d c1
      · rw [List.mem_singleton.mp hz]; exact isDg_d c2)
    have hr : rnT isDg y n w = w + 2 := hr
    obtain ⟨h1, h2, h3⟩ := At.cons (l := (48 + x % 10) :: 32 :: r) h
    obtain ⟨h4, -, -⟩ := At.cons h2
    refine ⟨?_, ?_, ?_⟩
    · unfold kin
      rw [if_neg (by omega), h1, isLt_d c1, isDg_d c1, hr, if_neg (by simp), if_pos rfl, if_pos (by omega)]
    · unfold nmb
      rw [if_neg (by omega), h1, h4]
      omega
    · unfold adv nxt
      rw [if_neg (by omega), h1, isLt_d c1, isDg_d c1, hr]
      rfl
theorem dgs_hd (x : Nat) (hx : x ≤ 99) : ∃ c l, dgs x = c :: l ∧ isBl c = false := by
  by_cases c : x < 10
  · refine ⟨48 + x, [], if_pos c, ?_⟩
    unfold isBl
    rw [decide_eq_false (by omega), decide_eq_false (by omega)]
    rfl
  · refine ⟨48 + x / 10, [48 + x % 10], if_neg c, ?_⟩
    unfold isBl
    rw [decide_eq_false (by omega), decide_eq_false (by omega)]
    rfl
theorem tk_stop {y : Nat → Nat} {n w : Nat} {r : List Nat} (h : At y n w (59 :: r)) : kin y n w = 3 ∧ adv y n w = whr y n (w + 1) := by
  obtain ⟨h1, h2, h3⟩ := h.cons
  refine ⟨?_, ?_⟩
  · unfold kin
    rw [if_neg (by omega), h1]
    rfl
  · unfold adv nxt
    rw [if_neg (by omega), h1]
    rfl
/-- numbers, each between blanks -/
def nmE : List Nat → List Nat
  | [] => []
  | x :: l => 32 :: (dgs x ++ 32 :: nmE l)
def lnE (q : Nat × List Nat) : List Nat := nmW q.1 ++ (nmE q.2 ++ [59])
def txE : List (Nat × List Nat) → List Nat
  | [] => []
  | q :: l => lnE q ++ txE l
/-- a number taken -/
def accT (i a x : Nat) (S : Sm) : Sm := mkS 0 S.pl (if isPW i a = true then (if S.gr < x then x else S.gr) else S.gr) (if isKW i = true then setKd S.vv x (i - 1) else S.vv) S.tt (fun j => if j = a then x else S.nb j)
def accL (i : Nat) : Nat → List Nat → Sm → Sm
  | _, [], S => S
  | a, x :: l, S => accL i (a + 1) l (accT i a x S)
def accOK (i : Nat) : Nat → List Nat → (Nat → Nat) → Prop
  | _, [], _ => True
  | a, x :: l, nb => mayW i a x nb = true ∧ x ≤ 99 ∧ accOK i (a + 1) l (fun j => if j = a then x else nb j)
theorem accL_fl (i : Nat) : ∀ (l : List Nat) (a : Nat) (S : Sm), S.fl = 0 → (accL i a l S).fl = 0
  | [], _, _, h => h
  | _ :: l, a, _, _ => accL_fl i l (a + 1) _ rfl
theorem nm_loop {y : Nat → Nat} {n i : Nat} {r : List Nat} : ∀ (l : List Nat) (f a w : Nat) (S : Sm), At y n w (nmE l ++ 59 :: r) → S.fl = 0 → accOK i a l S.nb → a + l.length ≤ needW i → l.length < f → ∃ w1, nmL y n i f (whr y n w) a S = (w1, a + l.length, accL i a l S) ∧ At y n w1 (59 :: r)
  | [], 0, _, _, _, _, _, _, _, hf => absurd hf (Nat.not_lt_zero _)
  | [], f + 1, a, w, S, h, h0, _, _, _ => by
    have h : At y n w (59 :: r) := h
    refine ⟨w, ?_, h⟩
    rw [whr_n h rfl]
    unfold nmL
    rw [if_neg (by rw [(tk_stop h).1]; intro q; exact absurd q.1 (by decide))]
    rfl
  | x :: l, 0, _, _, _, _, _, _, _, hf => absurd hf (Nat.not_lt_zero _)
  | x :: l, f + 1, a, w, S, h, h0, hok, hn, hf => by
    have h : At y n w (32 :: (dgs x ++ (32 :: (nmE l ++ 59 :: r)))) := by
      have e : nmE (x :: l) ++ 59 :: r = 32 :: (dgs x ++ (32 :: (nmE l ++ 59 :: r))) := by
        show 32 :: (dgs x ++ 32 :: nmE l) ++ 59 :: r = _
        simp
      rw [← e]
      exact h
    obtain ⟨hm, hx, hok⟩ := hok
    have hn : a + (l.length + 1) ≤ needW i := hn
    have hf : l.length + 1 < f + 1 := hf
    have h1 := h.cons.2.1
    obtain ⟨c, d, ed, hc⟩ := dgs_hd x hx
    have hw : whr y n w = w + 1 := by
      rw [whr_b h]
      rw [ed] at h1
      exact whr_n h1 hc
    obtain ⟨k2, kn, ka⟩ := tk_num h1 hx
    have h2 := (At.app h1).cons
    obtain ⟨w1, g1, g2⟩ := nm_loop l f (a + 1) (w + 1 + (dgs x).length + 1) (accT i a x S) h2.2.1 rfl hok (by omega) (by omega)
    refine ⟨w1, ?_, g2⟩
    rw [hw]
    unfold nmL
    rw [if_pos ⟨k2, Or.inl (by omega)⟩, ka, whr_b (At.app h1), kn]
    have e : accW i a x (w + 1) S = accT i a x S := by
      unfold accW
      rw [if_pos h0, if_pos hm]
      rfl
    rw [e, g1]
    show (w1, a + 1 + l.length, _) = (w1, a + (l.length + 1), _)
    rw [show a + 1 + l.length = a + (l.length + 1) by omega]
    rfl
/-- what a line leaves -/
def lnR (q : Nat × List Nat) (S : Sm) : Sm := telW q.1 (accL q.1 0 q.2 S)
def lnOK (sort : Nat) (q : Nat × List Nat) (S : Sm) : Prop := q.1 < 14 ∧ (if sort = 0 then q.1 < 11 else 11 ≤ q.1) ∧ fulB q.1 S = false ∧ q.2.length = needW q.1 ∧ accOK q.1 0 q.2 S.nb
theorem needW_le (i : Nat) : needW i ≤ 4 := by
  unfold needW
  repeat' split
  all_goals omega
theorem lnR_fl {q : Nat × List Nat} {S : Sm} (h : S.fl = 0) : (lnR q S).fl = 0 := by
  unfold lnR telW
  rw [if_pos (accL_fl _ _ _ _ h)]
  rfl
theorem line_ok {y : Nat → Nat} {n w sort : Nat} {q : Nat × List Nat} {r : List Nat} {S : Sm} (h : At y n w (lnE q ++ r)) (h0 : S.fl = 0) (hok : lnOK sort q S) : kin y n w = 1 ∧ ∃ w2, linS y n sort w S = (true, whr y n w2, lnR q S) ∧ At y n w2 r := by
  obtain ⟨i, l⟩ := q
  obtain ⟨hi, hs, hf, hl, ha⟩ := hok
  have hi : i < 14 := hi
  have hl : l.length = needW i := hl
  have ha : accOK i 0 l S.nb := ha
  have h : At y n w (nmW i ++ (nmE l ++ 59 :: r)) := by
    have e : lnE (i, l) ++ r = nmW i ++ (nmE l ++ 59 :: r) := by
      show nmW i ++ (nmE l ++ [59]) ++ r = _
      simp
    rw [← e]
    exact h
  have hh : ∃ c r', nmE l ++ 59 :: r = c :: r' ∧ isLt c = false := by
    cases l with
    | nil => exact ⟨59, r, rfl, rfl⟩
    | cons x l => exact ⟨32, _, rfl, rfl⟩
  obtain ⟨c, r', e, hc⟩ := hh
  have hA := h
  rw [e] at hA
  obtain ⟨k1, k2, k3⟩ := tk_word (sort := sort) hA hi hs hc
  have hneed := needW_le i
  obtain ⟨w1, g1, g2⟩ := nm_loop l 600 0 (w + (nmW i).length) S (At.app h) h0 ha (by omega) (by omega)
  obtain ⟨t1, t2⟩ := tk_stop g2
  refine ⟨k1, w1 + 1, ?_, g2.cons.2.1⟩
  unfold linS
  rw [k2]
  show linR y n i (nmL y n i 600 (adv y n w) 0 (ful i w S)) = _
  have e2 : ful i w S = S := by
    unfold ful
    rw [if_neg (by rw [hf]; exact Bool.false_ne_true)]
  rw [e2, k3, g1]
  unfold linR
  rw [if_neg (by rintro (q | q); exact absurd q (by show ¬ 0 + l.length < needW i; omega); exact q t1)]
  show (true, adv y n w1, telW i (accL i 0 l S)) = _
  rw [t2]
  rfl
def lnsR : List (Nat × List Nat) → Sm → Sm
  | [], S => S
  | q :: l, S => lnsR l (lnR q S)
def lnsOK (sort : Nat) : List (Nat × List Nat) → Sm → Prop
  | [], _ => True
  | q :: l, S => lnOK sort q S ∧ lnsOK sort l (lnR q S)
theorem lns_w {y : Nat → Nat} {n w sort : Nat} {l : List (Nat × List Nat)} {S : Sm} (h : At y n w (txE l)) (hok : lnsOK sort l S) : whr y n w = w := by
  cases l with
  | nil => exact whr_e h
  | cons q l =>
    obtain ⟨i, m⟩ := q
    have hi : i < 14 := hok.1.1
    have : ∀ i, i < 14 → ∃ c d, nmW i = c :: d ∧ isBl c = false := by
      intro i hi
      match i, hi with
      | 0, _ => exact ⟨_, _, rfl, rfl⟩
      | 1, _ => exact ⟨_, _, rfl, rfl⟩
      | 2, _ => exact ⟨_, _, rfl, rfl⟩
      | 3, _ => exact ⟨_, _, rfl, rfl⟩
      | 4, _ => exact ⟨_, _, rfl, rfl⟩
      | 5, _ => exact ⟨_, _, rfl, rfl⟩
      | 6, _ => exact ⟨_, _, rfl, rfl⟩
      | 7, _ => exact ⟨_, _, rfl, rfl⟩
      | 8, _ => exact ⟨_, _, rfl, rfl⟩
      | 9, _ => exact ⟨_, _, rfl, rfl⟩
      | 10, _ => exact ⟨_, _, rfl, rfl⟩
      | 11, _ => exact ⟨_, _, rfl, rfl⟩
      | 12, _ => exact ⟨_, _, rfl, rfl⟩
      | n + 13, _ => exact ⟨_, _, rfl, rfl⟩
    obtain ⟨c, d, e, hc⟩ := this i hi
    have h : At y n w (nmW i ++ (nmE m ++ [59]) ++ txE l) := h
    rw [e] at h
    exact whr_n h hc
theorem lins_ok {y : Nat → Nat} {n sort : Nat} : ∀ (l : List (Nat × List Nat)) (f w : Nat) (S : Sm), At y n w (txE l) → S.fl = 0 → lnsOK sort l S → l.length ≤ f → (lins y n sort f w S).2 = lnsR l S
  | [], 0, _, _, _, _, _, _ => rfl
  | [], f + 1, w, S, h, _, _, _ => by
    unfold lins
    rw [if_pos (kin_0 (by rw [At.nil h]; exact Nat.le_refl _))]
    rfl
  | q :: l, 0, _, _, _, _, _, hf => absurd hf (Nat.not_succ_le_zero _)
  | q :: l, f + 1, w, S, h, h0, hok, hf => by
    obtain ⟨k1, w2, g1, g2⟩ := line_ok (r := txE l) h h0 hok.1
    unfold lins
    rw [if_neg (by rw [k1]; decide), g1]
    show (if true = true then lins y n sort f (whr y n w2) (lnR q S) else _).2 = _
    rw [if_pos rfl, lns_w g2 hok.2]
    exact lins_ok l f w2 _ g2 (lnR_fl h0) hok.2 (Nat.le_of_succ_le_succ hf)
theorem lnsR_fl : ∀ (l : List (Nat × List Nat)) (S : Sm), S.fl = 0 → (lnsR l S).fl = 0
  | [], _, h => h
  | _ :: l, _, h => lnsR_fl l _ (lnR_fl h)
/-- a whole text -/
theorem parS_ln {y : Nat → Nat} {n sort : Nat} {l : List (Nat × List Nat)} (h : At y n 0 (txE l)) (hok : lnsOK sort l S0) (hl : l.length ≤ 601) (hg : sort = 0 → (lnsR l S0).gr < (lnsR l S0).vv.n) : parS y n sort = lnsR l S0 := by
  unfold parS
  rw [lns_w h hok, lins_ok l 601 0 S0 h rfl hok hl]
  unfold last4
  rw [if_neg]
  rintro ⟨-, q1, q2⟩
  have := hg q1
  omega
theorem lnsR_app : ∀ (l m : List (Nat × List Nat)) (S : Sm), lnsR (l ++ m) S = lnsR m (lnsR l S)
  | [], _, _ => rfl
  | q :: l, m, S => lnsR_app l m (lnR q S)
theorem lnsOK_app {sort : Nat} : ∀ (l m : List (Nat × List Nat)) (S : Sm), lnsOK sort l S → lnsOK sort m (lnsR l S) → lnsOK sort (l ++ m) S
  | [], _, _, _, h => h
  | _ :: l, m, _, h1, h2 => ⟨h1.1, lnsOK_app l m _ h1.2 h2⟩
theorem txE_app : ∀ (l m : List (Nat × List Nat)), txE (l ++ m) = txE l ++ txE m
  | [], _ => rfl
  | q :: l, m => by
    show lnE q ++ txE (l ++ m) = lnE q ++ txE l ++ txE m
    rw [txE_app l m, List.append_assoc]
