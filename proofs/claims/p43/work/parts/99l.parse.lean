/-! TEXTS: what is told (pure) -/
/-- (fault, its place, the greatest one told of), village, telling, the numbers of the line -/
abbrev Sm : Type := (Nat × Nat × Nat) × Vil × Tel × (Nat → Nat)
def Sm.fl (S : Sm) : Nat := S.1.1
def Sm.pl (S : Sm) : Nat := S.1.2.1
def Sm.gr (S : Sm) : Nat := S.1.2.2
def Sm.vv (S : Sm) : Vil := S.2.1
def Sm.tt (S : Sm) : Tel := S.2.2.1
def Sm.nb (S : Sm) : Nat → Nat := S.2.2.2
def mkS (fl pl gr : Nat) (v : Vil) (t : Tel) (nb : Nat → Nat) : Sm := ((fl, pl, gr), v, t, nb)
def setPe (v : Vil) (x : Nat) : Vil := mkV x v.m v.sl v.tw v.td v.kd v.db v.fr v.to v.dy v.st
def setSl (v : Vil) (x : Nat) : Vil := mkV v.n v.m x v.tw v.td v.kd v.db v.fr v.to v.dy v.st
def setTi (v : Vil) (x z : Nat) : Vil := mkV v.n v.m v.sl x z v.kd v.db v.fr v.to v.dy v.st
def addG (v : Vil) (a c d s : Nat) : Vil := mkV v.n (v.m + 1) v.sl v.tw v.td v.kd v.db (fun t => if t = v.m then a else v.fr t) (fun t => if t = v.m then c else v.to t) (fun t => if t = v.m then d else v.dy t) (fun t => if t = v.m then s else v.st t)
def addA (t : Tel) (so a c d : Nat) : Tel := (t.n + 1, fun k => if k = t.n then so else t.so k, fun k => if k = t.n then a else t.a k, fun k => if k = t.n then c else t.b k, fun k => if k = t.n then d else t.c k)
def v0V : Vil := mkV 2 0 0 0 0 (fun _ => 0) (fun _ => 1) (fun _ => 0) (fun _ => 0) (fun _ => 0) (fun _ => 0)
def blm (k w : Nat) (S : Sm) : Sm := if S.fl = 0 then mkS k w S.gr S.vv S.tt S.nb else S
def sty (w : Nat) (S : Sm) : Sm := mkS 1 w S.gr S.vv S.tt S.nb
def needW (i : Nat) : Nat := if i = 7 then 2 else if i = 8 then 4 else if i = 10 then 2 else if i = 13 then 3 else if 11 ≤ i then 2 else 1
def isKW (i : Nat) : Bool := decide (1 ≤ i ∧ i ≤ 6)
def isPW (i a : Nat) : Bool := isKW i || (decide (i = 7 ∧ a = 0) || decide (i = 8 ∧ a ≤ 1))
def mayW (i a x : Nat) (nb : Nat → Nat) : Bool := if isPW i a = true then decide (x < 16) && !decide ((i = 8 ∧ a = 1) ∧ x = nb 0) else if i = 0 then decide (1 ≤ x ∧ x ≤ 16) else if i = 7 then decide (1 ≤ x) else if i = 8 then decide (1 ≤ x ∧ x ≤ if a = 2 then 3 else 9) else if i = 9 then decide (x ≤ 3) else if i = 10 then decide (x ≤ 30) else if i = 13 then (if a = 0 then decide (x < 40) else if a = 1 then true else decide (nb 1 ≤ x)) else decide (a = 0 ∨ x < 16)
def accW (i a x w : Nat) (S : Sm) : Sm := if S.fl = 0 then (if mayW i a x S.nb = true then mkS 0 S.pl (if isPW i a = true then (if S.gr < x then x else S.gr) else S.gr) (if isKW i = true then setKd S.vv x (i - 1) else S.vv) S.tt (fun j => if j = a then x else S.nb j) else blm 2 w S) else S
def telV (i : Nat) (S : Sm) : Vil := if i = 0 then setPe S.vv (S.nb 0) else if i = 7 then setDb S.vv (S.nb 0) (S.nb 1) else if i = 8 then addG S.vv (S.nb 0) (S.nb 1) (S.nb 2) (S.nb 3) else if i = 9 then setSl S.vv (S.nb 0) else if i = 10 then setTi S.vv (S.nb 0) (S.nb 1) else S.vv
def telT (i : Nat) (S : Sm) : Tel := if 11 ≤ i then addA S.tt (i - 11) (S.nb 0) (S.nb 1) (if i = 13 then S.nb 2 else 0) else S.tt
def telW (i : Nat) (S : Sm) : Sm := if S.fl = 0 then mkS 0 S.pl S.gr (telV i S) (telT i S) S.nb else S
def fulB (i : Nat) (S : Sm) : Bool := decide (i = 8 ∧ 40 ≤ S.vv.m) || decide (11 ≤ i ∧ 30 ≤ S.tt.n)
def ful (i w : Nat) (S : Sm) : Sm := if fulB i S = true then blm 3 w S else S
/-- the numbers of a line -/
def nmL (y : Nat → Nat) (n i : Nat) : Nat → Nat → Nat → Sm → Nat × Nat × Sm
  | 0, w, a, S => (w, a, S)
  | f + 1, w, a, S => if kin y n w = 2 ∧ (a < needW i ∨ isKW i = true) then nmL y n i f (adv y n w) (a + 1) (accW i a (nmb y n w) w S) else (w, a, S)
/-- a line, and the token behind it; whether a text goes on so -/
def linR (y : Nat → Nat) (n i : Nat) (r : Nat × Nat × Sm) : Bool × Nat × Sm := if r.2.1 < needW i ∨ ¬ kin y n r.1 = 3 then (false, r.1, sty r.1 r.2.2) else (true, adv y n r.1, telW i r.2.2)
def linS (y : Nat → Nat) (n sort w : Nat) (S : Sm) : Bool × Nat × Sm := match wrdS y n sort w with
  | none => (false, w, sty w S)
  | some i => linR y n i (nmL y n i 600 (adv y n w) 0 (ful i w S))
def lins (y : Nat → Nat) (n sort : Nat) : Nat → Nat → Sm → Nat × Sm
  | 0, w, S => (w, S)
  | f + 1, w, S => if kin y n w = 0 then (w, S) else if (linS y n sort w S).1 = true then lins y n sort f (linS y n sort w S).2.1 (linS y n sort w S).2.2 else (linS y n sort w S).2
def S0 : Sm := mkS 0 0 0 v0V telN (fun _ => 0)
def last4 (n sort : Nat) (S : Sm) : Sm := if S.fl = 0 ∧ sort = 0 ∧ S.vv.n ≤ S.gr then mkS 4 n S.gr S.vv S.tt S.nb else S
def parS (y : Nat → Nat) (n sort : Nat) : Sm := last4 n sort (lins y n sort 601 (whr y n 0) S0).2
/-! what holds of it -/
def vilI (v : Vil) (g : Nat) : Prop := ((1 ≤ v.n ∧ v.n ≤ 16) ∧ v.m ≤ 40 ∧ v.sl ≤ 3 ∧ v.tw ≤ 30 ∧ v.td ≤ 30) ∧ (∀ p, p < 16 → v.kd p ≤ 5 ∧ 1 ≤ v.db p ∧ v.db p ≤ 99) ∧ ∀ t, t < v.m → v.fr t ≤ g ∧ v.to t ≤ g ∧ v.fr t ≠ v.to t ∧ (1 ≤ v.dy t ∧ v.dy t ≤ 3) ∧ 1 ≤ v.st t ∧ v.st t ≤ 9
def SmI (S : Sm) : Prop := S.fl ≤ 4 ∧ (S.fl = 0 → S.gr ≤ 15 ∧ vilI S.vv S.gr ∧ S.tt.ok)
def nbI (i a : Nat) (S : Sm) : Prop := S.fl = 0 → fulB i S = false ∧ ∀ j, j < a → j < 4 → S.nb j ≤ 99 ∧ mayW i j (S.nb j) S.nb = true ∧ (isPW i j = true → S.nb j ≤ S.gr)
theorem blm_fl {k w : Nat} {S : Sm} (hk : k ≠ 0) : (blm k w S).fl ≠ 0 := by
  unfold blm
  by_cases h : S.fl = 0
  · rw [if_pos h]
    exact hk
  · rw [if_neg h]
    exact h
theorem blm_I {k w : Nat} {S : Sm} (hk : k ≠ 0) (hk4 : k ≤ 4) (h : SmI S) : SmI (blm k w S) := by
  refine ⟨?_, fun q => absurd q (blm_fl hk)⟩
  unfold blm
  by_cases h0 : S.fl = 0
  · rw [if_pos h0]
    exact hk4
  · rw [if_neg h0]
    exact h.1
theorem sty_I {w : Nat} {S : Sm} : SmI (sty w S) := ⟨(by decide : (1 : Nat) ≤ 4), fun q => absurd q (by decide : ¬ (1 : Nat) = 0)⟩
theorem ful_I {i w : Nat} {S : Sm} (h : SmI S) : SmI (ful i w S) ∧ nbI i 0 (ful i w S) := by
  unfold ful
  cases c : fulB i S with
  | true =>
    rw [if_pos rfl]
    exact ⟨blm_I (by decide) (by decide) h, fun q => absurd q (blm_fl (by decide))⟩
  | false =>
    rw [if_neg Bool.false_ne_true]
    exact ⟨h, fun _ => ⟨c, fun j hj => absurd hj (Nat.not_lt_zero _)⟩⟩
theorem vilI_gr {v : Vil} {g g' : Nat} (h : g ≤ g') (k : vilI v g) : vilI v g' := ⟨k.1, k.2.1, fun t ht => by
  obtain ⟨z1, z2, z3⟩ := k.2.2 t ht
  exact ⟨by omega, by omega, z3⟩⟩
theorem mayW_nb {i a x : Nat} {nb nb' : Nat → Nat} (h : ∀ j, j < a → nb' j = nb j) : mayW i a x nb' = mayW i a x nb := by
  unfold mayW
  by_cases c1 : a = 1
  · rw [h 0 (by omega), c1]
    rfl
  · have e : decide ((i = 8 ∧ a = 1) ∧ x = nb' 0) = decide ((i = 8 ∧ a = 1) ∧ x = nb 0) := decide_eq_decide.mpr ⟨fun q => absurd q.1.2 c1, fun q => absurd q.1.2 c1⟩
    rw [e]
    by_cases c0 : a = 0
    · rw [c0]
      rfl
    · rw [h 1 (by omega)]
theorem mayW_P {i a x : Nat} {nb : Nat → Nat} (hp : isPW i a = true) (h : mayW i a x nb = true) : x < 16 ∧ ((i = 8 ∧ a = 1) → x ≠ nb 0) := by
  unfold mayW at h
  rw [if_pos hp, Bool.and_eq_true, decide_eq_true_iff, Bool.not_eq_true', decide_eq_false_iff_not] at h
  exact ⟨h.1, fun q e => h.2 ⟨q, e⟩⟩
theorem isKW_P {i a : Nat} (h : isKW i = true) : isPW i a = true := by
  unfold isPW
  rw [h]
  rfl
theorem accW_I {i a x w : Nat} {S : Sm} (hi : i < 14) (hx : x ≤ 99) (h : SmI S) (k : nbI i a S) : SmI (accW i a x w S) ∧ nbI i (a + 1) (accW i a x w S) := by
  unfold accW
  by_cases h0 : S.fl = 0
  · rw [if_pos h0]
    obtain ⟨g1, g2, g3⟩ := h.2 h0
    obtain ⟨k1, k2⟩ := k h0
    cases c : mayW i a x S.nb with
    | true =>
      rw [if_pos rfl]
      have hgr : S.gr ≤ (if isPW i a = true then (if S.gr < x then x else S.gr) else S.gr) := by
        split
        · split <;> omega
        · exact Nat.le_refl _
      have hgx : isPW i a = true → x ≤ (if isPW i a = true then (if S.gr < x then x else S.gr) else S.gr) := fun hp => by
        rw [if_pos hp]
        split <;> omega
      have hg15 : (if isPW i a = true then (if S.gr < x then x else S.gr) else S.gr) ≤ 15 := by
        cases hp : isPW i a with
        | true =>
          have := (mayW_P hp c).1
          rw [if_pos rfl]
          split <;> omega
        | false =>
          rw [if_neg Bool.false_ne_true]
          exact g1
      refine ⟨⟨Nat.zero_le _, fun _ => ⟨hg15, ?_, g3⟩⟩, fun _ => ⟨?_, fun j hj hj4 => ?_⟩⟩
      · show vilI (if isKW i = true then setKd S.vv x (i - 1) else S.vv) _
        have g2' := vilI_gr hgr g2
        cases hk : isKW i with
        | true =>
          have hx16 := (mayW_P (isKW_P (a := a) hk) c).1
          have hk2 := of_decide_eq_true hk
          rw [if_pos rfl]
          refine ⟨g2'.1, fun p hp => ?_, g2'.2.2⟩
          have g4 := g2'.2.1 p hp
          show (if p = x then i - 1 else S.vv.kd p) ≤ 5 ∧ 1 ≤ S.vv.db p ∧ S.vv.db p ≤ 99
          split
          · exact ⟨by omega, g4.2⟩
          · exact g4
        | false =>
          rw [if_neg Bool.false_ne_true]
          exact g2'
      · have e : (mkS 0 S.pl (if isPW i a = true then (if S.gr < x then x else S.gr) else S.gr) (if isKW i = true then setKd S.vv x (i - 1) else S.vv) S.tt (fun j => if j = a then x else S.nb j)).vv.m = S.vv.m := by
          show (if isKW i = true then setKd S.vv x (i - 1) else S.vv).m = S.vv.m
          split <;> rfl
        unfold fulB at k1 ⊢
        rw [e]
        exact k1
      · have low : ∀ q, q < j → (fun j => if j = a then x else S.nb j) q = S.nb q := fun q hq => if_neg (by omega)
        show (if j = a then x else S.nb j) ≤ 99 ∧ mayW i j (if j = a then x else S.nb j) (fun j => if j = a then x else S.nb j) = true ∧ (isPW i j = true → (if j = a then x else S.nb j) ≤ _)
        rw [mayW_nb low]
        by_cases e : j = a
        · rw [if_pos e, e]
          exact ⟨hx, c, hgx⟩
        · obtain ⟨q1, q2, q3⟩ := k2 j (by omega) hj4
          rw [if_neg e]
          exact ⟨q1, q2, fun hp => Nat.le_trans (q3 hp) hgr⟩
    | false =>
      rw [if_neg Bool.false_ne_true]
      exact ⟨blm_I (by decide) (by decide) h, fun q => absurd q (blm_fl (by decide))⟩
  · rw [if_neg h0]
    exact ⟨h, fun q => absurd q h0⟩
theorem telW_I {i a : Nat} {S : Sm} (hi : i < 14) (ha : needW i ≤ a) (h : SmI S) (k : nbI i a S) : SmI (telW i S) := by
  unfold telW
  by_cases h0 : S.fl = 0
  · rw [if_pos h0]
    obtain ⟨g1, g2, g3⟩ := h.2 h0
    obtain ⟨k1, k2⟩ := k h0
    obtain ⟨⟨v1, v2, v3, v4, v5⟩, v6, v7⟩ := id g2
    refine ⟨Nat.zero_le _, fun _ => ⟨g1, ?_, ?_⟩⟩
    · show vilI (telV i S) S.gr
      unfold telV
      by_cases c0 : i = 0
      · rw [if_pos c0]
        subst c0
        have q := (k2 0 (by unfold needW at ha; simp at ha; omega) (by omega)).2.1
        have q : decide (1 ≤ S.nb 0 ∧ S.nb 0 ≤ 16) = true := q
        have q := of_decide_eq_true q
        exact ⟨⟨q, v2, v3, v4, v5⟩, v6, v7⟩
      · rw [if_neg c0]
        by_cases c7 : i = 7
        · rw [if_pos c7]
          subst c7
          have ha : 2 ≤ a := ha
          have q1 := (k2 1 (by omega) (by omega)).1
          have q := (k2 1 (by omega) (by omega)).2.1
          have q : decide (1 ≤ S.nb 1) = true := q
          have q := of_decide_eq_true q
          refine ⟨⟨v1, v2, v3, v4, v5⟩, fun p hp => ?_, v7⟩
          have := v6 p hp
          show S.vv.kd p ≤ 5 ∧ 1 ≤ (if p = S.nb 0 then S.nb 1 else S.vv.db p) ∧ (if p = S.nb 0 then S.nb 1 else S.vv.db p) ≤ 99
          split
          · exact ⟨this.1, q, q1⟩
          · exact this
        · rw [if_neg c7]
          by_cases c8 : i = 8
          · rw [if_pos c8]
            subst c8
            have ha : 4 ≤ a := ha
            have q0 := k2 0 (by omega) (by omega)
            have q1 := k2 1 (by omega) (by omega)
            have q2 := (k2 2 (by omega) (by omega)).2.1
            have q3 := (k2 3 (by omega) (by omega)).2.1
            have q2 : decide (1 ≤ S.nb 2 ∧ S.nb 2 ≤ 3) = true := q2
            have q3 : decide (1 ≤ S.nb 3 ∧ S.nb 3 ≤ 9) = true := q3
            have q2 := of_decide_eq_true q2
            have q3 := of_decide_eq_true q3
            have p0 := q0.2.2 rfl
            have p1 := q1.2.2 rfl
            have pne := (mayW_P (i := 8) (a := 1) rfl q1.2.1).2 ⟨rfl, rfl⟩
            have hm : S.vv.m < 40 := by
              refine Nat.not_le.mp (fun z => ?_)
              unfold fulB at k1
              rw [decide_eq_true (⟨rfl, z⟩ : 8 = 8 ∧ 40 ≤ S.vv.m)] at k1
              cases k1
            refine ⟨⟨v1, by show S.vv.m + 1 ≤ 40; omega, v3, v4, v5⟩, v6, fun t ht => ?_⟩
            have ht : t < S.vv.m + 1 := ht
            show (if t = S.vv.m then S.nb 0 else S.vv.fr t) ≤ S.gr ∧ (if t = S.vv.m then S.nb 1 else S.vv.to t) ≤ S.gr ∧ (if t = S.vv.m then S.nb 0 else S.vv.fr t) ≠ (if t = S.vv.m then S.nb 1 else S.vv.to t) ∧ (1 ≤ (if t = S.vv.m then S.nb 2 else S.vv.dy t) ∧ (if t = S.vv.m then S.nb 2 else S.vv.dy t) ≤ 3) ∧ 1 ≤ (if t = S.vv.m then S.nb 3 else S.vv.st t) ∧ (if t = S.vv.m then S.nb 3 else S.vv.st t) ≤ 9
            by_cases e : t = S.vv.m
            · rw [if_pos e, if_pos e, if_pos e, if_pos e]
              exact ⟨p0, p1, fun z => pne z.symm, q2, q3⟩
            · rw [if_neg e, if_neg e, if_neg e, if_neg e]
              exact v7 t (by omega)
          · rw [if_neg c8]
            by_cases c9 : i = 9
            · rw [if_pos c9]
              subst c9
              have ha : 1 ≤ a := ha
              have q := (k2 0 (by omega) (by omega)).2.1
              have q : decide (S.nb 0 ≤ 3) = true := q
              exact ⟨⟨v1, v2, of_decide_eq_true q, v4, v5⟩, v6, v7⟩
            · rw [if_neg c9]
              by_cases c10 : i = 10
              · rw [if_pos c10]
                subst c10
                have ha : 2 ≤ a := ha
                have q0 := (k2 0 (by omega) (by omega)).2.1
                have q1 := (k2 1 (by omega) (by omega)).2.1
                have q0 : decide (S.nb 0 ≤ 30) = true := q0
                have q1 : decide (S.nb 1 ≤ 30) = true := q1
                exact ⟨⟨v1, v2, v3, of_decide_eq_true q0, of_decide_eq_true q1⟩, v6, v7⟩
              · rw [if_neg c10]
                exact g2
    · show (telT i S).ok
      unfold telT
      by_cases c : 11 ≤ i
      · rw [if_pos c]
        have hn : S.tt.n < 30 := by
          refine Nat.not_le.mp (fun z => ?_)
          unfold fulB at k1
          rw [decide_eq_true (⟨c, z⟩ : 11 ≤ i ∧ 30 ≤ S.tt.n), Bool.or_true] at k1
          cases k1
        have ha2 : 2 ≤ a := by
          refine Nat.le_trans ?_ ha
          unfold needW
          repeat' split
          all_goals omega
        have q0 := k2 0 (by omega) (by omega)
        have q1 := k2 1 (by omega) (by omega)
        refine ⟨by show S.tt.n + 1 ≤ 30; omega, fun j hj => ?_⟩
        have hj : j < S.tt.n + 1 := hj
        show (if j = S.tt.n then i - 11 else S.tt.so j) ≤ 2 ∧ ((if j = S.tt.n then i - 11 else S.tt.so j) < 2 → (if j = S.tt.n then S.nb 0 else S.tt.a j) ≤ 99 ∧ (if j = S.tt.n then S.nb 1 else S.tt.b j) ≤ 15) ∧ ((if j = S.tt.n then i - 11 else S.tt.so j) = 2 → (if j = S.tt.n then S.nb 0 else S.tt.a j) ≤ 39 ∧ (if j = S.tt.n then S.nb 1 else S.tt.b j) ≤ (if j = S.tt.n then (if i = 13 then S.nb 2 else 0) else S.tt.c j) ∧ (if j = S.tt.n then (if i = 13 then S.nb 2 else 0) else S.tt.c j) ≤ 99)
        by_cases e : j = S.tt.n
        · rw [if_pos e, if_pos e, if_pos e, if_pos e]
          refine ⟨by omega, fun z => ⟨q0.1, ?_⟩, fun z => ?_⟩
          · have m1 := q1.2.1
            unfold mayW at m1
            rcases (by omega : i = 11 ∨ i = 12) with rfl | rfl
            · have m1 : decide (1 = 0 ∨ S.nb 1 < 16) = true := m1
              have := of_decide_eq_true m1
              omega
            · have m1 : decide (1 = 0 ∨ S.nb 1 < 16) = true := m1
              have := of_decide_eq_true m1
              omega
          · have e13 : i = 13 := by omega
            subst e13
            rw [if_pos rfl]
            have ha : 3 ≤ a := ha
            have q2 := k2 2 (by omega) (by omega)
            have m0 : decide (S.nb 0 < 40) = true := q0.2.1
            have m2 : decide (S.nb 1 ≤ S.nb 2) = true := q2.2.1
            have m0 := of_decide_eq_true m0
            have m2 := of_decide_eq_true m2
            exact ⟨by omega, m2, q2.1⟩
        · rw [if_neg e, if_neg e, if_neg e, if_neg e]
          exact g3.2 j (by omega)
      · rw [if_neg c]
        exact g3
  · rw [if_neg h0]
    exact h
/-- the numbers' loop ends by itself; places go on -/
theorem nmL_I {y : Nat → Nat} {n i : Nat} (hi : i < 14) : ∀ f w a S, w ≤ n → n - w < f → SmI S → nbI i a S → (w ≤ (nmL y n i f w a S).1 ∧ (nmL y n i f w a S).1 ≤ n) ∧ SmI (nmL y n i f w a S).2.2 ∧ nbI i (nmL y n i f w a S).2.1 (nmL y n i f w a S).2.2 ∧ ¬ (kin y n (nmL y n i f w a S).1 = 2 ∧ ((nmL y n i f w a S).2.1 < needW i ∨ isKW i = true))
  | 0, w, a, S, _, h, _, _ => by omega
  | f + 1, w, a, S, hw, hf, h, k => by
    unfold nmL
    by_cases c : kin y n w = 2 ∧ (a < needW i ∨ isKW i = true)
    · rw [if_pos c]
      have wn : w < n := kin_lt (by rw [c.1]; decide)
      obtain ⟨a1, a2, a3⟩ := adv_le (y := y) hw
      have a3 := a3 wn
      obtain ⟨g1, g2⟩ := accW_I (w := w) hi (nmb_le c.1) h k
      obtain ⟨q1, q2, q3, q4⟩ := nmL_I hi f (adv y n w) (a + 1) _ a2 (by omega) g1 g2
      exact ⟨⟨by omega, q1.2⟩, q2, q3, q4⟩
    · rw [if_neg c]
      exact ⟨⟨Nat.le_refl _, hw⟩, h, k, c⟩
theorem linS_I {y : Nat → Nat} {n sort w : Nat} {S : Sm} (hn : n ≤ 600) (hw : w < n) (h : SmI S) : SmI (linS y n sort w S).2.2 ∧ (linS y n sort w S).2.1 ≤ n ∧ ((linS y n sort w S).1 = true → w < (linS y n sort w S).2.1) := by
  unfold linS
  cases e : wrdS y n sort w with
  | none => exact ⟨sty_I, Nat.le_of_lt hw, fun q => by cases q⟩
  | some i =>
    have hi := (wrdS_some e).1.1
    obtain ⟨a1, a2, a3⟩ := adv_le (y := y) (Nat.le_of_lt hw)
    have a3 := a3 hw
    obtain ⟨f1, f2⟩ := ful_I (i := i) (w := w) h
    obtain ⟨q1, q2, q3, q4⟩ := nmL_I (y := y) hi 600 (adv y n w) 0 _ a2 (by omega) f1 f2
    show SmI (linR y n i _).2.2 ∧ (linR y n i _).2.1 ≤ n ∧ ((linR y n i _).1 = true → w < (linR y n i _).2.1)
    unfold linR
    by_cases c : (nmL y n i 600 (adv y n w) 0 (ful i w S)).2.1 < needW i ∨ ¬ kin y n (nmL y n i 600 (adv y n w) 0 (ful i w S)).1 = 3
    · rw [if_pos c]
      exact ⟨sty_I, q1.2, fun q => by cases q⟩
    · rw [if_neg c]
      obtain ⟨b1, b2, b3⟩ := adv_le (y := y) q1.2
      exact ⟨telW_I hi (by omega) q2 q3, b2, fun _ => by show w < adv y n _; omega⟩
theorem lins_I {y : Nat → Nat} {n sort : Nat} (hn : n ≤ 600) : ∀ f w S, w ≤ n → SmI S → SmI (lins y n sort f w S).2
  | 0, w, S, _, h => h
  | f + 1, w, S, hw, h => by
    unfold lins
    by_cases c : kin y n w = 0
    · rw [if_pos c]
      exact h
    · rw [if_neg c]
      obtain ⟨g1, g2, g3⟩ := linS_I (sort := sort) hn (kin_lt c) h
      cases e : (linS y n sort w S).1 with
      | true =>
        rw [if_pos rfl]
        exact lins_I hn f _ _ g2 g1
      | false =>
        rw [if_neg Bool.false_ne_true]
        exact g1
theorem S0_I : SmI S0 := ⟨Nat.zero_le _, fun _ => ⟨by decide, ⟨⟨by decide, by decide, by decide, by decide, by decide⟩, fun p _ => ⟨(by decide : (0 : Nat) ≤ 5), (by decide : (1 : Nat) ≤ 1), (by decide : (1 : Nat) ≤ 99)⟩, fun t ht => absurd ht (Nat.not_lt_zero _)⟩, telN_ok⟩⟩
theorem parS_ok {y : Nat → Nat} {n sort : Nat} (hn : n ≤ 600) : (parS y n sort).fl ≤ 4 ∧ ((parS y n sort).fl = 0 → (parS y n sort).tt.ok ∧ (sort = 0 → (parS y n sort).vv.ok 40)) := by
  have w0 := rnT_le (f := isBl) (y := y) (n := n) (p := 0) (Nat.zero_le _)
  have h := lins_I (y := y) (sort := sort) hn 601 (whr y n 0) S0 w0.2 S0_I
  unfold parS last4
  by_cases c : (lins y n sort 601 (whr y n 0) S0).2.fl = 0 ∧ sort = 0 ∧ (lins y n sort 601 (whr y n 0) S0).2.vv.n ≤ (lins y n sort 601 (whr y n 0) S0).2.gr
  · rw [if_pos c]
    exact ⟨(by decide : (4 : Nat) ≤ 4), fun q => absurd q (by decide : ¬ (4 : Nat) = 0)⟩
  · rw [if_neg c]
    refine ⟨h.1, fun h0 => ?_⟩
    obtain ⟨g1, ⟨⟨v1, v2, v3, v4, v5⟩, v6, v7⟩, g3⟩ := h.2 h0
    refine ⟨g3, fun hs => ⟨v1, v2, v3, v4, v5, v6, fun t ht => ?_⟩⟩
    obtain ⟨z1, z2, z3, z4⟩ := v7 t ht
    have : (lins y n sort 601 (whr y n 0) S0).2.gr < (lins y n sort 601 (whr y n 0) S0).2.vv.n := Nat.not_le.mp (fun z => c ⟨h0, hs, z⟩)
    exact ⟨by omega, by omega, fun _ => z3, z4⟩
