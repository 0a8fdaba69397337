/-! THE SPEC: villages, tellings, worlds, days. Sides: 0 the word, 1 the denial. -/
/-- (people, ties, slow, tires of the word, of the denial), kind, doubt, from, to, days, strength -/
abbrev Vil : Type := (Nat × Nat × Nat × Nat × Nat) × (Nat → Nat) × (Nat → Nat) × (Nat → Nat) × (Nat → Nat) × (Nat → Nat) × (Nat → Nat)
def Vil.n (v : Vil) : Nat := v.1.1
def Vil.m (v : Vil) : Nat := v.1.2.1
def Vil.sl (v : Vil) : Nat := v.1.2.2.1
def Vil.tw (v : Vil) : Nat := v.1.2.2.2.1
def Vil.td (v : Vil) : Nat := v.1.2.2.2.2
def Vil.kd (v : Vil) : Nat → Nat := v.2.1
def Vil.db (v : Vil) : Nat → Nat := v.2.2.1
def Vil.fr (v : Vil) : Nat → Nat := v.2.2.2.1
def Vil.to (v : Vil) : Nat → Nat := v.2.2.2.2.1
def Vil.dy (v : Vil) : Nat → Nat := v.2.2.2.2.2.1
def Vil.st (v : Vil) : Nat → Nat := v.2.2.2.2.2.2
def mkV (n m sl tw td : Nat) (kd db fr to dy st : Nat → Nat) : Vil := ((n, m, sl, tw, td), kd, db, fr, to, dy, st)
/-- a telling: how many acts; of each its sort and three numbers -/
abbrev Tel : Type := Nat × (Nat → Nat) × (Nat → Nat) × (Nat → Nat) × (Nat → Nat)
def Tel.n (t : Tel) : Nat := t.1
def Tel.so (t : Tel) : Nat → Nat := t.2.1
def Tel.a (t : Tel) : Nat → Nat := t.2.2.1
def Tel.b (t : Tel) : Nat → Nat := t.2.2.2.1
def Tel.c (t : Tel) : Nat → Nat := t.2.2.2.2
/-- the third number as it is kept: none of a word, a denial -/
def Tel.ci (t : Tel) (k : Nat) : Int32 := if t.so k = 2 then nI (t.c k) else nM
/-- a village that can be told; M: how many ties at most -/
def Vil.ok (M : Nat) (v : Vil) : Prop := (1 ≤ v.n ∧ v.n ≤ 16) ∧ v.m ≤ M ∧ v.sl ≤ 3 ∧ v.tw ≤ 30 ∧ v.td ≤ 30 ∧ (∀ p, p < 16 → v.kd p ≤ 5 ∧ 1 ≤ v.db p ∧ v.db p ≤ 99) ∧ ∀ t, t < v.m → v.fr t < v.n ∧ v.to t < v.n ∧ (M ≤ 40 → v.fr t ≠ v.to t) ∧ (1 ≤ v.dy t ∧ v.dy t ≤ 3) ∧ 1 ≤ v.st t ∧ v.st t ≤ 9
def Tel.ok (t : Tel) : Prop := t.n ≤ 30 ∧ ∀ k, k < t.n → t.so k ≤ 2 ∧ (t.so k < 2 → t.a k ≤ 99 ∧ t.b k ≤ 15) ∧ (t.so k = 2 → t.a k ≤ 39 ∧ t.b k ≤ t.c k ∧ t.c k ≤ 99)
def sumN (f : Nat → Nat) : Nat → Nat
  | 0 => 0
  | n + 1 => sumN f n + f n
def minN (z : Nat) (f : Nat → Nat) : Nat → Nat
  | 0 => z
  | n + 1 => if f n < minN z f n then f n else minN z f n
def maxN (f : Nat → Nat) : Nat → Nat
  | 0 => 0
  | n + 1 => if maxN f n < f n then f n else maxN f n
/-- a world: village; what comes from outside (side, day, person); ties that carry (day, tie); who says nothing; the last day -/
abbrev Wd : Type := Vil × (Nat → Nat → Nat → Nat) × (Nat → Nat → Bool) × (Nat → Bool) × Nat
def Wd.v (w : Wd) : Vil := w.1
def Wd.am (w : Wd) : Nat → Nat → Nat → Nat := w.2.1
def Wd.op (w : Wd) : Nat → Nat → Bool := w.2.2.1
def Wd.si (w : Wd) : Nat → Bool := w.2.2.2.1
def Wd.la (w : Wd) : Nat := w.2.2.2.2
/-- a day: what each has (side, person); sums; said on how many days; what is to come (side, days ahead, person); by whom; what came; what is said -/
abbrev St : Type := (Nat → Nat → Bool) × (Nat → Int) × (Nat → Nat → Nat) × (Nat → Nat → Nat → Nat) × (Nat → Nat → Nat → Nat) × (Nat → Nat → Nat) × (Nat → Nat → Bool)
def St.ha (s : St) : Nat → Nat → Bool := s.1
def St.su (s : St) : Nat → Int := s.2.1
def St.cn (s : St) : Nat → Nat → Nat := s.2.2.1
def St.du (s : St) : Nat → Nat → Nat → Nat := s.2.2.2.1
def St.bf (s : St) : Nat → Nat → Nat → Nat := s.2.2.2.2.1
def St.ca (s : St) : Nat → Nat → Nat := s.2.2.2.2.2.1
def St.sa (s : St) : Nat → Nat → Bool := s.2.2.2.2.2.2
def st0 : St := (fun _ _ => false, fun _ => 0, fun _ _ => 0, fun _ _ _ => 0, fun _ _ _ => 99, fun _ _ => 0, fun _ _ => false)
def Vil.dl (v : Vil) (s t : Nat) : Nat := v.dy t + s * v.sl
def Vil.lim (v : Vil) (s p : Nat) : Nat := if v.kd p = 5 then 1 else if s = 0 then v.tw else v.td
def clampI (x : Int) : Int := if 99 < x then 99 else if x < -99 then -99 else x
def takes (k : Nat) (h0 h1 : Bool) (sm : Int) (w d : Nat) : Bool × Bool × Int :=
  if k = 1 then (if d < w then (true, false, sm) else if w < d then (false, true, sm) else (h0, h1, sm))
  else if k = 2 then (if 0 < clampI (sm + w - d) then (true, false, clampI (sm + w - d)) else if clampI (sm + w - d) < 0 then (false, true, clampI (sm + w - d)) else (h0, h1, clampI (sm + w - d)))
  else if k = 3 then (if 0 < d then (false, true, sm) else if h0 = true ∨ h1 = true then (h0, h1, sm) else if 0 < w then (true, false, sm) else (h0, h1, sm))
  else if k = 4 then (h0 || decide (0 < w), h1 || decide (0 < d), sm)
  else if h0 = true ∨ h1 = true ∨ w + d = 0 then (h0, h1, sm) else if d ≤ w then (true, false, sm) else (false, true, sm)
/-- what comes on a day, of what was to come -/
def camS (w : Wd) (d : Nat) (S : St) (s p : Nat) : Nat := w.am s d p + S.du s 1 p
def hrdS (w : Wd) (d : Nat) (S : St) (s p : Nat) : Nat := if camS w d S s p < w.v.db p then 0 else camS w d S s p
def tkS (w : Wd) (d : Nat) (S : St) (p : Nat) : Bool × Bool × Int := takes (w.v.kd p) (S.ha 0 p) (S.ha 1 p) (S.su p) (hrdS w d S 0 p) (hrdS w d S 1 p)
def haS (w : Wd) (d : Nat) (S : St) (s p : Nat) : Bool := if s = 0 then (tkS w d S p).1 else (tkS w d S p).2.1
def saS (w : Wd) (d : Nat) (S : St) (s p : Nat) : Bool := haS w d S s p && (!w.si p && (decide (w.v.lim s p = 0) || decide (S.cn s p < w.v.lim s p)))
def goS (w : Wd) (d : Nat) (S : St) (s t : Nat) : Bool := saS w d S s (w.v.fr t) && w.op d t
def step (w : Wd) (d : Nat) (S : St) : St :=
  (haS w d S, fun p => (tkS w d S p).2.2, fun s p => S.cn s p + (if saS w d S s p = true ∧ 0 < w.v.lim s p then 1 else 0),
   fun s k p => S.du s (k + 1) p + sumN (fun t => if (w.v.to t = p ∧ w.v.dl s t = k) ∧ goS w d S s t = true then w.v.st t else 0) w.v.m,
   fun s k p => minN (S.bf s (k + 1) p) (fun t => if (w.v.to t = p ∧ w.v.dl s t = k) ∧ goS w d S s t = true then w.v.fr t else 99) w.v.m,
   camS w d S, saS w d S)
def stt (w : Wd) : Nat → St
  | 0 => step w 0 st0
  | d + 1 => step w (d + 1) (stt w d)
/-- the state ahead of a day -/
def stp (w : Wd) : Nat → St
  | 0 => st0
  | d + 1 => stt w d
theorem stt_eq (w : Wd) (d : Nat) : stt w d = step w d (stp w d) := by cases d <;> rfl
/-- by which ties it went on a day -/
def went (w : Wd) (s d t : Nat) : Bool := goS w d (stp w d) s t
