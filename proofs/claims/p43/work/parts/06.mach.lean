/-! THE SMALL MACHINE IS THE MACHINE: what stands for what -/
def CodeOK : Prop := ∀ y pc a, fetch y pc = some a → decode (mB y) pc = .ok (a.2.1, a.2.2.1) ∧ sok y pc a = true ∧ ∀ w ∈ need y a, w ∈ lw_tbl ∧ goodWord w = true
theorem gt_setL : ∀ (ls : List AV) (i k : Nat) (v : AV), i < ls.length → gt (setL ls i v) k = if k = i then v else if k + 1 = i then kl (gt ls k) else gt ls k
  | [], i, k, v, h => absurd h (Nat.not_lt_zero _)
  | a :: l, 0, k, v, _ => by
    cases k with
    | zero => rfl
    | succ k =>
      show gt l k = _
      rw [if_neg (by omega), if_neg (by omega)]
      rfl
  | a :: l, i + 1, k, v, h => by
    cases k with
    | zero =>
      cases i with
      | zero => rfl
      | succ i =>
        show a = _
        rw [if_neg (by omega), if_neg (by omega)]
        rfl
    | succ k =>
      have h' : i < l.length := Nat.lt_of_succ_lt_succ h
      have hh : gt (setL (a :: l) (i + 1) v) (k + 1) = gt (setL l i v) k := by cases i <;> rfl
      rw [hh, gt_setL l i k v h']
      show _ = if k + 1 = i + 1 then v else if k + 1 + 1 = i + 1 then kl (gt l k) else gt l k
      by_cases e1 : k = i
      · rw [if_pos e1, if_pos (show k + 1 = i + 1 by omega)]
      · rw [if_neg e1, if_neg (show ¬ k + 1 = i + 1 by omega)]
        by_cases e2 : k + 1 = i
        · rw [if_pos e2, if_pos (show k + 1 + 1 = i + 1 by omega)]
        · rw [if_neg e2, if_neg (show ¬ k + 1 + 1 = i + 1 by omega)]
theorem setL_length : ∀ (ls : List AV) (i : Nat) (v : AV), (setL ls i v).length = ls.length
  | [], _, _ => rfl
  | _ :: _, 0, _ => rfl
  | _ :: l, i + 1, v => by
    show (setL l i v).length + 1 = l.length + 1
    rw [setL_length l i v]
theorem gt_out : ∀ (ls : List AV) (k : Nat), ls.length ≤ k → gt ls k = un
  | [], _, _ => rfl
  | _ :: _, 0, h => absurd h (by simp)
  | _ :: l, k + 1, h => gt_out l k (Nat.le_of_succ_le_succ h)
def adr (ad : Nat → Nat) (b : Nat) (adK : Nat → Nat) (t k : Nat) : Nat := match t with
  | 2 => adK k
  | 3 => b
  | 5 => adK 14
  | _ => ad k
def rfo (ad : Nat → Nat) (b : Nat) (adK : Nat → Nat) : AV → Option Nat
  | .inr (.inr (0, _)) => none
  | .inr (.inr (t, k)) => some (adr ad b adK t k)
  | _ => none
def cv (ad : Nat → Nat) (b : Nat) (adK : Nat → Nat) : AV → Value
  | .inl v => .int v
  | .inr (.inl w) => .long w
  | .inr (.inr r) => va_rf (rfo ad b adK (.inr (.inr r)))
def okV (S : DS) : AV → Prop
  | .inr (.inr (t, k)) => t = 0 ∨ (t = 2 ∧ k < 14) ∨ t = 3 ∨ (10 ≤ t ∧ S.kd k = t ∧ k < S.n) ∨ (t = 4 ∧ tS (S.kd k) = 6 ∧ k < S.n) ∨ t = 5
  | _ => True
def fk (ci j : Nat) : Nat := match parseFieldDescriptor (cT ci j).2.2.1 with
  | some t => fU t
  | none => 2
def ofv (ad : Nat → Nat) (b : Nat) (adK : Nat → Nat) (S : DS) (I : MI) (L : ML) (k j : Nat) : Value := match fk (S.kd k - 10) j with
  | 1 => .long (L k j)
  | 2 => va_rf (rfo ad b adK (S.rf k j))
  | _ => .int (I k j)
def ent (ad : Nat → Nat) (b : Nat) (adK : Nat → Nat) (cA : Nat → ClassId) (S : DS) (I : MI) (L : ML) (k : Nat) : va_E := match Nat.ble 100 (S.kd k) with
  | false => .inr (S.kd k - 10, (List.range (cF (S.kd k - 10))).map (ofv ad b adK S I L k))
  | true => match tS (S.kd k) with
    | 0 => .inl (cA 0, tN (S.kd k), .inl (I k))
    | 1 => .inl (cA 1, tN (S.kd k), .inl (I k))
    | 2 => .inl (cA 2, tN (S.kd k), .inr (.inl (L k)))
    | 6 => .inl (cA 0, tN (S.kd k), .inl (I k))
    | t => .inl (cA t, tN (S.kd k), .inr (.inr (.inr (.inr (fun j => rfo ad b adK (S.rf k j))))))
def wsO (ad : Nat → Nat) (b : Nat) (adK : Nat → Nat) (cA : Nat → ClassId) (S : DS) (I : MI) (L : ML) : va_W := (List.range S.n).map (fun k => (ad k, ent ad b adK cA S I L k))
def tysO (cA : Nat → ClassId) : List (ClassId × FieldType) := [(cA 0, .int), (cA 1, .boolean), (cA 2, .long), (cA 3, .object "SaidBack$Village"), (cA 4, .object "SaidBack$Telling"), (cA 5, .object "SaidBack$Book")]
abbrev AO (base : Nat) : Nat → Prop := fun q => base ≤ q
/-- what stays the same all the while: classes, texts, the script -/
def KU (D : va_G) (cA : Nat → ClassId) (adK : Nat → Nat) (U : State) : Prop := va_K D vwCl (tysO cA) U ∧ (∀ i : Nat, i < 14 → vk_R "SaidBack$Reader" (nth (0, "") strW i).1 (nth (0, "") strW i).2 (adK i) U) ∧ (∀ w ∈ nestW, va_Nw w U) ∧ va_AO "SaidBack$Village" U ∧ va_AO "SaidBack$Telling" U ∧ va_AO "SaidBack$Book" U
def HU (base b Ls : Nat) (xs : Nat → Int32) (adK adV : Nat → Nat) (U : State) (H : Heap) : Prop := va_X b Ls xs U H ∧ vk_S 14 (strB.map List.length) strB adK adV (AO base) U H ∧ va_Z "java/lang/String" "COMPACT_STRINGS" "Z" (.int 1) (AO base) U H ∧ va_Zq "jdk/internal/util/Preconditions" "SIOOBE_FORMATTER" "Ljava/util/function/BiFunction;" (AO base) U H ∧ b < base ∧ Ls < 2 ^ 31 ∧ (va_Z "SaidBackLaw" "KINDS" "[J" (.ref (adK 14)) (AO base) U H ∧ va_T .long (adK 14) 6 (fun j => .long (knd j)) (AO base) U H)
def kdOK (t : Nat) : Prop := (10 ≤ t ∧ t < 22) ∨ (100 ≤ t ∧ tS t < 7 ∧ tN t < 1000000)
/-- the heap holds the memory, each cell at its address -/
def RH (D : va_G) (cA : Nat → ClassId) (base b Ls : Nat) (xs : Nat → Int32) (adK : Nat → Nat) (T : Nat) (ad : Nat → Nat) (S : DS) (I : MI) (L : ML) (H : Heap) : Prop :=
  va_P D vwCl (wsO ad b adK cA S I L) H ∧ va_D (AO base) (wsO ad b adK cA S I L) ∧ (∀ k j, okV S (S.rf k j) ∧ ∃ r, S.rf k j = .inr (.inr r)) ∧ (∀ k, k < S.n → kdOK (S.kd k) ∧ (tS (S.kd k) = 6 → I (200000 + k) 0 = Int32.ofNat (tN (S.kd k)))) ∧ I 100001 0 = Int32.ofNat Ls ∧ (∀ j, j < Ls → I 100000 j = xs j) ∧ S.n + S.bc ≤ T ∧ T < 100000
def LR (ad : Nat → Nat) (b : Nat) (adK : Nat → Nat) (S : DS) (nL : Nat) (ls : List AV) (lsm : Array Slot) : Prop := ls.length = nL ∧ lv_has lsm nL [] ∧ ∀ k, gt ls k = un ∨ (okV S (gt ls k) ∧ lsm[k]? = some (.val (cv ad b adK (gt ls k))))
def lvl (ad : Nat → Nat) (b : Nat) (adK : Nat → Nat) (ls : List AV) : List (Nat × Value) := ((List.range ls.length).filter (fun k => decide (gt ls k ≠ un))).map (fun k => (k, cv ad b adK (gt ls k)))
section LRS
variable {ad : Nat → Nat} {b : Nat} {adK : Nat → Nat} {S : DS} {nL : Nat} {ls : List AV} {lsm : Array Slot}
theorem LR.has (h : LR ad b adK S nL ls lsm) : lv_has lsm nL (lvl ad b adK ls) := by
  obtain ⟨h1, h2, h3⟩ := h
  refine ⟨h2.1, h2.2.1, fun q hq => ?_⟩
  obtain ⟨k, hk, rfl⟩ := List.mem_map.mp hq
  obtain ⟨hk1, hk2⟩ := List.mem_filter.mp hk
  rcases h3 k with e | e
  · exact absurd e (of_decide_eq_true hk2)
  · exact e.2
theorem lvl_mem {k : Nat} (h : gt ls k ≠ un) : (k, cv ad b adK (gt ls k)) ∈ lvl ad b adK ls := by
  refine List.mem_map.mpr ⟨k, List.mem_filter.mpr ⟨List.mem_range.mpr ?_, decide_eq_true h⟩, rfl⟩
  rcases Nat.lt_or_ge k ls.length with q | q
  · exact q
  · exact absurd (gt_out ls k q) h
theorem LR.get (h : LR ad b adK S nL ls lsm) {k : Nat} (hk : gt ls k ≠ un) : okV S (gt ls k) ∧ lsm[k]? = some (.val (cv ad b adK (gt ls k))) := by
  rcases h.2.2 k with e | e
  · exact absurd e hk
  · exact e
theorem kl_cat {a : AV} (h : kl a ≠ un) : kl a = a ∧ (cv ad b adK a).category = 1 := by
  rcases a with v | v | ⟨t, k⟩
  · exact ⟨rfl, rfl⟩
  · exact absurd rfl h
  · refine ⟨rfl, ?_⟩
    show (va_rf _).category = 1
    unfold va_rf
    split <;> rfl
/-- behind a store of one slot -/
theorem LR.set1 (h : LR ad b adK S nL ls lsm) {i : Nat} {v : AV} {w : Value} {lsm' : Array Slot} (hi : i < nL) (hv : okV S v) (hw : cv ad b adK v = w) (hn : lv_has lsm' nL ((i, w) :: (lvl ad b adK ls).filter (fun q => !(q.1 == i) && !(q.1 + 1 == i && q.2.category == 2)))) : LR ad b adK S nL (setL ls i v) lsm' := by
  have hi' : i < ls.length := by rw [h.1]; exact hi
  refine ⟨by rw [setL_length]; exact h.1, ⟨hn.1, hn.2.1, fun q hq => by cases hq⟩, fun k => ?_⟩
  rw [gt_setL ls i k v hi']
  by_cases e1 : k = i
  · rw [if_pos e1]
    subst e1
    exact Or.inr ⟨hv, by rw [hw]; exact hn.2.2 _ List.mem_cons_self⟩
  · rw [if_neg e1]
    by_cases e2 : k + 1 = i
    · rw [if_pos e2]
      by_cases e3 : kl (gt ls k) = un
      · exact Or.inl e3
      · obtain ⟨e4, e5⟩ := kl_cat (ad := ad) (b := b) (adK := adK) e3
        rw [e4]
        have hg := h.get (by rw [← e4]; exact e3)
        refine Or.inr ⟨hg.1, hn.2.2 (k, _) (List.mem_cons_of_mem _ (List.mem_filter.mpr ⟨lvl_mem (by rw [← e4]; exact e3), ?_⟩))⟩
        show (!(k == i) && !(k + 1 == i && (cv ad b adK (gt ls k)).category == 2)) = true
        rw [e5]
        simp [e1]
    · rw [if_neg e2]
      by_cases e3 : gt ls k = un
      · exact Or.inl e3
      · refine Or.inr ⟨(h.get e3).1, hn.2.2 (k, _) (List.mem_cons_of_mem _ (List.mem_filter.mpr ⟨lvl_mem e3, ?_⟩))⟩
        simp [e1, e2]
theorem LR.set2 (h : LR ad b adK S nL ls lsm) {i : Nat} {v : Int64} {lsm' : Array Slot} (hi : i + 1 < nL) (hn : lv_has lsm' nL ((i, .long v) :: (lvl ad b adK ls).filter (fun q => !(q.1 == i) && (!(q.1 == i + 1) && !(q.1 + 1 == i && q.2.category == 2))))) : LR ad b adK S nL (setL (setL ls (i + 1) un) i (.inr (.inl v))) lsm' := by
  have hi' : i + 1 < ls.length := by rw [h.1]; exact hi
  refine ⟨by rw [setL_length, setL_length]; exact h.1, ⟨hn.1, hn.2.1, fun q hq => by cases hq⟩, fun k => ?_⟩
  rw [gt_setL _ i k _ (by rw [setL_length]; omega), gt_setL ls (i + 1) k un hi']
  by_cases e1 : k = i
  · rw [if_pos e1]
    subst e1
    exact Or.inr ⟨trivial, hn.2.2 _ List.mem_cons_self⟩
  · rw [if_neg e1]
    by_cases e2 : k = i + 1
    · rw [if_pos e2, if_neg (by omega)]
      exact Or.inl rfl
    · rw [if_neg e2, if_neg (show ¬ k + 1 = i + 1 by omega)]
      by_cases e4 : k + 1 = i
      · rw [if_pos e4]
        by_cases e3 : kl (gt ls k) = un
        · exact Or.inl e3
        · obtain ⟨e5, e6⟩ := kl_cat (ad := ad) (b := b) (adK := adK) e3
          rw [e5]
          have hg := h.get (by rw [← e5]; exact e3)
          refine Or.inr ⟨hg.1, hn.2.2 (k, _) (List.mem_cons_of_mem _ (List.mem_filter.mpr ⟨lvl_mem (by rw [← e5]; exact e3), ?_⟩))⟩
          show (!(k == i) && (!(k == i + 1) && !(k + 1 == i && (cv ad b adK (gt ls k)).category == 2))) = true
          rw [e6]
          simp [e1, e2]
      · rw [if_neg e4]
        by_cases e3 : gt ls k = un
        · exact Or.inl e3
        · refine Or.inr ⟨(h.get e3).1, hn.2.2 (k, _) (List.mem_cons_of_mem _ (List.mem_filter.mpr ⟨lvl_mem e3, ?_⟩))⟩
          simp [e1, e2, e4]
theorem LR.less (h : LR ad b adK S nL ls lsm) {ls' : List AV} (hl : leL ls' ls) : LR ad b adK S nL ls' lsm := ⟨hl.1.trans h.1, h.2.1, fun k => by
  rcases hl.2 k with e | e
  · exact Or.inl e
  · rw [e]; exact h.2.2 k⟩
end LRS
/-- the frame of a method that runs -/
def FR (D : va_G) (cA : Nat → ClassId) (base b Ls : Nat) (xs : Nat → Int32) (adK adV : Nat → Nat) (y : Nat) (p : Program) (R : Room) (s : State) (m : MethodId) (args : Array Value) (meth : Method) (c : Code) : Prop :=
  p.tables.exec = Jvm.exec ∧ c.code = mB y ∧ c.maxLocals = mL y ∧ s.vm.findClass (mC y) = some m.cls ∧ (∀ w ∈ lw_tbl, goodWord w = true → w.before args s = true) ∧ KU D cA adK s ∧ HU base b Ls xs adK adV s s.heap ∧ mH y ≤ R.frames ∧ mW y ≤ R.locals ∧ meth.locks = false ∧ meth.sig.returnType = mR y ∧ ((mN y).name = "<init>" → meth.name = "<init>") ∧ base ≤ s.heap.size
/-- cells that were there stay what and where they are -/
abbrev GT : Type := Nat × (Nat → Nat) × (Nat → Nat)
def Gr (G : GT) (S : DS) (ad : Nat → Nat) : Prop := G.1 ≤ S.n ∧ ∀ k, k < G.1 → S.kd k = G.2.1 k ∧ ad k = G.2.2 k
/-- at a place of a frame: any heap that holds the memory, any locals and stack that are as said -/
def LW (D : va_G) (cA : Nat → ClassId) (base b Ls : Nat) (xs : Nat → Int32) (adK : Nat → Nat) (y T : Nat) (G : GT) (p : Program) (l : Launch) (e : Env) (R : Room) (s : State) (m : MethodId) (args : Array Value) (below : List Frame) (meth : Method) (c : Code) (Q : State → Prop) (pc : Nat) (ls st : List AV) (S : DS) (I : MI) (L : ML) : Prop :=
  ∀ (ad : Nat → Nat) (H : Heap) (locs : List Loc) (lsm : Array Slot) (cells slots : Nat), Gr G S ad → RH D cA base b Ls xs adK T ad S I L H → va_S (AO base) s.heap H locs → LR ad b adK S (mL y) ls lsm → (∀ v ∈ st, okV S v) → cells + S.bc ≤ R.cells → slots + S.bs ≤ R.slots → W p l e R s m args below meth c H locs cells slots Q (F0 m pc lsm (st.map (cv ad b adK)))
