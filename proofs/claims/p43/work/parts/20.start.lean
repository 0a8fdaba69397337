def R_law : String := "SaidBackLaw"
def lw_P (b : Addr) (xs : List Int32) (args : Array Value) (s : State) : Prop := args = #[.ref b] ∧ s.IntsAt b xs ∧ xs.length ≤ 260 ∧ (Jvm.Cond.and given_1 narrow_1).before args s = true
def lw_Q (_ : Array Value) (s : State) (o : Outcome) (t : State) : Prop := o = .returned (some (.int 1)) ∧ Framed s o t [] 600000 7302250
def lw_Z (below : List Frame) (a : Array Value) (s : State) : State → Prop := fun t => ∃ o, t.status = .running ∧ Ended t below o ∧ lw_Q a s o t
/-- the law's own end, with 1 on the stack, nothing written that was there before, its room as the claim has it -/
theorem lw_ret {p : Program} {l : Launch} {e : Env} {s : State} {m : MethodId} {below : List Frame} {meth : Method} {c : Code} {b : Nat} (hx : p.tables.exec = Jvm.exec) (hb : c.code = code) (hr : meth.sig.returnType = ret) (hlocks : meth.locks = false) {pc : Nat} {H : Heap} {ls : Array Slot} (hdg : decode code pc = .ok (.ireturn, 1)) : W p l e room_1 s m #[Value.ref b] below meth c H [] 600000 7302250 (lw_Z below #[Value.ref b] s) (F0 m pc ls [.int 1]) := by
  intro T hT X
  obtain ⟨fs, hret, hrun, hended, hW, hframe⟩ := X.leave (v := some (.int 1)) (hlocks := hlocks) (fun h => by rw [hr] at h; cases h)
  have hmeth' : T.vm.method? m = some meth := X.method'
  refine ⟨T.setFrames fs, ?_, .returned (some (.int 1)), hrun, hended, rfl, ⟨_, rfl⟩, hW, hframe⟩
  jvm_step X.here [X.here.top, hx, hb, hdg, hmeth', hr, ret, narrow_b1]
  (try refine ⟨rfl, ?_⟩); (try refine ⟨rfl, ?_⟩)
  first | (intro acts; rw [hret _ acts rfl rfl rfl]) | rw [hret _ _ rfl rfl rfl]
  exact Steps.refl _
/-- what holds at the law's entry: the machine, the code, the tables' words (any of lw_tbl by 'hts w (by decide +kernel)'), the script of L ints xs at the cell b, what the Statement gives of the start (any of its parts by flat_of_before) -/
def lw_At (p : Program) (s : State) (m : MethodId) (meth : Method) (c : Code) (b L : Nat) (xs : Nat → Int32) : Prop :=
  p.tables.exec = Jvm.exec ∧ c.code = code ∧ meth.sig.returnType = ret ∧ c.maxLocals = 15 ∧ s.vm.findClass R_law = some m.cls ∧ (∀ w ∈ lw_tbl, w.before #[Value.ref b] s = true) ∧ va_X b L xs s s.heap ∧ b < s.heap.size ∧ meth.locks = false ∧ (Jvm.Cond.and given_1 narrow_1).before #[Value.ref b] s = true
/-! THE LAW'S ENTRY: what the small machine begins with (written by wip/p43/genstart.py) -/
def nx : List Cond → List Nat → Bool
  | [], [] => true
  | w :: l, i :: r => decide ((tb (i / 1000))[i % 1000]? = some w) && nx l r
  | _, _ => false
theorem nx_in : ∀ (ws : List Cond) (ix : List Nat), nx ws ix = true → ∀ w ∈ ws, w ∈ lw_tbl
  | [], _, _, w, hw => by cases hw
  | _ :: _, [], h, _, _ => (Bool.false_ne_true h).elim
  | a :: ws, i :: ix, h, w, hw => by
    obtain ⟨h1, h2⟩ := and2 h
    rcases List.mem_cons.mp hw with rfl | hw
    · exact tb_in _ _ (List.mem_of_getElem? (of_decide_eq_true h1))
    · exact nx_in ws ix h2 w hw
def sgW : List Cond := [.arrayClass .int, .arrayClass .boolean, .arrayClass .long, .arrayOver (.object "SaidBack$Village"), .arrayOver (.object "SaidBack$Telling"), .arrayOver (.object "SaidBack$Book"), .laysStatic "java/lang/String" "COMPACT_STRINGS" "Z", .initialized "java/lang/String", .laysStatic "jdk/internal/util/Preconditions" "SIOOBE_FORMATTER" "Ljava/util/function/BiFunction;", .initialized "jdk/internal/util/Preconditions", .laysStatic "SaidBackLaw" "KINDS" "[J", .initialized "SaidBackLaw"]
theorem sgW_in : ∀ w ∈ sgW, w ∈ lw_tbl := nx_in _ [1055, 1218, 2039, 1037, 1039, 1169, 4074, 1014, 4090, 1016, 3228, 1000] (by decide +kernel)
theorem nestW_in : ∀ w ∈ nestW, w ∈ lw_tbl := nx_in _ [1042, 1057, 1118, 1172, 1177, 1179, 1221, 1226, 1229, 2042, 2048, 2150] (by decide +kernel)
theorem strW_in : ∀ w ∈ (List.range 14).map (fun i => Cond.stringRef "SaidBack$Reader" (nth (0, "") strW i).1 (nth (0, "") strW i).2), w ∈ lw_tbl := nx_in _ [4047, 4048, 4049, 4050, 4051, 4052, 4053, 4054, 4055, 4056, 4057, 4058, 4059, 4060] (by decide +kernel)
theorem inW_in : ∀ w ∈ (List.range 12).map (fun i => Cond.instantiable (cN i) (cF i)), w ∈ lw_tbl := nx_in _ [1031, 2041, 1228, 1171, 1220, 2127, 2047, 1041, 1117, 1056, 2149, 1023] (by decide +kernel)
theorem nest_tab : ∀ w ∈ nestW, w.onTables = true := by decide +kernel
abbrev gvW : List Cond := flatC (Jvm.Cond.and given_1 narrow_1)
def tmS (i : Nat) : Term := .string "SaidBack$Reader" (nth (0, "") strW i).1
def lnB : List Nat := strB.map List.length
theorem gv_1 : ∀ i, i < 14 → Cond.exactly (tmS i) "java/lang/String" ∈ gvW := by decide +kernel
theorem gv_2 : ∀ i, i < 14 → Cond.eq (.field (tmS i) "java/lang/String" "coder" "B") (.int 0) ∈ gvW := by decide +kernel
theorem gv_3 : ∀ i, i < 14 → Cond.arrayOf (.field (tmS i) "java/lang/String" "value" "[B") .byte ∈ gvW := by decide +kernel
theorem gv_4 : ∀ i, i < 14 → Cond.eq (.length (.field (tmS i) "java/lang/String" "value" "[B")) (.int (Int32.ofNat (lnB.getD i 0))) ∈ gvW := by decide +kernel
theorem gv_5 : ∀ i, i < 14 → ∀ j, j < lnB.getD i 0 → Cond.eq (.elem (.field (tmS i) "java/lang/String" "value" "[B") (.int (Int32.ofNat j))) (.int ((strB.getD i []).getD j 0)) ∈ gvW := by decide +kernel
def prs : List Cond → List (Nat × Nat)
  | [] => []
  | .not (.eq (.string o i) (.string o' j)) :: l => if o = "SaidBack$Reader" ∧ o' = "SaidBack$Reader" then (i, j) :: prs l else prs l
  | _ :: l => prs l
theorem prs_in : ∀ (l : List Cond) (i j : Nat), (i, j) ∈ prs l → Cond.not (Cond.eq (.string "SaidBack$Reader" i) (.string "SaidBack$Reader" j)) ∈ l
  | [], i, j, h => by cases h
  | a :: l, i, j, h => by
    unfold prs at h
    split at h
    · rename_i h0
      cases h0
    · rename_i o i' o' j' l' h0
      cases h0
      split at h
      · rename_i ho
        obtain ⟨rfl, rfl⟩ := ho
        rcases List.mem_cons.mp h with h | h
        · cases h
          exact List.mem_cons_self
        · exact List.mem_cons_of_mem _ (prs_in _ i j h)
      · exact List.mem_cons_of_mem _ (prs_in _ i j h)
    · rename_i l' _ h0
      cases h0
      exact List.mem_cons_of_mem _ (prs_in _ i j h)
def prL : List (Nat × Nat) := [(168, 169), (168, 171), (169, 171), (168, 173), (169, 173), (171, 173), (168, 175), (169, 175), (171, 175), (173, 175), (168, 177), (169, 177), (171, 177), (173, 177), (175, 177), (168, 179), (169, 179), (171, 179), (173, 179), (175, 179), (177, 179), (168, 181), (169, 181), (171, 181), (173, 181), (175, 181), (177, 181), (179, 181), (168, 182), (169, 182), (171, 182), (173, 182), (175, 182), (177, 182), (179, 182), (181, 182), (168, 184), (169, 184), (171, 184), (173, 184), (175, 184), (177, 184), (179, 184), (181, 184), (182, 184), (168, 185), (169, 185), (171, 185), (173, 185), (175, 185), (177, 185), (179, 185), (181, 185), (182, 185), (184, 185), (168, 187), (169, 187), (171, 187), (173, 187), (175, 187), (177, 187), (179, 187), (181, 187), (182, 187), (184, 187), (185, 187), (168, 189), (169, 189), (171, 189), (173, 189), (175, 189), (177, 189), (179, 189), (181, 189), (182, 189), (184, 189), (185, 189), (187, 189), (168, 191), (169, 191), (171, 191), (173, 191), (175, 191), (177, 191), (179, 191), (181, 191), (182, 191), (184, 191), (185, 191), (187, 191), (189, 191)]
theorem prs_eq : prs gvW = prL := by decide +kernel
def stI (i : Nat) : Nat := (nth (0, "") strW i).1
theorem gv_6a : ∀ i, i < 14 → ∀ j, j < 14 → (i = j ∨ ((stI i, stI j) ∈ prL ∨ (stI j, stI i) ∈ prL)) := by decide +kernel
theorem gv_6 (i : Nat) (hi : i < 14) (j : Nat) (hj : j < 14) (h : i ≠ j) : Cond.not (Cond.eq (tmS i) (tmS j)) ∈ gvW ∨ Cond.not (Cond.eq (tmS j) (tmS i)) ∈ gvW := by
  rcases gv_6a i hi j hj with h' | h | h
  · exact absurd h' h
  · exact Or.inl (prs_in _ _ _ (by rw [prs_eq]; exact h))
  · exact Or.inr (prs_in _ _ _ (by rw [prs_eq]; exact h))
theorem gv_7 : Cond.eq (.static "java/lang/String" "COMPACT_STRINGS" "Z") (.int 1) ∈ gvW := by decide +kernel
theorem gv_8 : Cond.isRef (.static "jdk/internal/util/Preconditions" "SIOOBE_FORMATTER" "Ljava/util/function/BiFunction;") ∈ gvW := by decide +kernel
theorem teq_i {args : Array Value} {s : State} {tm : Term} {z : Int32} (h : (Cond.eq tm (.int z)).before args s = true) : tm.eval args s none [] s = some (.int z) := by
  cases hv : tm.eval args s none [] s with
  | none => simp [Cond.before, Cond.holds, Cond.value, hv] at h
  | some w =>
    have hz : (Term.int z).eval args s none [] s = some (.int z) := rfl
    simp only [Cond.before, Cond.holds, Cond.value, hv, hz] at h
    cases w <;> simp_all
theorem teq_l {args : Array Value} {s : State} {tm : Term} {z : Int64} (h : (Cond.eq tm (.long z)).before args s = true) : tm.eval args s none [] s = some (.long z) := by
  cases hv : tm.eval args s none [] s with
  | none => simp [Cond.before, Cond.holds, Cond.value, hv] at h
  | some w =>
    have hz : (Term.long z).eval args s none [] s = some (.long z) := rfl
    simp only [Cond.before, Cond.holds, Cond.value, hv, hz] at h
    cases w <;> simp_all
abbrev tmK : Term := .static "SaidBackLaw" "KINDS" "[J"
theorem gv_9 : Cond.arrayOf tmK .long ∈ gvW := by decide +kernel
theorem gv_10 : Cond.eq (.length tmK) (.int 6) ∈ gvW := by decide +kernel
theorem gv_11 : ∀ j, j < 6 → Cond.eq (.elem tmK (.int (Int32.ofNat j))) (.long (knd j)) ∈ gvW := by decide +kernel
theorem arr_1 {args : Array Value} {s : State} {ty : FieldType} (h : (Cond.arrayClass ty).before args s = true) : ∃ c, ArrOfT s c ty ∧ s.vm.findClass ("[" ++ ty.toString) = some c := by
  obtain ⟨c, k, comp, h1, h2, h3⟩ := Cond.arrayClass_spec h
  exact ⟨c, fun n z => ⟨(fun k h => by cases h), k, h2, comp, h3⟩, h1⟩
theorem arr_2 {args : Array Value} {s : State} {C : String} (h : (Cond.arrayOver (.object C)).before args s = true) : ∃ c, ArrOfT s c (.object C) ∧ va_RA s c (.object C) := by
  obtain ⟨comp, c, k, h1, -, h3, h4, h5⟩ := Cond.arrayOver_spec h
  exact ⟨c, fun n z => ⟨(fun k h => by cases h), k, h3, comp, h4⟩, k, comp, h3, h4, h1, h5⟩
/-- all of the law, in the small machine: on every script it ends with 1 -/
def LawOK : Prop := ∀ (Ls : Nat) (xs : Nat → Int32) (I : MI) (L : ML), Ls ≤ 260 → I 100001 0 = Int32.ofNat Ls → (∀ j, j < Ls → I 100000 j = xs j) → DW m_L_law 0 (vr 3 0 :: List.replicate 14 un) [] (0, (fun _ => 0), (fun _ _ => nul), 300, 200000) I L (fun r _ _ _ => r = vi 1)
set_option maxHeartbeats 1000000 in
theorem start_of (hLaw : LawOK) {p : Program} {e : Env} {s : State} {m : MethodId} {below : List Frame} {meth : Method} {c : Code} (l : Launch) {b L : Nat} {xs : Nat → Int32} (hL : L ≤ 260) (C0 : lw_At p s m meth c b L xs) : W p l e room_1 s m #[Value.ref b] below meth c s.heap [] 0 0 (lw_Z below #[Value.ref b] s) (entryFrame m ([Value.ref b] : List Value).toArray 15) := by
  obtain ⟨hx, hb, hr, hml, hown, hts, hX, hbl, hlocks, hgv⟩ := id C0
  have hgf : ∀ w ∈ gvW, w.before #[Value.ref b] s = true := flat_of_before _ hgv
  have hA : ∀ a : Nat, a < s.heap.size → ¬ AO s.heap.size a := fun a h => Nat.not_le.mpr h
  have hsg : ∀ w ∈ sgW, w.before #[Value.ref b] s = true := fun w hw => hts w (sgW_in w hw)
  obtain ⟨c0, f0, g0⟩ := arr_1 (hsg (.arrayClass .int) (by decide +kernel))
  obtain ⟨c1, f1, g1⟩ := arr_1 (hsg (.arrayClass .boolean) (by decide +kernel))
  obtain ⟨c2, f2, g2⟩ := arr_1 (hsg (.arrayClass .long) (by decide +kernel))
  obtain ⟨c3, f3, g3⟩ := arr_2 (hsg (.arrayOver (.object "SaidBack$Village")) (by decide +kernel))
  obtain ⟨c4, f4, g4⟩ := arr_2 (hsg (.arrayOver (.object "SaidBack$Telling")) (by decide +kernel))
  obtain ⟨c5, f5, g5⟩ := arr_2 (hsg (.arrayOver (.object "SaidBack$Book")) (by decide +kernel))
  obtain ⟨cA, e0, e1, e2, e3, e4, e5⟩ : ∃ cA : Nat → ClassId, cA 0 = c0 ∧ cA 1 = c1 ∧ cA 2 = c2 ∧ cA 3 = c3 ∧ cA 4 = c4 ∧ cA 5 = c5 := ⟨fun i => match i with
    | 0 => c0
    | 1 => c1
    | 2 => c2
    | 3 => c3
    | 4 => c4
    | _ => c5, rfl, rfl, rfl, rfl, rfl, rfl⟩
  have hcls : ∀ z, ∃ q : ClassId × (Nat → Nat), z < 12 → u_Kn s (cN z) (cT z) (cF z) q.1 q.2 := by
    intro z
    by_cases hz : z < 12
    · obtain ⟨cC, iS, h⟩ := u_known hts (fun w hw => (lay_ok z hz w hw).1) (hts _ (inW_in _ (List.mem_map.mpr ⟨z, List.mem_range.mpr hz, rfl⟩)))
      exact ⟨(cC, iS), fun _ => h⟩
    · exact ⟨(c0, fun _ => 0), fun h => absurd h hz⟩
  obtain ⟨dD, hdD⟩ := Classical.axiomOfChoice hcls
  have hK1 : va_K (fun z => (dD z).1, fun z => (dD z).2) vwCl (tysO cA) s := by
    refine ⟨fun z q hq => ?_, fun k q hq => ?_⟩
    · by_cases hz : z < 12
      · rw [vw_at z hz] at hq
        cases hq
        exact hdD z hz
      · rw [List.getElem?_eq_none (Nat.not_lt.mp hz)] at hq
        cases hq
    · match k, hq with
      | 0, hq => cases hq; rw [e0]; exact ⟨f0, g0⟩
      | 1, hq => cases hq; rw [e1]; exact ⟨f1, g1⟩
      | 2, hq => cases hq; rw [e2]; exact ⟨f2, g2⟩
      | 3, hq => cases hq; rw [e3]; exact ⟨f3, g3⟩
      | 4, hq => cases hq; rw [e4]; exact ⟨f4, g4⟩
      | 5, hq => cases hq; rw [e5]; exact ⟨f5, g5⟩
      | k + 6, hq => cases hq
  obtain ⟨adK0, adV, hS0, hev0⟩ := vk_Sof (args := #[Value.ref b]) (s := s) (N := 14) (tm := tmS) (len := lnB) (byt := strB) (A := AO s.heap.size) (by decide +kernel) (fun i hi => hgf _ (gv_1 i hi)) (fun i hi => hgf _ (gv_2 i hi)) (fun i hi => hgf _ (gv_3 i hi)) (fun i hi => hgf _ (gv_4 i hi)) (fun i hi j hj => hgf _ (gv_5 i hi j hj)) (fun i j hi hj h => (gv_6 i hi j hj h).imp (hgf _) (hgf _)) hA
  obtain ⟨tK, hK0, hKT⟩ := va_Tof (args := #[Value.ref b]) (s := s) (tm := tmK) (ty := .long) (N := 6) (f := fun j => .long (knd j)) (A := AO s.heap.size) (by decide) (hgf _ gv_9) (teq_i (hgf _ gv_10)) (fun j hj => teq_l (hgf _ (gv_11 j hj))) hA
  obtain ⟨adK, hadK, hadT⟩ : ∃ adK : Nat → Nat, (∀ i, i < 14 → adK i = adK0 i) ∧ adK 14 = tK := ⟨fun i => if i < 14 then adK0 i else tK, fun i hi => if_pos hi, rfl⟩
  have hS : vk_S 14 lnB strB adK adV (AO s.heap.size) s s.heap := ⟨fun i hi => by rw [hadK i hi]; exact hS0.1 i hi, fun i j hi hj h => by rw [hadK i hi, hadK j hj] at h; exact hS0.2 i j hi hj h⟩
  have hev : ∀ i : Nat, i < 14 → (tmS i).eval #[Value.ref b] s none [] s = some (.ref (adK i)) := fun i hi => by rw [hadK i hi]; exact hev0 i hi
  have hKU : KU (fun z => (dD z).1, fun z => (dD z).2) cA adK s := ⟨hK1, fun i hi => vk_R.of (hts _ (strW_in _ (List.mem_map.mpr ⟨i, List.mem_range.mpr hi, rfl⟩))) (hev i hi), fun w hw => va_tabs (nest_tab w hw) rfl (hts _ (nestW_in w hw)), va_AO.of (hsg (.arrayOver (.object "SaidBack$Village")) (by decide +kernel)), va_AO.of (hsg (.arrayOver (.object "SaidBack$Telling")) (by decide +kernel)), va_AO.of (hsg (.arrayOver (.object "SaidBack$Book")) (by decide +kernel))⟩
  have hHU : HU s.heap.size b L xs adK adV s s.heap := ⟨hX, hS, va_Zof (hsg (.laysStatic "java/lang/String" "COMPACT_STRINGS" "Z") (by decide +kernel)) (hsg (.initialized "java/lang/String") (by decide +kernel)) (va_eqi (hgf _ gv_7)) hA, va_Zqof (hsg (.laysStatic "jdk/internal/util/Preconditions" "SIOOBE_FORMATTER" "Ljava/util/function/BiFunction;") (by decide +kernel)) (hsg (.initialized "jdk/internal/util/Preconditions") (by decide +kernel)) (hgf _ gv_8) hA, hbl, by omega, by rw [hadT]; exact va_Zref (hsg (.laysStatic "SaidBackLaw" "KINDS" "[J") (by decide +kernel)) (hsg (.initialized "SaidBackLaw") (by decide +kernel)) hK0 hA, by rw [hadT]; exact hKT⟩
  have hF : FR (fun z => (dD z).1, fun z => (dD z).2) cA s.heap.size b L xs adK adV m_L_law p room_1 s m #[Value.ref b] meth c := ⟨hx, hb, hml, hown, fun w hw _ => hts w hw, hKU, hHU, by decide, by decide, hlocks, hr, fun h => absurd h (by decide), Nat.le_refl _⟩
  have hI : ∃ I : MI, I 100001 0 = Int32.ofNat L ∧ ∀ j, j < L → I 100000 j = xs j := ⟨fun k j => if k = 100001 then Int32.ofNat L else xs j, by simp, fun j _ => by simp⟩
  obtain ⟨I, hI1, hI2⟩ := hI
  have hm := hLaw L xs I (fun _ _ => 0) hL hI1 hI2 _ (mx_cl (l := l) (D := (fun z => (dD z).1, fun z => (dD z).2)) (cA := cA) (base := s.heap.size) (b := b) (Ls := L) (xs := xs) (adK := adK) (adV := adV) code_ok lay_ok tab_ok)
  rw [lg_entry_eq]
  refine hm 99999 (0, (fun _ => 0), (fun _ => 0)) p e room_1 s m #[Value.ref b] below meth c (lw_Z below #[Value.ref b] s) hF ?_ (fun _ => 0) s.heap [] _ 0 0 ⟨Nat.le_refl _, fun k hk => absurd hk (Nat.not_lt_zero _)⟩ ⟨fun k q h => (by cases h), ⟨fun i j p q h => (by cases h), fun k q h => (by cases h)⟩, fun k j => ⟨Or.inl rfl, _, rfl⟩, fun k hk => absurd hk (Nat.not_lt_zero _), hI1, hI2, by decide, by decide⟩ va_S.rf (LR.entry (as := [vr 3 0]) (n := 15) (by decide) (fun v hv => ?_)) (fun v hv => by cases hv) (by decide) (by decide)
  · intro ad H locs lsm cells slots pc ins r S I L stk hK hG hR hS hT hd hc hs
    cases hK
    refine W.widen (k := 600000) (n := 7302250) hc hs ?_
    have hret : ∀ v : Int32, (vi 1 : AV) = .inl v → v = 1 := fun v h => by cases h; rfl
    rcases hT with ⟨t1, t2, rfl, rfl⟩ | ⟨v, t1, t2, rfl, t3, rfl⟩ | ⟨v, t1, t2, rfl, t3, rfl⟩ | ⟨t, k, n, t1, t2, rfl, t3, t4, rfl⟩
    · exact absurd t2 (by decide)
    · cases hret v t3
      exact W.forget (locs := []) (L := locs) (fun q hq => hS.2.2 q hq) (lw_ret hx hb hr hlocks hd)
    · cases t3
    · cases t3
  · rcases List.mem_singleton.mp hv with rfl
    exact Or.inr (Or.inr (Or.inl rfl))
