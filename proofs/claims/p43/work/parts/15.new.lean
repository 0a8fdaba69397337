/-! one instruction: what makes a cell -/
theorem s18 {y pc n x z u : Nat} {ins : Instr} {c : Int32} {w : Int64} {sw : List (Int32 × Nat)} (h : sok y pc (18, ins, n, x, z, u, c, w, sw) = true) : ∃ i, ins = .new i ∧ n = 3 ∧ x < 12 ∧ z = cF x := by
  cases ins with
  | new i => exact ⟨i, rfl, of_decide_eq_true (and2 h).1, of_decide_eq_true (and2 (and2 h).2).1, of_decide_eq_true (and2 (and2 h).2).2⟩
  | _ => exact (Bool.false_ne_true h).elim
theorem s19 {y pc n x z u : Nat} {ins : Instr} {c : Int32} {w : Int64} {sw : List (Int32 × Nat)} (h : sok y pc (19, ins, n, x, z, u, c, w, sw) = true) : ∃ t, ins = .newarray t ∧ n = 2 ∧ newarray.typeOf t = (if z = 0 then .int else if z = 1 then .boolean else .long) ∧ z < 3 ∧ ¬ c < 0 ∧ c.toNatClampNeg = x ∧ x < 1000000 := by
  cases ins with
  | newarray t =>
    obtain ⟨h1, h⟩ := and2 h
    obtain ⟨h2, h⟩ := and2 h
    obtain ⟨h3, h⟩ := and2 h
    obtain ⟨h4, h⟩ := and2 h
    obtain ⟨h5, h6⟩ := and2 h
    exact ⟨t, rfl, of_decide_eq_true h1, of_decide_eq_true h2, of_decide_eq_true h3, of_decide_eq_true h4, of_decide_eq_true h5, of_decide_eq_true h6⟩
  | _ => exact (Bool.false_ne_true h).elim
theorem s21 {y pc n x z u : Nat} {ins : Instr} {c : Int32} {w : Int64} {sw : List (Int32 × Nat)} (h : sok y pc (21, ins, n, x, z, u, c, w, sw) = true) : ∃ t, ins = .newarray t ∧ n = 2 ∧ newarray.typeOf t = .int := by
  cases ins with
  | newarray t =>
    obtain ⟨h1, h2⟩ := and2 h
    exact ⟨t, rfl, of_decide_eq_true h1, of_decide_eq_true h2⟩
  | _ => exact (Bool.false_ne_true h).elim
theorem s20 {y pc n x z u : Nat} {ins : Instr} {c : Int32} {w : Int64} {sw : List (Int32 × Nat)} (h : sok y pc (20, ins, n, x, z, u, c, w, sw) = true) : ∃ i, ins = .anewarray i ∧ n = 3 ∧ 2 < z ∧ z < 6 ∧ ¬ c < 0 ∧ c.toNatClampNeg = x ∧ x < 1000000 := by
  cases ins with
  | anewarray i =>
    obtain ⟨h1, h⟩ := and2 h
    obtain ⟨h2, h⟩ := and2 h
    obtain ⟨h3, h⟩ := and2 h
    obtain ⟨h4, h⟩ := and2 h
    obtain ⟨h5, h6⟩ := and2 h
    exact ⟨i, rfl, of_decide_eq_true h1, of_decide_eq_true h2, of_decide_eq_true h3, of_decide_eq_true h4, of_decide_eq_true h5, of_decide_eq_true h6⟩
  | _ => exact (Bool.false_ne_true h).elim
theorem tS_mk {x z : Nat} (hz : z < 6) : tS (100 + 8 * x + z) = z ∧ tN (100 + 8 * x + z) = x := by
  unfold tS tN
  rw [ble_100 (by omega)]
  refine ⟨?_, ?_⟩
  · show (100 + 8 * x + z - 100) % 8 = z
    omega
  · omega
theorem tS_mk6 (x : Nat) : tS (100 + 8 * x + 6) = 6 ∧ tN (100 + 8 * x + 6) = x := by
  unfold tS tN
  rw [ble_100 (by omega)]
  refine ⟨?_, ?_⟩
  · show (100 + 8 * x + 6 - 100) % 8 = 6
    omega
  · omega
theorem v_ofN {v : Int32} (h : ¬ v < 0) : Int32.ofNat v.toNatClampNeg = v := by
  have h0 : (0 : Int) ≤ v.toInt := by
    have := mt Int32.lt_iff_toInt_lt.mpr h
    simpa using this
  apply Int32.toInt_inj.mp
  have h1 : (v.toNatClampNeg : Int) = v.toInt := by
    show ((v.toInt.toNat : Nat) : Int) = v.toInt
    omega
  have h2 := Int32.toInt_lt v
  rw [Int32.toInt_ofNat_of_lt (by omega)]
  exact h1
abbrev dsN (S : DS) (t z : Nat) : DS := (S.n + 1, aK S.kd S.n t, aR S.rf S.n (fun _ => nul), S.bc - 1, S.bs - z)
section FRM7
variable {D : va_G} {cA : Nat → ClassId} {base b Ls : Nat} {xs : Nat → Int32} {adK adV ad : Nat → Nat} {y T : Nat} {G : GT} {p : Program} {l : Launch} {e : Env} {R : Room} {s : State} {m : MethodId} {args : Array Value} {below : List Frame} {meth : Method} {c : Code} {Q : State → Prop}
/-- behind the making of a cell of kind t: the memory with it, one cell more -/
theorem lw_made {pc t z q : Nat} {x : va_E} {ls st : List AV} {S : DS} {I : MI} {L : ML} {H H1 : Heap} {locs1 : List Loc} {lsm : Array Slot} {cells slots : Nat} (hG : Gr G S ad) (hR : RH D cA base b Ls xs adK T ad S I L H) (hL : LR ad b adK S (mL y) ls lsm) (hO : ∀ v ∈ st, okV S v) (h1 : cells + S.bc ≤ R.cells) (h2 : slots + S.bs ≤ R.slots) (hb1 : 1 ≤ S.bc) (hb2 : z ≤ S.bs) (ht : kdOK t) (ht6 : tS t ≠ 6) (hx : ∀ ad', ent ad' b adK cA (dsN S t z) (aI I S.n (fun _ => 0)) (aL L S.n (fun _ => 0)) S.n = x)
    (a1 : va_P D vwCl (wsO ad b adK cA S I L ++ [(q, x)]) H1) (a2 : va_D (AO base) (wsO ad b adK cA S I L ++ [(q, x)])) (a3 : va_S (AO base) s.heap H1 locs1) (k : LW D cA base b Ls xs adK y T G p l e R s m args below meth c Q pc ls (vr t S.n :: st) (dsN S t z) (aI I S.n (fun _ => 0)) (aL L S.n (fun _ => 0))) : W p l e R s m args below meth c H1 locs1 (cells + 1) (slots + z) Q (F0 m pc lsm (.ref q :: st.map (cv ad b adK))) := by
  have hlt := hR.lt
  obtain ⟨-, -, r3, r4, r5, r6, r7, r8⟩ := hR
  have ea : ∀ k, k < S.n → (aK ad S.n q) k = ad k := fun k hk => by unfold aK; rw [if_neg (by omega)]
  have ek : ∀ k, k < S.n → (dsN S t z).kd k = S.kd k := fun k hk => by
    show aK S.kd S.n t k = S.kd k
    unfold aK
    rw [if_neg (by omega)]
  have er : ∀ k, k ≠ S.n → (dsN S t z).rf k = S.rf k := fun k hk => by
    show aR S.rf S.n (fun _ => nul) k = S.rf k
    unfold aR
    rw [if_neg hk]
  have ew : wsO ad b adK cA S I L ++ [(q, x)] = wsO (aK ad S.n q) b adK cA (dsN S t z) (aI I S.n (fun _ => 0)) (aL L S.n (fun _ => 0)) := ws_push rfl ek (fun k hk => er k (by omega)) (fun k hk => aI_o (by omega)) (fun k hk => aL_o (by omega)) ea (fun k j => (r3 k j).1) (by unfold aK; rw [if_pos rfl]) (hx _)
  rw [ew] at a1 a2
  have kk := k (aK ad S.n q) H1 locs1 lsm (cells + 1) (slots + z) ⟨Nat.le_succ_of_le hG.1, fun k hk => ?_⟩ ⟨a1, a2, fun k j => ?_, fun k hk => ?_, ?_, fun j hj => ?_, ?_, r8⟩ a3 (hL.ext (Nat.le_succ _) ek ea) (ok1 ?_ (fun v hv => okV_ext (hO v hv) (Nat.le_succ _) ek)) ?_ ?_
  · rw [List.map_cons, map_ext hO ea] at kk
    have e1 : cv (aK ad S.n q) b adK (vr t S.n) = .ref q := by
      rw [cv_r (by rcases ht with h | h <;> omega)]
      unfold aK
      rw [if_pos rfl]
    rw [e1] at kk
    exact kk
  · obtain ⟨g1, g2⟩ := hG.2 k hk
    have hkn : k < S.n := Nat.lt_of_lt_of_le hk hG.1
    exact ⟨(ek k hkn).trans g1, (ea k hkn).trans g2⟩
  · by_cases hk : k = S.n
    · have e1 : (dsN S t z).rf k j = nul := by
        show aR S.rf S.n (fun _ => nul) k j = nul
        unfold aR
        rw [if_pos hk]
      rw [e1]
      exact ⟨Or.inl rfl, _, rfl⟩
    · rw [er k hk]
      exact ⟨okV_ext (r3 k j).1 (Nat.le_succ _) ek, (r3 k j).2⟩
  · by_cases hkn : k = S.n
    · show kdOK (aK S.kd S.n t k) ∧ (tS (aK S.kd S.n t k) = 6 → _)
      unfold aK
      rw [if_pos hkn]
      exact ⟨ht, fun q => absurd q ht6⟩
    · have hk : k < S.n + 1 := hk
      rw [ek k (by omega), aI_o (show 200000 + k ≠ S.n by omega)]
      exact r4 k (by omega)
  · rw [aI_o (by omega)]
    exact r5
  · rw [aI_o (by omega)]
    exact r6 j hj
  · show S.n + 1 + (S.bc - 1) ≤ T
    omega
  · refine Or.inr (Or.inr (Or.inr (Or.inl ⟨by rcases ht with h | h <;> omega, ?_, Nat.lt_succ_self _⟩)))
    show aK S.kd S.n t S.n = t
    unfold aK
    rw [if_pos rfl]
  · show cells + 1 + (S.bc - 1) ≤ R.cells
    omega
  · show slots + z + (S.bs - z) ≤ R.slots
    omega
/-- behind the making of a cell of kind t: the memory with it, one cell more -/
theorem lw_madeD {pc q : Nat} {v : Int32} {x : va_E} {ls st : List AV} {S : DS} {I : MI} {L : ML} {H H1 : Heap} {locs1 : List Loc} {lsm : Array Slot} {cells slots : Nat} (hG : Gr G S ad) (hR : RH D cA base b Ls xs adK T ad S I L H) (hL : LR ad b adK S (mL y) ls lsm) (hO : ∀ v ∈ st, okV S v) (h1 : cells + S.bc ≤ R.cells) (h2 : slots + S.bs ≤ R.slots) (hb1 : 1 ≤ S.bc) (hb2 : v.toNatClampNeg ≤ S.bs) (ht : kdOK (100 + 8 * v.toNatClampNeg + 6)) (hv : ¬ v < 0) (hx : ∀ ad', ent ad' b adK cA (dsN S (100 + 8 * v.toNatClampNeg + 6) v.toNatClampNeg) (sI (aI I S.n (fun _ => 0)) (200000 + S.n) 0 v) (aL L S.n (fun _ => 0)) S.n = x)
    (a1 : va_P D vwCl (wsO ad b adK cA S I L ++ [(q, x)]) H1) (a2 : va_D (AO base) (wsO ad b adK cA S I L ++ [(q, x)])) (a3 : va_S (AO base) s.heap H1 locs1) (k : LW D cA base b Ls xs adK y T G p l e R s m args below meth c Q pc ls (vr 4 S.n :: st) (dsN S (100 + 8 * v.toNatClampNeg + 6) v.toNatClampNeg) (sI (aI I S.n (fun _ => 0)) (200000 + S.n) 0 v) (aL L S.n (fun _ => 0))) : W p l e R s m args below meth c H1 locs1 (cells + 1) (slots + v.toNatClampNeg) Q (F0 m pc lsm (.ref q :: st.map (cv ad b adK))) := by
  have hlt := hR.lt
  obtain ⟨-, -, r3, r4, r5, r6, r7, r8⟩ := hR
  have ea : ∀ k, k < S.n → (aK ad S.n q) k = ad k := fun k hk => by unfold aK; rw [if_neg (by omega)]
  have ek : ∀ k, k < S.n → (dsN S (100 + 8 * v.toNatClampNeg + 6) v.toNatClampNeg).kd k = S.kd k := fun k hk => by
    show aK S.kd S.n (100 + 8 * v.toNatClampNeg + 6) k = S.kd k
    unfold aK
    rw [if_neg (by omega)]
  have er : ∀ k, k ≠ S.n → (dsN S (100 + 8 * v.toNatClampNeg + 6) v.toNatClampNeg).rf k = S.rf k := fun k hk => by
    show aR S.rf S.n (fun _ => nul) k = S.rf k
    unfold aR
    rw [if_neg hk]
  have ew : wsO ad b adK cA S I L ++ [(q, x)] = wsO (aK ad S.n q) b adK cA (dsN S (100 + 8 * v.toNatClampNeg + 6) v.toNatClampNeg) (sI (aI I S.n (fun _ => 0)) (200000 + S.n) 0 v) (aL L S.n (fun _ => 0)) := ws_push rfl ek (fun k hk => er k (by omega)) (fun k hk => (sI_o (by omega)).trans (aI_o (by omega))) (fun k hk => aL_o (by omega)) ea (fun k j => (r3 k j).1) (by unfold aK; rw [if_pos rfl]) (hx _)
  rw [ew] at a1 a2
  have kk := k (aK ad S.n q) H1 locs1 lsm (cells + 1) (slots + v.toNatClampNeg) ⟨Nat.le_succ_of_le hG.1, fun k hk => ?_⟩ ⟨a1, a2, fun k j => ?_, fun k hk => ?_, ?_, fun j hj => ?_, ?_, r8⟩ a3 (hL.ext (Nat.le_succ _) ek ea) (ok1 ?_ (fun v hv => okV_ext (hO v hv) (Nat.le_succ _) ek)) ?_ ?_
  · rw [List.map_cons, map_ext hO ea] at kk
    have e1 : cv (aK ad S.n q) b adK (vr 4 S.n) = .ref q := by
      rw [cv_4]
      unfold aK
      rw [if_pos rfl]
    rw [e1] at kk
    exact kk
  · obtain ⟨g1, g2⟩ := hG.2 k hk
    have hkn : k < S.n := Nat.lt_of_lt_of_le hk hG.1
    exact ⟨(ek k hkn).trans g1, (ea k hkn).trans g2⟩
  · by_cases hk : k = S.n
    · have e1 : (dsN S (100 + 8 * v.toNatClampNeg + 6) v.toNatClampNeg).rf k j = nul := by
        show aR S.rf S.n (fun _ => nul) k j = nul
        unfold aR
        rw [if_pos hk]
      rw [e1]
      exact ⟨Or.inl rfl, _, rfl⟩
    · rw [er k hk]
      exact ⟨okV_ext (r3 k j).1 (Nat.le_succ _) ek, (r3 k j).2⟩
  · by_cases hkn : k = S.n
    · show kdOK (aK S.kd S.n (100 + 8 * v.toNatClampNeg + 6) k) ∧ (tS (aK S.kd S.n (100 + 8 * v.toNatClampNeg + 6) k) = 6 → _)
      unfold aK
      rw [if_pos hkn]
      refine ⟨ht, fun _ => ?_⟩
      subst hkn
      show sI _ (200000 + S.n) 0 v (200000 + S.n) 0 = _
      unfold sI
      rw [if_pos rfl, if_pos rfl]
      have ekd : (dsN S (100 + 8 * v.toNatClampNeg + 6) v.toNatClampNeg).kd S.n = 100 + 8 * v.toNatClampNeg + 6 := by
        show aK S.kd S.n _ S.n = _
        unfold aK
        rw [if_pos rfl]
      rw [ekd, (tS_mk6 v.toNatClampNeg).2]
      exact (v_ofN hv).symm
    · have hk : k < S.n + 1 := hk
      rw [ek k (by omega), sI_o (show 200000 + k ≠ 200000 + S.n by omega), aI_o (show 200000 + k ≠ S.n by omega)]
      exact r4 k (by omega)
  · rw [sI_o (by omega), aI_o (by omega)]
    exact r5
  · rw [sI_o (by omega), aI_o (by omega)]
    exact r6 j hj
  · show S.n + 1 + (S.bc - 1) ≤ T
    omega
  · refine Or.inr (Or.inr (Or.inr (Or.inr (Or.inl ⟨rfl, ?_, Nat.lt_succ_self _⟩))))
    show tS (aK S.kd S.n (100 + 8 * v.toNatClampNeg + 6) S.n) = 6
    unfold aK
    rw [if_pos rfl]
    exact (tS_mk6 _).1
  · show cells + 1 + (S.bc - 1) ≤ R.cells
    omega
  · show slots + v.toNatClampNeg + (S.bs - v.toNatClampNeg) ≤ R.slots
    omega
theorem lw_new (hw : LayW) (hF : FR D cA base b Ls xs adK adV y p R s m args meth c) {pc n x z u : Nat} {ins : Instr} {c0 : Int32} {w : Int64} {sw : List (Int32 × Nat)} {ls st : List AV} {S : DS} {I : MI} {L : ML} (hd : decode (mB y) pc = .ok (ins, n)) (hs : sok y pc (18, ins, n, x, z, u, c0, w, sw) = true) (hn : ∀ q ∈ need y (18, ins, n, x, z, u, c0, w, sw), q.before args s = true) (hbc : 1 ≤ S.bc ∧ z ≤ S.bs) (k : LW D cA base b Ls xs adK y T G p l e R s m args below meth c Q (pc + n) ls (vr (10 + x) S.n :: st) (dsN S (10 + x) z) (aI I S.n (fun _ => 0)) (aL L S.n (fun _ => 0))) : LW D cA base b Ls xs adK y T G p l e R s m args below meth c Q pc ls st S I L := by
  intro ad H locs lsm cells slots hG hR hS hL hO h1 h2
  obtain ⟨i, rfl, rfl, hx, rfl⟩ := s18 hs
  obtain ⟨hxe, hb, hml, hown, -, hK, hU, -, -, -, -, -, hbs⟩ := id hF
  have hkd : (dsN S (10 + x) (cF x)).kd S.n = 10 + x := by
    show aK S.kd S.n (10 + x) S.n = 10 + x
    unfold aK
    rw [if_pos rfl]
  have hfs : ∀ ad' j, ofv ad' b adK (dsN S (10 + x) (cF x)) (aI I S.n (fun _ => 0)) (aL L S.n (fun _ => 0)) S.n j = (match fk x j with
    | 1 => .long 0
    | 2 => .null
    | _ => .int 0) := by
    intro ad' j
    unfold ofv
    rw [hkd, show 10 + x - 10 = x by omega]
    have e1 : aI I S.n (fun _ => 0) S.n j = 0 := by unfold aI; rw [if_pos rfl]
    have e2 : aL L S.n (fun _ => 0) S.n j = 0 := by unfold aL; rw [if_pos rfl]
    have e3 : (dsN S (10 + x) (cF x)).rf S.n j = nul := by
      show aR S.rf S.n (fun _ => nul) S.n j = nul
      unfold aR
      rw [if_pos rfl]
    rw [e1, e2, e3]
    rfl
  refine va_new (D := D) (C := cN x) (T := cT x) (N := cF x) (ci := x) (cl := vwCl) (tys := tysO cA) (ws := wsO ad b adK cA S I L) (fs := (List.range (cF x)).map (fun j => match fk x j with
    | 1 => .long 0
    | 2 => .null
    | _ => .int 0)) hxe hb (hF.words (hw x hx)) (fun w h => h) (cTy x) (cTy_ok x hx) hown (hn _ List.mem_cons_self) (hn _ (List.mem_cons_of_mem _ List.mem_cons_self)) (hn _ (List.mem_cons_of_mem _ (List.mem_cons_of_mem _ List.mem_cons_self))) hK.1 hR.1 hR.2.1 hS (fun q hq => Nat.le_trans hbs hq) (vw_at x hx) (fun j hj => ?_) (by omega) (by omega) hd (fun q H1 a1 a2 a3 => ?_)
  · unfold vp_V
    rw [List.getD_eq_getElem?_getD, range_at hj]
    show defaultValue (cTy x j) = _
    rw [fk_of hx hj]
    have h9 := cTy_9 x hx j hj
    cases hc : cTy x j <;> first | rfl | (rw [hc] at h9; exact absurd rfl h9)
  · refine lw_made hG hR hL hO h1 h2 hbc.1 hbc.2 (Or.inl (by omega)) (fun q => by have := tS_lt (t := 10 + x) (by omega); omega) (fun ad' => ?_) a1 a2 a3 k
    rw [ent_obj hkd hx]
    congr 2
    exact List.map_congr_left (fun j _ => hfs ad' j)
theorem tys_p {z : Nat} {ty : FieldType} (hz : z < 3) (ht : ty = (if z = 0 then .int else if z = 1 then .boolean else .long)) : (tysO cA)[z]? = some (cA z, ty) := by
  subst ht
  match z, hz with
  | 0, _ => rfl
  | 1, _ => rfl
  | 2, _ => rfl
  | n + 3, h => exact absurd h (by omega)
theorem lw_newa (hF : FR D cA base b Ls xs adK adV y p R s m args meth c) {pc n x z u : Nat} {ins : Instr} {c0 v : Int32} {w : Int64} {sw : List (Int32 × Nat)} {ls st : List AV} {S : DS} {I : MI} {L : ML} (hd : decode (mB y) pc = .ok (ins, n)) (hs : sok y pc (19, ins, n, x, z, u, c0, w, sw) = true) (hn : ∀ q ∈ need y (19, ins, n, x, z, u, c0, w, sw), q.before args s = true) (hbc : v = c0 ∧ 1 ≤ S.bc ∧ x ≤ S.bs) (k : LW D cA base b Ls xs adK y T G p l e R s m args below meth c Q (pc + n) ls (vr (100 + 8 * x + z) S.n :: st) (dsN S (100 + 8 * x + z) x) (aI I S.n (fun _ => 0)) (aL L S.n (fun _ => 0))) : LW D cA base b Ls xs adK y T G p l e R s m args below meth c Q pc ls (.inl v :: st) S I L := by
  intro ad H locs lsm cells slots hG hR hS hL hO h1 h2
  obtain ⟨i, rfl, rfl, hty, hz, hc0, hcx, hx6⟩ := s19 hs
  obtain ⟨rfl, hb1, hb2⟩ := hbc
  obtain ⟨hxe, hb, hml, hown, -, hK, hU, -, -, -, -, -, hbs⟩ := id hF
  have hkd : (dsN S (100 + 8 * x + z) x).kd S.n = 100 + 8 * x + z := by
    show aK S.kd S.n _ S.n = _
    unfold aK
    rw [if_pos rfl]
  obtain ⟨t1, t2⟩ := tS_mk (x := x) (z := z) (by omega)
  have e1 : aI I S.n (fun _ => 0) S.n = fun _ => 0 := by unfold aI; rw [if_pos rfl]
  have e2 : aL L S.n (fun _ => 0) S.n = fun _ => 0 := by unfold aL; rw [if_pos rfl]
  have hcomp : x * componentBytes (newarray.typeOf i) ≤ 536870912 := by
    have : componentBytes (newarray.typeOf i) ≤ 8 := by cases i <;> decide
    have h3 := Nat.mul_le_mul (Nat.le_of_lt hx6) this
    omega
  have hent : ∃ a0 : vp_A, (∀ cc : ClassId, vp_cell cc a0 = arrV cc x (fun _ => defaultValue (newarray.typeOf i))) ∧ ∀ ad', ent ad' b adK cA (dsN S (100 + 8 * x + z) x) (aI I S.n (fun _ => 0)) (aL L S.n (fun _ => 0)) S.n = .inl (cA z, a0) := by
    rw [hty]
    rcases (show z = 0 ∨ z = 1 ∨ z = 2 by omega) with rfl | rfl | rfl
    · exact ⟨(x, .inl (fun _ => 0)), fun _ => rfl, fun ad' => by rw [ent_i hkd t1, e1, t2]⟩
    · exact ⟨(x, .inl (fun _ => 0)), fun _ => rfl, fun ad' => by rw [ent_z hkd t1, e1, t2]⟩
    · exact ⟨(x, .inr (.inl (fun _ => 0))), fun _ => rfl, fun ad' => by rw [ent_l hkd t1, e2, t2]⟩
  obtain ⟨a0, ha0, hx⟩ := hent
  refine va_newa (D := D) (cl := vwCl) (tys := tysO cA) (ws := wsO ad b adK cA S I L) hxe hb (hn _ List.mem_cons_self) rfl hK.1 hR.1 hR.2.1 hS (fun q hq => Nat.le_trans hbs hq) ha0 hc0 hcx hcomp (by omega) (by omega) hd (fun q cc H1 a4 a1 a2 a3 => ?_)
  have ecc : cc = cA z := by
    have r1 := (a4.2 6 (cc, newarray.typeOf i) rfl).2
    have r2 := (hK.1.2 z _ (tys_p hz hty)).2
    rw [hty] at r1 r2
    rcases (show z = 0 ∨ z = 1 ∨ z = 2 by omega) with rfl | rfl | rfl
    · exact Option.some.inj (Eq.trans (Eq.symm r1) r2)
    · exact Option.some.inj (Eq.trans (Eq.symm r1) r2)
    · exact Option.some.inj (Eq.trans (Eq.symm r1) r2)
  subst ecc
  exact lw_made hG hR hL (tl1 hO) h1 h2 hb1 hb2 (Or.inr ⟨by omega, by omega, by omega⟩) (by omega) hx a1 a2 a3 k
theorem lw_newd (hF : FR D cA base b Ls xs adK adV y p R s m args meth c) {pc n x z u : Nat} {ins : Instr} {c0 v : Int32} {w : Int64} {sw : List (Int32 × Nat)} {ls st : List AV} {S : DS} {I : MI} {L : ML} (hd : decode (mB y) pc = .ok (ins, n)) (hs : sok y pc (21, ins, n, x, z, u, c0, w, sw) = true) (hn : ∀ q ∈ need y (21, ins, n, x, z, u, c0, w, sw), q.before args s = true) (hbc : ¬ v < 0 ∧ v.toNatClampNeg < 1000000 ∧ 1 ≤ S.bc ∧ v.toNatClampNeg ≤ S.bs) (k : LW D cA base b Ls xs adK y T G p l e R s m args below meth c Q (pc + n) ls (vr 4 S.n :: st) (dsN S (100 + 8 * v.toNatClampNeg + 6) v.toNatClampNeg) (sI (aI I S.n (fun _ => 0)) (200000 + S.n) 0 v) (aL L S.n (fun _ => 0))) : LW D cA base b Ls xs adK y T G p l e R s m args below meth c Q pc ls (.inl v :: st) S I L := by
  intro ad H locs lsm cells slots hG hR hS hL hO h1 h2
  obtain ⟨i, rfl, rfl, hty⟩ := s21 hs
  obtain ⟨hc0, hx6, hb1, hb2⟩ := hbc
  have hlt := hR.lt
  obtain ⟨hxe, hb, hml, hown, -, hK, hU, -, -, -, -, -, hbs⟩ := id hF
  have hkd : (dsN S (100 + 8 * v.toNatClampNeg + 6) v.toNatClampNeg).kd S.n = 100 + 8 * v.toNatClampNeg + 6 := by
    show aK S.kd S.n _ S.n = _
    unfold aK
    rw [if_pos rfl]
  obtain ⟨t1, t2⟩ := tS_mk6 v.toNatClampNeg
  have e1 : sI (aI I S.n (fun _ => 0)) (200000 + S.n) 0 v S.n = fun _ => 0 := by
    rw [sI_o (by omega)]
    unfold aI
    rw [if_pos rfl]
  have hcomp : v.toNatClampNeg * componentBytes (newarray.typeOf i) ≤ 536870912 := by
    have : componentBytes (newarray.typeOf i) ≤ 8 := by cases i <;> decide
    have h3 := Nat.mul_le_mul (Nat.le_of_lt hx6) this
    omega
  have hent : ∃ a0 : vp_A, (∀ cc : ClassId, vp_cell cc a0 = arrV cc v.toNatClampNeg (fun _ => defaultValue (newarray.typeOf i))) ∧ ∀ ad', ent ad' b adK cA (dsN S (100 + 8 * v.toNatClampNeg + 6) v.toNatClampNeg) (sI (aI I S.n (fun _ => 0)) (200000 + S.n) 0 v) (aL L S.n (fun _ => 0)) S.n = .inl (cA 0, a0) := by
    rw [hty]
    exact ⟨(v.toNatClampNeg, .inl (fun _ => 0)), fun _ => rfl, fun ad' => by rw [ent_d hkd t1, e1, t2]⟩
  obtain ⟨a0, ha0, hx⟩ := hent
  refine va_newa (D := D) (cl := vwCl) (tys := tysO cA) (ws := wsO ad b adK cA S I L) hxe hb (hn _ List.mem_cons_self) rfl hK.1 hR.1 hR.2.1 hS (fun q hq => Nat.le_trans hbs hq) ha0 hc0 rfl hcomp (by omega) (by omega) hd (fun q cc H1 a4 a1 a2 a3 => ?_)
  have ecc : cc = cA 0 := by
    have r1 := (a4.2 6 (cc, newarray.typeOf i) rfl).2
    have r2 := (hK.1.2 0 _ (tys_p (z := 0) (by decide) hty)).2
    rw [hty] at r1 r2
    exact Option.some.inj (Eq.trans (Eq.symm r1) r2)
  subst ecc
  exact lw_madeD hG hR hL (tl1 hO) h1 h2 hb1 hb2 (Or.inr ⟨by omega, by omega, by omega⟩) hc0 hx a1 a2 a3 k
theorem lw_newq (hF : FR D cA base b Ls xs adK adV y p R s m args meth c) {pc n x z u : Nat} {ins : Instr} {c0 v : Int32} {w : Int64} {sw : List (Int32 × Nat)} {ls st : List AV} {S : DS} {I : MI} {L : ML} (hd : decode (mB y) pc = .ok (ins, n)) (hs : sok y pc (20, ins, n, x, z, u, c0, w, sw) = true) (hn : ∀ q ∈ need y (20, ins, n, x, z, u, c0, w, sw), q.before args s = true) (hbc : v = c0 ∧ 1 ≤ S.bc ∧ x ≤ S.bs) (k : LW D cA base b Ls xs adK y T G p l e R s m args below meth c Q (pc + n) ls (vr (100 + 8 * x + z) S.n :: st) (dsN S (100 + 8 * x + z) x) (aI I S.n (fun _ => 0)) (aL L S.n (fun _ => 0))) : LW D cA base b Ls xs adK y T G p l e R s m args below meth c Q pc ls (.inl v :: st) S I L := by
  intro ad H locs lsm cells slots hG hR hS hL hO h1 h2
  obtain ⟨i, rfl, rfl, hz2, hz6, hc0, hcx, hx6⟩ := s20 hs
  obtain ⟨rfl, hb1, hb2⟩ := hbc
  obtain ⟨hxe, hb, hml, hown, -, hK, hU, -, -, -, -, -, hbs⟩ := id hF
  have hkd : (dsN S (100 + 8 * x + z) x).kd S.n = 100 + 8 * x + z := by
    show aK S.kd S.n _ S.n = _
    unfold aK
    rw [if_pos rfl]
  obtain ⟨t1, t2⟩ := tS_mk (x := x) (z := z) (by omega)
  have hz3 : z = 3 ∨ z = 4 ∨ z = 5 := by omega
  have hover : va_AO (cN (aC z)) s := by
    rcases hz3 with rfl | rfl | rfl
    · exact hK.2.2.2.1
    · exact hK.2.2.2.2.1
    · exact hK.2.2.2.2.2
  refine va_newq (D := D) (cl := vwCl) (tys := tysO cA) (ws := wsO ad b adK cA S I L) (N' := x) hxe hb hown (hn _ List.mem_cons_self) hover hK.1 hR.1 hR.2.1 hS (fun q hq => Nat.le_trans hbs hq) hc0 hcx (by omega) (by omega) (by omega) hd (fun q cc H1 a4 a1 a2 a3 => ?_)
  have ecc : cc = cA z := by
    obtain ⟨-, -, -, -, -, r1⟩ := (a4.2 6 (cc, .object (cN (aC z))) rfl).2
    obtain ⟨-, -, -, -, -, r2⟩ := (hK.1.2 z _ (tys_q hz3).1).2
    exact Option.some.inj (Eq.trans (Eq.symm r1) r2)
  subst ecc
  refine lw_made hG hR hL (tl1 hO) h1 h2 hb1 hb2 (Or.inr ⟨by omega, by omega, by omega⟩) (by omega) (fun ad' => ?_) a1 a2 a3 k
  rw [ent_q hkd (by rw [t1]; exact hz3), t1, t2]
  congr 7
  funext j
  show rfo ad' b adK (aR S.rf S.n (fun _ => nul) S.n j) = none
  unfold aR
  rw [if_pos rfl]
  rfl
end FRM7
