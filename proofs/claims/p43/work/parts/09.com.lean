/-! one instruction: fields, arrays, the library's members -/
theorem s2 {y pc n x z u : Nat} {ins : Instr} {c : Int32} {w : Int64} {sw : List (Int32 × Nat)} (h : sok y pc (2, ins, n, x, z, u, c, w, sw) = true) : ∃ o, ins = .goto o ∧ (pc : Int) + o = (x : Int) ∧ n = 3 := by
  cases ins with
  | goto o => exact ⟨o, rfl, of_decide_eq_true (and2 h).1, of_decide_eq_true (and2 h).2⟩
  | _ => exact (Bool.false_ne_true h).elim
theorem s3 {y pc n x z u : Nat} {ins : Instr} {c : Int32} {w : Int64} {sw : List (Int32 × Nat)} (h : sok y pc (3, ins, n, x, z, u, c, w, sw) = true) : ∃ i, ins = .getfield i ∧ n = 3 ∧ z < 12 ∧ x < cF z ∧ u = fU (cTy z x) % 3 ∧ u < 2 := by
  cases ins with
  | getfield i =>
    obtain ⟨h1, h⟩ := and2 h
    obtain ⟨h2, h⟩ := and2 h
    obtain ⟨h3, h⟩ := and2 h
    have hz := of_decide_eq_true h2
    have hx := of_decide_eq_true h3
    rw [cTy_ok z hz x hx] at h
    obtain ⟨h4, h5⟩ := and2 h
    exact ⟨i, rfl, of_decide_eq_true h1, hz, hx, of_decide_eq_true h4, of_decide_eq_true h5⟩
  | _ => exact (Bool.false_ne_true h).elim
def finOK (y z x : Nat) : Bool := (!(cT z x).2.2.2 || decide ((mN y).name = "<init>") && decide ((cT z x).1 = mC y))
theorem s4 {y pc n x z u : Nat} {ins : Instr} {c : Int32} {w : Int64} {sw : List (Int32 × Nat)} (h : sok y pc (4, ins, n, x, z, u, c, w, sw) = true) : ∃ i, ins = .putfield i ∧ n = 3 ∧ z < 12 ∧ x < cF z ∧ u = fU (cTy z x) ∧ u ≠ 2 ∧ finOK y z x = true := by
  cases ins with
  | putfield i =>
    obtain ⟨h1, h⟩ := and2 h
    obtain ⟨h2, h⟩ := and2 h
    obtain ⟨h3, h⟩ := and2 h
    have hz := of_decide_eq_true h2
    have hx := of_decide_eq_true h3
    rw [cTy_ok z hz x hx] at h
    obtain ⟨h4, h6⟩ := and2 h
    obtain ⟨h4, h5⟩ := and2 h4
    exact ⟨i, rfl, of_decide_eq_true h1, hz, hx, of_decide_eq_true h4, of_decide_eq_true h5, h6⟩
  | _ => exact (Bool.false_ne_true h).elim
theorem s14 {y pc n x z u : Nat} {ins : Instr} {c : Int32} {w : Int64} {sw : List (Int32 × Nat)} (h : sok y pc (14, ins, n, x, z, u, c, w, sw) = true) : ∃ i, ins = .getfield i ∧ n = 3 ∧ z < 12 ∧ x < cF z ∧ 2 = fU (cTy z x) % 3 := by
  cases ins with
  | getfield i =>
    obtain ⟨h1, h⟩ := and2 h
    obtain ⟨h2, h⟩ := and2 h
    obtain ⟨h3, h⟩ := and2 h
    have hz := of_decide_eq_true h2
    have hx := of_decide_eq_true h3
    rw [cTy_ok z hz x hx] at h
    have h4 : decide (2 = fU (cTy z x) % 3) = true := h
    exact ⟨i, rfl, of_decide_eq_true h1, hz, hx, of_decide_eq_true h4⟩
  | _ => exact (Bool.false_ne_true h).elim
theorem s15 {y pc n x z u : Nat} {ins : Instr} {c : Int32} {w : Int64} {sw : List (Int32 × Nat)} (h : sok y pc (15, ins, n, x, z, u, c, w, sw) = true) : ∃ i, ins = .putfield i ∧ n = 3 ∧ z < 12 ∧ x < cF z ∧ 2 = fU (cTy z x) ∧ finOK y z x = true := by
  cases ins with
  | putfield i =>
    obtain ⟨h1, h⟩ := and2 h
    obtain ⟨h2, h⟩ := and2 h
    obtain ⟨h3, h⟩ := and2 h
    have hz := of_decide_eq_true h2
    have hx := of_decide_eq_true h3
    rw [cTy_ok z hz x hx] at h
    obtain ⟨h4, h6⟩ := and2 h
    have h4 : decide (2 = fU (cTy z x)) = true := h4
    exact ⟨i, rfl, of_decide_eq_true h1, hz, hx, of_decide_eq_true h4, h6⟩
  | _ => exact (Bool.false_ne_true h).elim
theorem cv_r {ad : Nat → Nat} {b : Nat} {adK : Nat → Nat} {t k : Nat} (h : 6 ≤ t) : cv ad b adK (.inr (.inr (t, k))) = .ref (ad k) := by
  obtain ⟨n, rfl⟩ : ∃ n, t = n + 6 := ⟨t - 6, by omega⟩
  rfl
theorem range_at {α : Type} {n x : Nat} {g : Nat → α} (h : x < n) : ((List.range n).map g)[x]? = some (g x) := by
  rw [List.getElem?_map, List.getElem?_range h]
  rfl
theorem fk_of {z x : Nat} (hz : z < 12) (hx : x < cF z) : fk z x = fU (cTy z x) := by
  unfold fk
  rw [cTy_ok z hz x hx]
section FRM2
variable {D : va_G} {cA : Nat → ClassId} {base b Ls : Nat} {xs : Nat → Int32} {adK adV ad : Nat → Nat} {y T : Nat} {G : GT} {p : Program} {l : Launch} {e : Env} {R : Room} {s : State} {m : MethodId} {args : Array Value} {below : List Frame} {meth : Method} {c : Code} {Q : State → Prop}
theorem FR.words (hF : FR D cA base b Ls xs adK adV y p R s m args meth c) {ws : List Cond} (h : ∀ w ∈ ws, w ∈ lw_tbl ∧ goodWord w = true) : ∀ w ∈ ws, w.before args s = true := fun w hw => hF.2.2.2.2.1 w (h w hw).1 (h w hw).2
/-- reading a field: its value as the memory has it -/
theorem lw_getv (hw : LayW) (hF : FR D cA base b Ls xs adK adV y p R s m args meth c) {pc x z r i : Nat} {rest : List Value} {S : DS} {I : MI} {L : ML} {H : Heap} {locs : List Loc} {lsm : Array Slot} {cells slots : Nat} (hR : RH D cA base b Ls xs adK T ad S I L H) (hz : z < 12) (hx : x < cF z) (hk : S.kd r = 10 + z) (hl : r < S.n) (hn : (Cond.fieldLink (mC y) i (cT z x).1 (cT z x).2.1 (cT z x).2.2.1).before args s = true) (hd : decode (mB y) pc = .ok (.getfield i, 3))
    (k : W p l e R s m args below meth c H locs cells slots Q (F0 m (pc + 3) lsm (ofv ad b adK S I L r x :: rest))) : W p l e R s m args below meth c H locs cells slots Q (F0 m pc lsm (.ref (ad r) :: rest)) := by
  obtain ⟨hxe, hb, hml, hown, -, hK, -⟩ := id hF
  exact va_get (D := D) (C := cN z) (T := cT z) (N := cF z) (ci := z) (cl := vwCl) (tys := tysO cA) (ws := wsO ad b adK cA S I L) (fs := (List.range (cF z)).map (ofv ad b adK S I L r)) hxe hb (hF.words (hw z hz)) (fun w h => h) hown hK.1 hR.1 r (by rw [ws_at hl, ent_obj hk hz]) (vw_at z hz) x hx hn (fun _ h => h) (range_at hx) hd k
/-- writing a field -/
theorem lw_putv (hw : LayW) (hF : FR D cA base b Ls xs adK adV y p R s m args meth c) {pc x z r i : Nat} {v : Value} {rest : List Value} {S S' : DS} {I I' : MI} {L L' : ML} {H : Heap} {locs : List Loc} {lsm : Array Slot} {cells slots : Nat} (hR : RH D cA base b Ls xs adK T ad S I L H) (hS : va_S (AO base) s.heap H locs) (hz : z < 12) (hx : x < cF z) (hk : S.kd r = 10 + z) (hl : r < S.n) (hn : (Cond.fieldLink (mC y) i (cT z x).1 (cT z x).2.1 (cT z x).2.2.1).before args s = true) (hfin : finOK y z x = true) (hnar : narrow (cTy z x) v = v) (hfit : fits (cTy z x) v = true) (hd : decode (mB y) pc = .ok (.putfield i, 3))
    (hset : (wsO ad b adK cA S I L).set r (ad r, .inr (z, ((List.range (cF z)).map (ofv ad b adK S I L r)).set x v)) = wsO ad b adK cA S' I' L')
    (k : ∀ (H1 : Heap) (locs1 : List Loc), va_P D vwCl (wsO ad b adK cA S' I' L') H1 → va_D (AO base) (wsO ad b adK cA S' I' L') → va_S (AO base) s.heap H1 locs1 → W p l e R s m args below meth c H1 locs1 cells slots Q (F0 m (pc + 3) lsm rest)) : W p l e R s m args below meth c H locs cells slots Q (F0 m pc lsm (v :: .ref (ad r) :: rest)) := by
  obtain ⟨hxe, hb, hml, hown, -, hK, -, -, -, -, -, hnm, -⟩ := id hF
  have he : (wsO ad b adK cA S I L)[r]? = some (ad r, .inr (z, (List.range (cF z)).map (ofv ad b adK S I L r))) := by rw [ws_at hl, ent_obj hk hz]
  have hlen : x < ((List.range (cF z)).map (ofv ad b adK S I L r)).length := by simp; exact hx
  cases hf : (cT z x).2.2.2 with
  | false => exact va_put (D := D) (C := cN z) (T := cT z) (N := cF z) (ci := z) (cl := vwCl) (tys := tysO cA) hxe hb (hF.words (hw z hz)) (fun w h => h) (cTy z) (cTy_ok z hz) (cNm_ok z hz) hown hK.1 hR.1 hR.2.1 hS r he (vw_at z hz) x hx hn (fun _ h => h) hf (cTy_ok z hz x hx) hnar hfit hlen hd (fun H1 locs1 a1 a2 a3 => k H1 locs1 (by rw [← hset]; exact a1) (by rw [← hset]; exact a2) a3)
  | true =>
    unfold finOK at hfin
    rw [hf] at hfin
    obtain ⟨g1, g2⟩ := and2 (a := decide ((mN y).name = "<init>")) (b := decide ((cT z x).1 = mC y)) hfin
    exact va_putF (D := D) (C := cN z) (T := cT z) (N := cF z) (ci := z) (cl := vwCl) (tys := tysO cA) hxe hb (hF.words (hw z hz)) (fun w h => h) (cTy z) (cTy_ok z hz) (cNm_ok z hz) hown hK.1 hR.1 hR.2.1 hS r he (vw_at z hz) x hx hn (fun _ h => h) hf (hnm (of_decide_eq_true g1)) (of_decide_eq_true g2) (cTy_ok z hz x hx) hnar hfit hlen hd (fun H1 locs1 a1 a2 a3 => k H1 locs1 (by rw [← hset]; exact a1) (by rw [← hset]; exact a2) a3)
theorem put_I {S : DS} {I : MI} {L : ML} {r x z : Nat} {v : Int32} (hk : S.kd r = 10 + z) (hz : z < 12) (hx : x < cF z) (ht : fU (cTy z x) = 0 ∨ fU (cTy z x) = 3) : (wsO ad b adK cA S I L).set r (ad r, .inr (z, ((List.range (cF z)).map (ofv ad b adK S I L r)).set x (.int v))) = wsO ad b adK cA S (sI I r x v) L := by
  refine ws_set ?_ (fun j hj => ent_I (sI_o hj))
  rw [ent_obj hk hz, map_set]
  congr 2
  apply List.map_congr_left
  intro j hj
  by_cases e1 : j = x
  · subst e1
    rw [if_pos rfl]
    unfold ofv
    rw [hk, show 10 + z - 10 = z by omega, fk_of hz hx]
    rcases ht with h | h <;> (rw [h]; unfold sI; rw [if_pos rfl, if_pos rfl]; rfl)
  · rw [if_neg e1]
    unfold ofv sI
    rw [if_pos rfl, if_neg e1]
theorem put_L {S : DS} {I : MI} {L : ML} {r x z : Nat} {v : Int64} (hk : S.kd r = 10 + z) (hz : z < 12) (hx : x < cF z) (ht : fU (cTy z x) = 1) : (wsO ad b adK cA S I L).set r (ad r, .inr (z, ((List.range (cF z)).map (ofv ad b adK S I L r)).set x (.long v))) = wsO ad b adK cA S I (sL L r x v) := by
  refine ws_set ?_ (fun j hj => ent_L (sL_o hj))
  rw [ent_obj hk hz, map_set]
  congr 2
  apply List.map_congr_left
  intro j hj
  by_cases e1 : j = x
  · subst e1
    rw [if_pos rfl]
    unfold ofv
    rw [hk, show 10 + z - 10 = z by omega, fk_of hz hx, ht]
    unfold sL
    rw [if_pos rfl, if_pos rfl]
    rfl
  · rw [if_neg e1]
    unfold ofv sL
    rw [if_pos rfl, if_neg e1]
theorem fU_int {t : FieldType} (h : fU t = 0) : t = .int := by
  cases t <;> first | rfl | cases h
theorem fU_long {t : FieldType} (h : fU t = 1) : t = .long := by
  cases t <;> first | rfl | cases h
theorem fU_bool {t : FieldType} (h : fU t = 3) : t = .boolean := by
  cases t <;> first | rfl | cases h
def gv (u : Nat) (a : Int32) (w : Int64) : AV := match u with
  | 0 => .inl a
  | _ => .inr (.inl w)
theorem lw_get (hw : LayW) (hF : FR D cA base b Ls xs adK adV y p R s m args meth c) {pc n x z u t r : Nat} {ins : Instr} {c0 : Int32} {w : Int64} {sw : List (Int32 × Nat)} {ls st : List AV} {S : DS} {I : MI} {L : ML} (hd : decode (mB y) pc = .ok (ins, n)) (hs : sok y pc (3, ins, n, x, z, u, c0, w, sw) = true) (hn : ∀ q ∈ need y (3, ins, n, x, z, u, c0, w, sw), q.before args s = true) (ht : Nat.beq t (10 + z) = true) (k : LW D cA base b Ls xs adK y T G p l e R s m args below meth c Q (pc + n) ls (gv u (I r x) (L r x) :: st) S I L) : LW D cA base b Ls xs adK y T G p l e R s m args below meth c Q pc ls (.inr (.inr (t, r)) :: st) S I L := by
  intro ad H locs lsm cells slots hG hR hS hL hO h1 h2
  obtain ⟨i, rfl, rfl, hz, hx, hu, hu2⟩ := s3 hs
  obtain rfl := beq_t ht
  obtain ⟨g1, g2⟩ := ok_ref (hd1 hO) (by omega)
  rw [List.map_cons, cv_r (by omega)]
  refine lw_getv hw hF hR hz hx g1 g2 (hn _ List.mem_cons_self) hd ?_
  have kk := k ad H locs lsm cells slots hG hR hS hL
  have e : ofv ad b adK S I L r x = cv ad b adK (gv u (I r x) (L r x)) := by
    unfold ofv
    rw [g1, show 10 + z - 10 = z by omega, fk_of hz hx]
    rw [hu]
    have h9 := hu2
    rw [hu] at h9
    cases hc : cTy z x <;> first | rfl | (rw [hc] at h9; exact absurd h9 (Nat.lt_irrefl 2))
  have := kk (ok1 (by unfold gv; split <;> exact trivial) (tl1 hO)) h1 h2
  rw [List.map_cons, ← e] at this
  exact this
theorem lw_putI (hw : LayW) (hF : FR D cA base b Ls xs adK adV y p R s m args meth c) {pc n x z u t r : Nat} {v : Int32} {ins : Instr} {c0 : Int32} {w : Int64} {sw : List (Int32 × Nat)} {ls st : List AV} {S : DS} {I : MI} {L : ML} (hd : decode (mB y) pc = .ok (ins, n)) (hs : sok y pc (4, ins, n, x, z, u, c0, w, sw) = true) (hn : ∀ q ∈ need y (4, ins, n, x, z, u, c0, w, sw), q.before args s = true) (ht : Nat.beq t (10 + z) = true) (hv : u = 0 ∨ u = 3 ∧ (v = 0 ∨ v = 1)) (k : LW D cA base b Ls xs adK y T G p l e R s m args below meth c Q (pc + n) ls st S (sI I r x v) L) : LW D cA base b Ls xs adK y T G p l e R s m args below meth c Q pc ls (.inl v :: .inr (.inr (t, r)) :: st) S I L := by
  intro ad H locs lsm cells slots hG hR hS hL hO h1 h2
  obtain ⟨i, rfl, rfl, hz, hx, hu, hu2, hfin⟩ := s4 hs
  obtain rfl := beq_t ht
  obtain ⟨g1, g2⟩ := ok_ref (hd1 (tl1 hO)) (by omega)
  have hnf : narrow (cTy z x) (.int v) = .int v ∧ fits (cTy z x) (.int v) = true := by
    rcases hv with h0 | ⟨h3, h0 | h0⟩
    · rw [fU_int (hu.symm.trans h0)]
      exact ⟨rfl, rfl⟩
    · rw [fU_bool (hu.symm.trans h3), h0]
      exact ⟨rfl, rfl⟩
    · rw [fU_bool (hu.symm.trans h3), h0]
      exact ⟨rfl, rfl⟩
  rw [List.map_cons, List.map_cons, cv_r (by omega)]
  refine lw_putv hw hF hR hS hz hx g1 g2 (hn _ List.mem_cons_self) hfin hnf.1 hnf.2 hd (put_I g1 hz hx (by rw [← hu]; rcases hv with h0 | h0; exact Or.inl h0; exact Or.inr h0.1)) (fun H1 locs1 a1 a2 a3 => ?_)
  exact k ad H1 locs1 lsm cells slots hG (hR.to a1 a2 (fun a ha => sI_o (by omega))) a3 hL (tl1 (tl1 hO)) h1 h2
theorem lw_putL (hw : LayW) (hF : FR D cA base b Ls xs adK adV y p R s m args meth c) {pc n x z u t r : Nat} {v : Int64} {ins : Instr} {c0 : Int32} {w : Int64} {sw : List (Int32 × Nat)} {ls st : List AV} {S : DS} {I : MI} {L : ML} (hd : decode (mB y) pc = .ok (ins, n)) (hs : sok y pc (4, ins, n, x, z, u, c0, w, sw) = true) (hn : ∀ q ∈ need y (4, ins, n, x, z, u, c0, w, sw), q.before args s = true) (ht : Nat.beq t (10 + z) = true) (hv : u = 1) (k : LW D cA base b Ls xs adK y T G p l e R s m args below meth c Q (pc + n) ls st S I (sL L r x v)) : LW D cA base b Ls xs adK y T G p l e R s m args below meth c Q pc ls (.inr (.inl v) :: .inr (.inr (t, r)) :: st) S I L := by
  intro ad H locs lsm cells slots hG hR hS hL hO h1 h2
  obtain ⟨i, rfl, rfl, hz, hx, hu, hu2, hfin⟩ := s4 hs
  obtain rfl := beq_t ht
  obtain ⟨g1, g2⟩ := ok_ref (hd1 (tl1 hO)) (by omega)
  have hnf : narrow (cTy z x) (.long v) = .long v ∧ fits (cTy z x) (.long v) = true := by
    rw [fU_long (hu.symm.trans hv)]
    exact ⟨rfl, rfl⟩
  rw [List.map_cons, List.map_cons, cv_r (by omega)]
  refine lw_putv hw hF hR hS hz hx g1 g2 (hn _ List.mem_cons_self) hfin hnf.1 hnf.2 hd (put_L g1 hz hx (hu.symm.trans hv)) (fun H1 locs1 a1 a2 a3 => ?_)
  exact k ad H1 locs1 lsm cells slots hG (hR.to a1 a2 (fun _ _ => rfl)) a3 hL (tl1 (tl1 hO)) h1 h2
end FRM2
