/-! one instruction: the library's members, ways by a table, remainders; and all that touch numbers alone -/
theorem cat_sum {ad : Nat → Nat} {b : Nat} {adK : Nat → Nat} : ∀ st : List AV, ((st.map (cv ad b adK)).map fun v => v.category).sum ≤ 2 * st.length
  | [] => Nat.le_refl _
  | a :: st => by
    have h1 := cat_sum (ad := ad) (b := b) (adK := adK) st
    have h2 := lv_cat (cv ad b adK a)
    rw [List.map_cons, List.map_cons, List.sum_cons, List.length_cons]
    omega
theorem cat_8 {ad : Nat → Nat} {b : Nat} {adK : Nat → Nat} {st : List AV} (h : Nat.ble st.length 4 = true) : ((st.map (cv ad b adK)).map fun v => v.category).sum ≤ 8 := by
  have h1 := cat_sum (ad := ad) (b := b) (adK := adK) st
  have h2 := Nat.le_of_ble_eq_true h
  omega
theorem cat_c {ad : Nat → Nat} {b : Nat} {adK : Nat → Nat} : ∀ (st : List AV), ((st.map (cv ad b adK)).map fun v => v.category).sum = catL st
  | [] => rfl
  | .inl v :: st => by
    rw [List.map_cons, List.map_cons, List.sum_cons, cat_c st]
    show 1 + catL st = catL st + 1
    omega
  | .inr (.inl v) :: st => by
    rw [List.map_cons, List.map_cons, List.sum_cons, cat_c st]
    show 2 + catL st = catL st + 2
    omega
  | .inr (.inr r) :: st => by
    rw [List.map_cons, List.map_cons, List.sum_cons, cat_c st]
    have h0 : ∀ o, (va_rf o).category = 1 := fun o => by cases o <;> rfl
    have h : (cv ad b adK (.inr (.inr r))).category = 1 := h0 _
    rw [h]
    show 1 + catL st = catL st + 1
    omega
theorem cat_8c {ad : Nat → Nat} {b : Nat} {adK : Nat → Nat} {st : List AV} (h : Nat.ble (catL st) 8 = true) : ((st.map (cv ad b adK)).map fun v => v.category).sum ≤ 8 := by
  rw [cat_c]
  exact Nat.le_of_ble_eq_true h
theorem s8_0 {y pc n x z u : Nat} {ins : Instr} {c : Int32} {w : Int64} {sw : List (Int32 × Nat)} (h : sok y pc (8, ins, n, x, z, u, c, w, sw) = true) (hx : x = 0 ∨ x = 1) : ∃ i, ins = .invokestatic i ∧ n = 3 ∧ 1 ≤ mH y ∧ 21 ≤ mW y := by
  cases ins with
  | invokestatic i =>
    rcases hx with rfl | rfl
    · exact ⟨i, rfl, of_decide_eq_true (and2 h).1, of_decide_eq_true (and2 (and2 h).2).1, of_decide_eq_true (and2 (and2 h).2).2⟩
    · exact ⟨i, rfl, of_decide_eq_true (and2 h).1, of_decide_eq_true (and2 (and2 h).2).1, of_decide_eq_true (and2 (and2 h).2).2⟩
  | _ => rcases hx with rfl | rfl <;> exact (Bool.false_ne_true h).elim
theorem s8_4 {y pc n z u : Nat} {ins : Instr} {c : Int32} {w : Int64} {sw : List (Int32 × Nat)} (h : sok y pc (8, ins, n, 4, z, u, c, w, sw) = true) : ∃ i, ins = .invokestatic i ∧ n = 3 ∧ 1 ≤ mH y ∧ 26 ≤ mW y := by
  cases ins with
  | invokestatic i => exact ⟨i, rfl, of_decide_eq_true (and2 h).1, of_decide_eq_true (and2 (and2 h).2).1, of_decide_eq_true (and2 (and2 h).2).2⟩
  | _ => exact (Bool.false_ne_true h).elim
theorem s8_5 {y pc n z u : Nat} {ins : Instr} {c : Int32} {w : Int64} {sw : List (Int32 × Nat)} (h : sok y pc (8, ins, n, 5, z, u, c, w, sw) = true) : ∃ i, ins = .invokespecial i ∧ n = 3 ∧ 1 ≤ mH y ∧ 20 ≤ mW y := by
  cases ins with
  | invokespecial i => exact ⟨i, rfl, of_decide_eq_true (and2 h).1, of_decide_eq_true (and2 (and2 h).2).1, of_decide_eq_true (and2 (and2 h).2).2⟩
  | _ => exact (Bool.false_ne_true h).elim
theorem s8_2 {y pc n z u : Nat} {ins : Instr} {c : Int32} {w : Int64} {sw : List (Int32 × Nat)} (h : sok y pc (8, ins, n, 2, z, u, c, w, sw) = true) : ∃ i, ins = .invokevirtual i ∧ n = 3 ∧ 3 ≤ mH y ∧ 60 ≤ mW y := by
  cases ins with
  | invokevirtual i => exact ⟨i, rfl, of_decide_eq_true (and2 h).1, of_decide_eq_true (and2 (and2 h).2).1, of_decide_eq_true (and2 (and2 h).2).2⟩
  | _ => exact (Bool.false_ne_true h).elim
theorem s8_3 {y pc n z u : Nat} {ins : Instr} {c : Int32} {w : Int64} {sw : List (Int32 × Nat)} (h : sok y pc (8, ins, n, 3, z, u, c, w, sw) = true) : ∃ i, ins = .invokevirtual i ∧ n = 3 ∧ 5 ≤ mH y ∧ 100 ≤ mW y := by
  cases ins with
  | invokevirtual i => exact ⟨i, rfl, of_decide_eq_true (and2 h).1, of_decide_eq_true (and2 (and2 h).2).1, of_decide_eq_true (and2 (and2 h).2).2⟩
  | _ => exact (Bool.false_ne_true h).elim
theorem s9 {y pc n x z u : Nat} {ins : Instr} {c : Int32} {w : Int64} {sw : List (Int32 × Nat)} (h : sok y pc (9, ins, n, x, z, u, c, w, sw) = true) : ∃ d lo hi os, ins = .tableswitch d lo hi os ∧ (pc : Int) + d = (x : Int) ∧ (sw.length : Int) = hi - lo + 1 ∧ swOK pc lo os.toList sw = true := by
  cases ins with
  | tableswitch d lo hi os => exact ⟨d, lo, hi, os, rfl, of_decide_eq_true (and2 h).1, of_decide_eq_true (and2 (and2 h).2).1, (and2 (and2 h).2).2⟩
  | _ => exact (Bool.false_ne_true h).elim
theorem s11 {y pc n x z u : Nat} {ins : Instr} {c : Int32} {w : Int64} {sw : List (Int32 × Nat)} (h : sok y pc (11, ins, n, x, z, u, c, w, sw) = true) (hng : ∀ i, ins = .getstatic i → False) : ∃ i, ins = .ldc i ∧ n = 2 ∧ mC y = "SaidBack$Reader" ∧ x < 14 ∧ (nth (0, "") strW x).1 = i := by
  cases ins with
  | ldc i => exact ⟨i, rfl, of_decide_eq_true (and2 h).1, of_decide_eq_true (and2 (and2 h).2).1, of_decide_eq_true (and2 (and2 (and2 h).2).2).1, of_decide_eq_true (and2 (and2 (and2 h).2).2).2⟩
  | getstatic i => exact (hng i rfl).elim
  | _ => exact (Bool.false_ne_true h).elim
theorem sw_out {P : Nat → Prop} {d : Nat} {v : Int32} : ∀ {sw : List (Int32 × Nat)}, swP P d v sw → (∀ q ∈ sw, ¬ v = q.1) → P d
  | [], h, _ => h
  | q :: _, h, hn => sw_out (h.2 (hn q List.mem_cons_self)) (fun q' hq => hn q' (List.mem_cons_of_mem _ hq))
theorem sw_in {P : Nat → Prop} {d : Nat} {v : Int32} : ∀ {sw : List (Int32 × Nat)} {i : Nat} {q : Int32 × Nat}, swP P d v sw → sw[i]? = some q → v = q.1 → (∀ j q', j < i → sw[j]? = some q' → ¬ v = q'.1) → P q.2
  | [], _, _, _, hq, _, _ => by cases hq
  | a :: _, 0, q, h, hq, hv, _ => by
    cases hq
    exact h.1 hv
  | a :: _, i + 1, q, h, hq, hv, hn => sw_in (h.2 (hn 0 a (Nat.succ_pos _) rfl)) hq hv (fun j q' hj hq' => hn (j + 1) q' (Nat.succ_lt_succ hj) hq')
theorem swOK_at : ∀ {os : List Int} {sw : List (Int32 × Nat)} {pc : Nat} {lo : Int}, swOK pc lo os sw = true → os.length = sw.length ∧ ∀ (i : Nat) (q : Int32 × Nat), sw[i]? = some q → q.1.toInt = lo + i ∧ ∃ o, os[i]? = some o ∧ (pc : Int) + o = (q.2 : Int)
  | [], [], _, _, _ => ⟨rfl, fun i q h => by cases h⟩
  | [], _ :: _, _, _, h => (Bool.false_ne_true h).elim
  | _ :: _, [], _, _, h => (Bool.false_ne_true h).elim
  | o :: os, a :: sw, pc, lo, h => by
    obtain ⟨h1, h2⟩ := and2 h
    obtain ⟨h2, h3⟩ := and2 h2
    obtain ⟨g1, g2⟩ := swOK_at h3
    refine ⟨by rw [List.length_cons, List.length_cons, g1], fun i q hq => ?_⟩
    cases i with
    | zero =>
      cases hq
      exact ⟨by rw [of_decide_eq_true h1]; simp, o, rfl, of_decide_eq_true h2⟩
    | succ i =>
      obtain ⟨e1, o', e2, e3⟩ := g2 i q hq
      exact ⟨by rw [e1]; omega, o', e2, e3⟩
section FRM4
variable {D : va_G} {cA : Nat → ClassId} {base b Ls : Nat} {xs : Nat → Int32} {adK adV ad : Nat → Nat} {y T : Nat} {G : GT} {p : Program} {l : Launch} {e : Env} {R : Room} {s : State} {m : MethodId} {args : Array Value} {below : List Frame} {meth : Method} {c : Code} {Q : State → Prop}
theorem FR.ju (hF : FR D cA base b Ls xs adK adV y p R s m args meth c) : JU base adK adV s s.heap := ⟨hF.2.2.2.2.2.2.1.2.1, hF.2.2.2.2.2.2.1.2.2.1, hF.2.2.2.2.2.2.1.2.2.2.1⟩
theorem FR.tg (hF : FR D cA base b Ls xs adK adV y p R s m args meth c) : ∀ w ∈ TG, w.before args s = true := fun w hw => hF.2.2.2.2.1 w (List.mem_filter.mp hw).1 (List.mem_filter.mp hw).2
theorem lw_max (hF : FR D cA base b Ls xs adK adV y p R s m args meth c) {pc n z u : Nat} {ins : Instr} {c0 : Int32} {w : Int64} {sw : List (Int32 × Nat)} {v1 v2 : Int32} {ls st : List AV} {S : DS} {I : MI} {L : ML} (hd : decode (mB y) pc = .ok (ins, n)) (hs : sok y pc (8, ins, n, 0, z, u, c0, w, sw) = true) (hn : ∀ q ∈ need y (8, ins, n, 0, z, u, c0, w, sw), q.before args s = true) (h4 : Nat.ble st.length 4 = true) (k : LW D cA base b Ls xs adK y T G p l e R s m args below meth c Q (pc + n) ls (.inl (if v1 < v2 then v2 else v1) :: st) S I L) : LW D cA base b Ls xs adK y T G p l e R s m args below meth c Q pc ls (.inl v2 :: .inl v1 :: st) S I L := by
  intro ad H locs lsm cells slots hG hR hS hL hO h1 h2
  obtain ⟨i, rfl, rfl, hh, hwd⟩ := s8_0 hs (Or.inl rfl)
  obtain ⟨hxe, hb, hml, hown, -, -, -, hH, hW, -⟩ := hF
  have h8 := cat_8 (ad := ad) (b := b) (adK := adK) h4
  exact va_mmax hxe hb (by rw [hml, hL.2.1.1]) hown (hn _ List.mem_cons_self) (hn _ (List.mem_cons_of_mem _ List.mem_cons_self)) (hn _ (List.mem_cons_of_mem _ (List.mem_cons_of_mem _ List.mem_cons_self))) (hn _ (List.mem_cons_of_mem _ (List.mem_cons_of_mem _ (List.mem_cons_of_mem _ List.mem_cons_self)))) (by omega) (by omega) (by omega) (by omega) hd (k ad H locs lsm cells slots hG hR hS hL (ok1 trivial (tl1 (tl1 hO))) h1 h2)
theorem lw_min (hF : FR D cA base b Ls xs adK adV y p R s m args meth c) {pc n z u : Nat} {ins : Instr} {c0 : Int32} {w : Int64} {sw : List (Int32 × Nat)} {v1 v2 : Int32} {ls st : List AV} {S : DS} {I : MI} {L : ML} (hd : decode (mB y) pc = .ok (ins, n)) (hs : sok y pc (8, ins, n, 1, z, u, c0, w, sw) = true) (hn : ∀ q ∈ need y (8, ins, n, 1, z, u, c0, w, sw), q.before args s = true) (h4 : Nat.ble st.length 4 = true) (k : LW D cA base b Ls xs adK y T G p l e R s m args below meth c Q (pc + n) ls (.inl (if v2 < v1 then v2 else v1) :: st) S I L) : LW D cA base b Ls xs adK y T G p l e R s m args below meth c Q pc ls (.inl v2 :: .inl v1 :: st) S I L := by
  intro ad H locs lsm cells slots hG hR hS hL hO h1 h2
  obtain ⟨i, rfl, rfl, hh, hwd⟩ := s8_0 hs (Or.inr rfl)
  obtain ⟨hxe, hb, hml, hown, -, -, -, hH, hW, -⟩ := hF
  have h8 := cat_8 (ad := ad) (b := b) (adK := adK) h4
  exact va_mmin hxe hb (by rw [hml, hL.2.1.1]) hown (hn _ List.mem_cons_self) (hn _ (List.mem_cons_of_mem _ List.mem_cons_self)) (hn _ (List.mem_cons_of_mem _ (List.mem_cons_of_mem _ List.mem_cons_self))) (hn _ (List.mem_cons_of_mem _ (List.mem_cons_of_mem _ (List.mem_cons_of_mem _ List.mem_cons_self)))) (by omega) (by omega) (by omega) (by omega) hd (k ad H locs lsm cells slots hG hR hS hL (ok1 trivial (tl1 (tl1 hO))) h1 h2)
theorem lw_oinit (hF : FR D cA base b Ls xs adK adV y p R s m args meth c) {pc n z u t k0 : Nat} {ins : Instr} {c0 : Int32} {w : Int64} {sw : List (Int32 × Nat)} {ls st : List AV} {S : DS} {I : MI} {L : ML} (hd : decode (mB y) pc = .ok (ins, n)) (hs : sok y pc (8, ins, n, 5, z, u, c0, w, sw) = true) (hn : ∀ q ∈ need y (8, ins, n, 5, z, u, c0, w, sw), q.before args s = true) (ht : Nat.ble 10 t = true) (h4 : Nat.ble st.length 4 = true) (k : LW D cA base b Ls xs adK y T G p l e R s m args below meth c Q (pc + n) ls st S I L) : LW D cA base b Ls xs adK y T G p l e R s m args below meth c Q pc ls (.inr (.inr (t, k0)) :: st) S I L := by
  intro ad H locs lsm cells slots hG hR hS hL hO h1 h2
  obtain ⟨i, rfl, rfl, hh, hwd⟩ := s8_5 hs
  obtain ⟨hxe, hb, hml, hown, -, -, -, hH, hW, -⟩ := hF
  have h8 := cat_8 (ad := ad) (b := b) (adK := adK) h4
  have ht := Nat.le_of_ble_eq_true ht
  rw [List.map_cons, cv_r (by omega)]
  exact W.objInit hxe hb hown (hn _ List.mem_cons_self) (hn _ (List.mem_cons_of_mem _ List.mem_cons_self)) (hn _ (List.mem_cons_of_mem _ (List.mem_cons_of_mem _ List.mem_cons_self))) rfl (by rw [hml]; exact hL.2.1.1) rfl hd (by omega) (by show 2 * 0 + _ + 12 ≤ _; omega) (k ad H locs lsm cells slots hG hR hS hL (tl1 hO) h1 h2)
theorem lw_copy (hF : FR D cA base b Ls xs adK adV y p R s m args meth c) {pc n z u t0 k0 t1 k1 : Nat} {ins : Instr} {c0 : Int32} {w : Int64} {sw : List (Int32 × Nat)} {q sp dp : Int32} {ls st : List AV} {S : DS} {I : MI} {L : ML} (hd : decode (mB y) pc = .ok (ins, n)) (hs : sok y pc (8, ins, n, 4, z, u, c0, w, sw) = true) (hn : ∀ q ∈ need y (8, ins, n, 4, z, u, c0, w, sw), q.before args s = true) (ht0 : tS t0 = 0) (ht1 : tS t1 = 0) (h4 : Nat.ble st.length 4 = true) (hc : ¬ sp < 0 ∧ ¬ dp < 0 ∧ ¬ q < 0 ∧ sp.toNatClampNeg + q.toNatClampNeg ≤ tN t0 ∧ dp.toNatClampNeg + q.toNatClampNeg ≤ tN t1) (k : LW D cA base b Ls xs adK y T G p l e R s m args below meth c Q (pc + n) ls st S (aI I k1 (va_cpy (I k0) (I k1) sp.toNatClampNeg dp.toNatClampNeg q.toNatClampNeg)) L) : LW D cA base b Ls xs adK y T G p l e R s m args below meth c Q pc ls (.inl q :: .inl dp :: .inr (.inr (t1, k1)) :: .inl sp :: .inr (.inr (t0, k0)) :: st) S I L := by
  intro ad H locs lsm cells slots hG hR hS hL hO h1 h2
  obtain ⟨i, rfl, rfl, hh, hwd⟩ := s8_4 hs
  obtain ⟨hxe, hb, hml, hown, -, hK, -, hH, hW, -⟩ := hF
  have h8 := cat_8 (ad := ad) (b := b) (adK := adK) h4
  have h100 := tS_lt (t := t0) (by omega)
  have h101 := tS_lt (t := t1) (by omega)
  obtain ⟨g1, g2⟩ := ok_ref (hd1 (tl1 (tl1 hO))) (by omega)
  obtain ⟨g3, g4⟩ := ok_ref (hd1 (tl1 (tl1 (tl1 (tl1 hO))))) (by omega)
  rw [List.map_cons, List.map_cons, List.map_cons, List.map_cons, List.map_cons, cv_r (by omega), cv_r (by omega)]
  obtain ⟨c1, c2, c3, c4, c5⟩ := hc
  have hnw : nativeFrameWords "java/lang/System" "arraycopy" 5 = 7 := by decide +kernel
  refine va_copyi (D := D) (cl := vwCl) (tys := tysO cA) (ty := .int) hxe hb (by rw [hml, hL.2.1.1]) hown (hn _ List.mem_cons_self) (hn _ (List.mem_cons_of_mem _ (List.mem_cons_of_mem _ (List.mem_cons_of_mem _ List.mem_cons_self)))) (hn _ (List.mem_cons_of_mem _ List.mem_cons_self)) (hn _ (List.mem_cons_of_mem _ (List.mem_cons_of_mem _ List.mem_cons_self))) hK.1 hR.1 hR.2.1 hS k0 k1 0 0 (by rw [ws_at g4, ent_i g3 ht0]) (by rw [ws_at g2, ent_i g1 ht1]) rfl rfl rfl c1 c2 c3 c4 c5 (fun _ _ => rfl) (by omega) (by rw [hnw]; omega) hd (fun H1 locs1 a1 a2 a3 => ?_)
  have e : (wsO ad b adK cA S I L).set k1 (ad k1, .inl (cA 0, tN t1, .inl (va_cpy (I k0) (I k1) sp.toNatClampNeg dp.toNatClampNeg q.toNatClampNeg))) = wsO ad b adK cA S (aI I k1 (va_cpy (I k0) (I k1) sp.toNatClampNeg dp.toNatClampNeg q.toNatClampNeg)) L := ws_set (by rw [ent_i g1 ht1, aI_k]) (fun j hj => ent_I (aI_o hj))
  rw [e] at a1 a2
  exact k ad H1 locs1 lsm cells slots hG (hR.to a1 a2 (fun a ha => aI_o (by omega))) a3 hL (tl1 (tl1 (tl1 (tl1 (tl1 hO))))) h1 h2
theorem cv_2 {k : Nat} : cv ad b adK (.inr (.inr (2, k))) = .ref (adK k) := rfl
theorem ok_2 {S : DS} {k : Nat} (h : okV S (.inr (.inr (2, k)))) : k < 14 := by
  rcases h with h | h | h | h | h | h
  · omega
  · exact h.2
  · omega
  · omega
  · omega
  · omega
theorem lw_slen (hF : FR D cA base b Ls xs adK adV y p R s m args meth c) {pc n z u k0 : Nat} {ins : Instr} {c0 : Int32} {w : Int64} {sw : List (Int32 × Nat)} {ls st : List AV} {S : DS} {I : MI} {L : ML} (hd : decode (mB y) pc = .ok (ins, n)) (hs : sok y pc (8, ins, n, 2, z, u, c0, w, sw) = true) (hn : ∀ q ∈ need y (8, ins, n, 2, z, u, c0, w, sw), q.before args s = true) (h4 : Nat.ble st.length 4 = true) (k : LW D cA base b Ls xs adK y T G p l e R s m args below meth c Q (pc + n) ls (.inl (Int32.ofNat (slen k0)) :: st) S I L) : LW D cA base b Ls xs adK y T G p l e R s m args below meth c Q pc ls (.inr (.inr (2, k0)) :: st) S I L := by
  intro ad H locs lsm cells slots hG hR hS hL hO h1 h2
  obtain ⟨i, rfl, rfl, hh, hwd⟩ := s8_2 hs
  have hJ := hF.ju
  have hts := hF.tg
  obtain ⟨hxe, hb, hml, hown, -, -, -, hH, hW, -⟩ := hF
  have h8 := cat_8 (ad := ad) (b := b) (adK := adK) h4
  have hk := ok_2 (hd1 hO)
  rw [List.map_cons, cv_2]
  have m1 := hn _ List.mem_cons_self
  have m2 := hn _ (List.mem_cons_of_mem _ List.mem_cons_self)
  have m3 := hn _ (List.mem_cons_of_mem _ (List.mem_cons_of_mem _ List.mem_cons_self))
  have m4 := hn _ (List.mem_cons_of_mem _ (List.mem_cons_of_mem _ (List.mem_cons_of_mem _ List.mem_cons_self)))
  have hJH : JU base adK adV s H := hJ.kept (fun a ha hb0 => hS.2.1 a ha hb0)
  refine run_i (va_runV (As := []) (rest := st.map (cv ad b adK)) (b := adK k0) (own := mC y) ⟨hxe, hb, hml, hown, hts⟩ (c_jN l hk) ⟨callB_of 0 hts (tg_good (fun w hw => ?_)) rfl rfl rfl m4 m1 (by decide +kernel) ⟨?_, ?_⟩, m2, m3⟩ ⟨JU.blind, vk_recv hJ.1 hk hS, fun U hU hW0 => ⟨rfl, hJH.at hU hW0⟩⟩ rfl rfl hL.2.1.1 rfl (lv_room h8) hd ⟨by omega, by omega⟩) (fun r hr0 => ?_)
  · rcases List.mem_cons.mp hw with rfl | q
    · exact jN_code
    · exact q
  · show 1 + 1 ≤ R.frames
    omega
  · show 8 + (1 + 11) + 20 ≤ R.locals
    omega
  · rw [hr0]
    exact k ad H locs lsm cells slots hG hR hS hL (ok1 trivial (tl1 hO)) h1 h2
theorem lw_sat (hF : FR D cA base b Ls xs adK adV y p R s m args meth c) {pc n z u k0 : Nat} {ins : Instr} {c0 i0 : Int32} {w : Int64} {sw : List (Int32 × Nat)} {ls st : List AV} {S : DS} {I : MI} {L : ML} (hd : decode (mB y) pc = .ok (ins, n)) (hs : sok y pc (8, ins, n, 3, z, u, c0, w, sw) = true) (hn : ∀ q ∈ need y (8, ins, n, 3, z, u, c0, w, sw), q.before args s = true) (h4 : Nat.ble st.length 4 = true) (hi : vp_in i0 (slen k0)) (k : LW D cA base b Ls xs adK y T G p l e R s m args below meth c Q (pc + n) ls (.inl (sch k0 i0.toNatClampNeg) :: st) S I L) : LW D cA base b Ls xs adK y T G p l e R s m args below meth c Q pc ls (.inl i0 :: .inr (.inr (2, k0)) :: st) S I L := by
  intro ad H locs lsm cells slots hG hR hS hL hO h1 h2
  obtain ⟨i, rfl, rfl, hh, hwd⟩ := s8_3 hs
  have hJ := hF.ju
  have hts := hF.tg
  obtain ⟨hxe, hb, hml, hown, -, -, -, hH, hW, -⟩ := hF
  have h8 := cat_8 (ad := ad) (b := b) (adK := adK) h4
  have hk := ok_2 (hd1 (tl1 hO))
  rw [List.map_cons, List.map_cons, cv_2]
  have m1 := hn _ List.mem_cons_self
  have m2 := hn _ (List.mem_cons_of_mem _ List.mem_cons_self)
  have m3 := hn _ (List.mem_cons_of_mem _ (List.mem_cons_of_mem _ List.mem_cons_self))
  have m4 := hn _ (List.mem_cons_of_mem _ (List.mem_cons_of_mem _ (List.mem_cons_of_mem _ List.mem_cons_self)))
  have hJH : JU base adK adV s H := hJ.kept (fun a ha hb0 => hS.2.1 a ha hb0)
  refine run_i (va_runV (As := [.int i0]) (rest := st.map (cv ad b adK)) (b := adK k0) (own := mC y) ⟨hxe, hb, hml, hown, hts⟩ (c_jA l hk hi) ⟨callB_of 1 hts (tg_good (fun w hw => ?_)) rfl rfl rfl m4 m1 (by decide +kernel) ⟨?_, ?_⟩, m2, m3⟩ ⟨JU.blind, vk_recv hJ.1 hk hS, fun U hU hW0 => ⟨rfl, hJH.at hU hW0⟩⟩ rfl rfl hL.2.1.1 rfl (lv_room h8) hd ⟨by omega, by omega⟩) (fun r hr0 => ?_)
  · rcases List.mem_cons.mp hw with rfl | q
    · exact jA_code
    · exact q
  · show 3 + 1 ≤ R.frames
    omega
  · show 8 + (2 + 11) + 64 ≤ R.locals
    omega
  · rw [hr0]
    exact k ad H locs lsm cells slots hG hR hS hL (ok1 trivial (tl1 (tl1 hO))) h1 h2
theorem lw_sw (hF : FR D cA base b Ls xs adK adV y p R s m args meth c) {pc n x z u : Nat} {ins : Instr} {c0 v : Int32} {w : Int64} {sw : List (Int32 × Nat)} {ls st : List AV} {S : DS} {I : MI} {L : ML} (hd : decode (mB y) pc = .ok (ins, n)) (hs : sok y pc (9, ins, n, x, z, u, c0, w, sw) = true) (k : swP (fun t => LW D cA base b Ls xs adK y T G p l e R s m args below meth c Q t ls st S I L) x v sw) : LW D cA base b Ls xs adK y T G p l e R s m args below meth c Q pc ls (.inl v :: st) S I L := by
  intro ad H locs lsm cells slots hG hR hS hL hO h1 h2
  obtain ⟨d, lo, hi, os, rfl, hx, hlen, hsw⟩ := s9 hs
  obtain ⟨hxe, hb, hml, hown, -, -, -, hH, hW, -⟩ := hF
  obtain ⟨g1, g2⟩ := swOK_at hsw
  by_cases hin : v.toInt < lo ∨ hi < v.toInt
  · refine lv_tableOut hxe hb hd hin hx ?_
    refine sw_out k (fun q hq e => ?_) ad H locs lsm cells slots hG hR hS hL (tl1 hO) h1 h2
    obtain ⟨i, hi0⟩ := List.getElem?_of_mem hq
    have hl := (List.getElem?_eq_some_iff.mp hi0).1
    have := (g2 i q hi0).1
    rw [← e] at this
    omega
  · have h3 : ¬ v.toInt < lo := fun q => hin (Or.inl q)
    have h4 : ¬ hi < v.toInt := fun q => hin (Or.inr q)
    have hl : (v.toInt - lo).toNat < sw.length := by omega
    obtain ⟨q, hq⟩ : ∃ q, sw[(v.toInt - lo).toNat]? = some q := ⟨_, List.getElem?_eq_getElem hl⟩
    obtain ⟨e1, o, e2, e3⟩ := g2 _ q hq
    refine lv_tableIn hxe hb hd h3 h4 (off := o) (by rw [← Array.getElem?_toList]; exact e2) e3 ?_
    refine sw_in k hq (Int32.toInt_inj.mp (by rw [e1]; omega)) (fun j q' hj hq' e => ?_) ad H locs lsm cells slots hG hR hS hL (tl1 hO) h1 h2
    have := (g2 j q' hq').1
    rw [← e] at this
    omega
theorem lw_str (hF : FR D cA base b Ls xs adK adV y p R s m args meth c) {pc n x z u : Nat} {ins : Instr} {c0 : Int32} {w : Int64} {sw : List (Int32 × Nat)} {ls st : List AV} {S : DS} {I : MI} {L : ML} (hd : decode (mB y) pc = .ok (ins, n)) (hs : sok y pc (11, ins, n, x, z, u, c0, w, sw) = true) (hng : ∀ i, ins = .getstatic i → False) (k : LW D cA base b Ls xs adK y T G p l e R s m args below meth c Q (pc + n) ls (vr 2 x :: st) S I L) : LW D cA base b Ls xs adK y T G p l e R s m args below meth c Q pc ls st S I L := by
  intro ad H locs lsm cells slots hG hR hS hL hO h1 h2
  obtain ⟨i, rfl, rfl, hC, hx, hi⟩ := s11 hs hng
  obtain ⟨hxe, hb, hml, hown, -, hK, -, hH, hW, -⟩ := hF
  have hZ := hK.2.1 x hx
  rw [hi] at hZ
  rw [hC] at hown
  exact va_ldcS hxe hb hown hZ hd (k ad H locs lsm cells slots hG hR hS hL (ok1 (Or.inr (Or.inl ⟨rfl, hx⟩)) hO) h1 h2)
end FRM4
