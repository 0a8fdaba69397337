/-! one instruction: references, and what is made -/
theorem cTy_9 : ∀ z, z < 12 → ∀ j, j < cF z → fU (cTy z j) ≠ 9 := by decide +kernel
theorem fU_ref {t : FieldType} (h : fU t = 2) (o : Option Nat) : narrow t (va_rf o) = va_rf o ∧ fits t (va_rf o) = true := by
  cases t <;> first | (exact absurd h (by decide)) | (cases o <;> exact ⟨rfl, rfl⟩)
theorem fU_m {t : FieldType} (h : 2 = fU t % 3) : fU t = 2 := by
  cases t <;> first | rfl | (exact absurd h (by decide))
section REFS
variable {ad ad' : Nat → Nat} {b : Nat} {adK : Nat → Nat} {cA : Nat → ClassId} {S S' : DS} {I I' : MI} {L L' : ML}
theorem cv_ref {v : AV} (h : ∃ r, v = .inr (.inr r)) : va_rf (rfo ad b adK v) = cv ad b adK v := by
  obtain ⟨r, rfl⟩ := h
  rfl
theorem rfo_ext {v : AV} (h : okV S v) (e : ∀ k, k < S.n → ad' k = ad k) : rfo ad' b adK v = rfo ad b adK v := by
  rcases v with v | v | ⟨t, k⟩
  · rfl
  · rfl
  · rcases h with h | ⟨h, -⟩ | h | ⟨h, -, h2⟩ | ⟨h, -, h2⟩ | h
    · subst h; rfl
    · subst h; rfl
    · subst h; rfl
    · obtain ⟨n, rfl⟩ : ∃ n, t = n + 6 := ⟨t - 6, by omega⟩
      show some (ad' k) = some (ad k)
      rw [e k h2]
    · subst h
      show some (ad' k) = some (ad k)
      rw [e k h2]
    · subst h; rfl
theorem cv_ext {v : AV} (h : okV S v) (e : ∀ k, k < S.n → ad' k = ad k) : cv ad' b adK v = cv ad b adK v := by
  rcases v with v | v | r
  · rfl
  · rfl
  · show va_rf _ = va_rf _
    rw [rfo_ext h e]
theorem okV_ext {v : AV} (h : okV S v) (hn : S.n ≤ S'.n) (e : ∀ k, k < S.n → S'.kd k = S.kd k) : okV S' v := by
  rcases v with v | v | ⟨t, k⟩
  · trivial
  · trivial
  · rcases h with h | h | h | ⟨h, h1, h2⟩ | ⟨h, h1, h2⟩ | h
    · exact Or.inl h
    · exact Or.inr (Or.inl h)
    · exact Or.inr (Or.inr (Or.inl h))
    · exact Or.inr (Or.inr (Or.inr (Or.inl ⟨h, by rw [e k h2]; exact h1, by omega⟩)))
    · exact Or.inr (Or.inr (Or.inr (Or.inr (Or.inl ⟨h, by rw [e k h2]; exact h1, by omega⟩))))
    · exact Or.inr (Or.inr (Or.inr (Or.inr (Or.inr h))))
theorem map_ext {st : List AV} (h : ∀ v ∈ st, okV S v) (e : ∀ k, k < S.n → ad' k = ad k) : st.map (cv ad' b adK) = st.map (cv ad b adK) := List.map_congr_left (fun v hv => cv_ext (h v hv) e)
theorem LR.ext {nL : Nat} {ls : List AV} {lsm : Array Slot} (h : LR ad b adK S nL ls lsm) (hn : S.n ≤ S'.n) (ek : ∀ k, k < S.n → S'.kd k = S.kd k) (ea : ∀ k, k < S.n → ad' k = ad k) : LR ad' b adK S' nL ls lsm := ⟨h.1, h.2.1, fun k => by
  rcases h.2.2 k with q | q
  · exact Or.inl q
  · exact Or.inr ⟨okV_ext q.1 hn ek, by rw [cv_ext q.1 ea]; exact q.2⟩⟩
/-- one cell's references anew -/
theorem ws_setR {k : Nat} {x : va_E} {R' : Nat → Nat → AV} {bc' bs' : Nat} (he : ent ad b adK cA (S.n, S.kd, R', bc', bs') I L k = x) (ho : ∀ j, j ≠ k → R' j = S.rf j) : (wsO ad b adK cA S I L).set k (ad k, x) = wsO ad b adK cA (S.n, S.kd, R', bc', bs') I L := by
  unfold wsO
  rw [map_set]
  apply List.map_congr_left
  intro j _
  by_cases hj : j = k
  · subst hj
    rw [if_pos rfl, he]
  · rw [if_neg hj]
    congr 1
    have e1 : ofv ad b adK (S.n, S.kd, R', bc', bs') I L j = ofv ad b adK S I L j := by
      funext i
      show (match fk (S.kd j - 10) i with
        | 1 => Value.long (L j i)
        | 2 => va_rf (rfo ad b adK (R' j i))
        | _ => .int (I j i)) = _
      rw [ho j hj]
      rfl
    unfold ent
    rw [e1]
    show _ = (match Nat.ble 100 (S.kd j) with
      | false => Sum.inr (S.kd j - 10, (List.range (cF (S.kd j - 10))).map (ofv ad b adK S I L j))
      | true => match tS (S.kd j) with
        | 0 => Sum.inl (cA 0, tN (S.kd j), Sum.inl (I j))
        | 1 => Sum.inl (cA 1, tN (S.kd j), Sum.inl (I j))
        | 2 => Sum.inl (cA 2, tN (S.kd j), Sum.inr (Sum.inl (L j)))
        | 6 => Sum.inl (cA 0, tN (S.kd j), Sum.inl (I j))
        | t => Sum.inl (cA t, tN (S.kd j), Sum.inr (Sum.inr (Sum.inr (Sum.inr (fun i => rfo ad b adK (R' j i)))))))
    rw [ho j hj]
    rfl
theorem sR_o {R : Nat → Nat → AV} {k j a : Nat} {v : AV} (h : a ≠ k) : sR R k j v a = R a := by
  funext i
  unfold sR
  rw [if_neg h]
theorem ent_q {k t : Nat} (h : S.kd k = t) (ht : tS t = 3 ∨ tS t = 4 ∨ tS t = 5) : ent ad b adK cA S I L k = .inl (cA (tS t), tN t, .inr (.inr (.inr (.inr (fun j => rfo ad b adK (S.rf k j)))))) := by
  unfold ent
  rw [h, ble_100 (tS_lt (by omega))]
  rcases ht with e | e | e <;> (rw [e]; rfl)
/-- a new cell behind the others -/
theorem ws_push {q : Nat} {x : va_E} (h1 : S'.n = S.n + 1) (hk : ∀ k, k < S.n → S'.kd k = S.kd k) (hr : ∀ k, k < S.n → S'.rf k = S.rf k) (hI : ∀ k, k < S.n → I' k = I k) (hL : ∀ k, k < S.n → L' k = L k) (ha : ∀ k, k < S.n → ad' k = ad k) (hok : ∀ k j, okV S (S.rf k j)) (hq : ad' S.n = q) (hx : ent ad' b adK cA S' I' L' S.n = x) : wsO ad b adK cA S I L ++ [(q, x)] = wsO ad' b adK cA S' I' L' := by
  unfold wsO
  rw [h1, List.range_succ, List.map_append, List.map_cons, List.map_nil, hq, hx]
  congr 1
  apply List.map_congr_left
  intro k hk0
  have hk0 := List.mem_range.mp hk0
  rw [ha k hk0]
  congr 1
  have e1 : ofv ad' b adK S' I' L' k = ofv ad b adK S I L k := by
    funext i
    unfold ofv
    rw [hk k hk0, hr k hk0, hI k hk0, hL k hk0, rfo_ext (hok k i) ha]
  have e2 : (fun i => rfo ad' b adK (S'.rf k i)) = fun i => rfo ad b adK (S.rf k i) := by
    funext i
    rw [hr k hk0, rfo_ext (hok k i) ha]
  unfold ent
  rw [hk k hk0, hI k hk0, hL k hk0, e1, e2]
end REFS
section FRM6
variable {D : va_G} {cA : Nat → ClassId} {base b Ls : Nat} {xs : Nat → Int32} {adK adV ad : Nat → Nat} {y T : Nat} {G : GT} {p : Program} {l : Launch} {e : Env} {R : Room} {s : State} {m : MethodId} {args : Array Value} {below : List Frame} {meth : Method} {c : Code} {Q : State → Prop}
theorem lw_getR (hw : LayW) (hF : FR D cA base b Ls xs adK adV y p R s m args meth c) {pc n x z u t r : Nat} {ins : Instr} {c0 : Int32} {w : Int64} {sw : List (Int32 × Nat)} {ls st : List AV} {S : DS} {I : MI} {L : ML} (hd : decode (mB y) pc = .ok (ins, n)) (hs : sok y pc (14, ins, n, x, z, u, c0, w, sw) = true) (hn : ∀ q ∈ need y (14, ins, n, x, z, u, c0, w, sw), q.before args s = true) (ht : Nat.beq t (10 + z) = true) (k : S.kd r = 10 + z ∧ r < S.n → LW D cA base b Ls xs adK y T G p l e R s m args below meth c Q (pc + n) ls (S.rf r x :: st) S I L) : LW D cA base b Ls xs adK y T G p l e R s m args below meth c Q pc ls (.inr (.inr (t, r)) :: st) S I L := by
  intro ad H locs lsm cells slots hG hR hS hL hO h1 h2
  obtain ⟨i, rfl, rfl, hz, hx, hu⟩ := s14 hs
  obtain rfl := beq_t ht
  obtain ⟨g1, g2⟩ := ok_ref (hd1 hO) (by omega)
  rw [List.map_cons, cv_r (by omega)]
  refine lw_getv hw hF hR hz hx g1 g2 (hn _ List.mem_cons_self) hd ?_
  have e : ofv ad b adK S I L r x = cv ad b adK (S.rf r x) := by
    unfold ofv
    rw [g1, show 10 + z - 10 = z by omega, fk_of hz hx, fU_m hu]
    exact cv_ref (hR.2.2.1 r x).2
  rw [e]
  exact k ⟨g1, g2⟩ ad H locs lsm cells slots hG hR hS hL (ok1 (hR.2.2.1 r x).1 (tl1 hO)) h1 h2
theorem lw_putR (hw : LayW) (hF : FR D cA base b Ls xs adK adV y p R s m args meth c) {pc n x z u t r t2 k2 : Nat} {ins : Instr} {c0 : Int32} {w : Int64} {sw : List (Int32 × Nat)} {ls st : List AV} {S : DS} {I : MI} {L : ML} (hd : decode (mB y) pc = .ok (ins, n)) (hs : sok y pc (15, ins, n, x, z, u, c0, w, sw) = true) (hn : ∀ q ∈ need y (15, ins, n, x, z, u, c0, w, sw), q.before args s = true) (ht : Nat.beq t (10 + z) = true) (k : S.kd r = 10 + z ∧ r < S.n → LW D cA base b Ls xs adK y T G p l e R s m args below meth c Q (pc + n) ls st (S.n, S.kd, sR S.rf r x (.inr (.inr (t2, k2))), S.bc, S.bs) I L) : LW D cA base b Ls xs adK y T G p l e R s m args below meth c Q pc ls (.inr (.inr (t2, k2)) :: .inr (.inr (t, r)) :: st) S I L := by
  intro ad H locs lsm cells slots hG hR hS hL hO h1 h2
  obtain ⟨i, rfl, rfl, hz, hx, hu, hfin⟩ := s15 hs
  obtain rfl := beq_t ht
  obtain ⟨g1, g2⟩ := ok_ref (hd1 (tl1 hO)) (by omega)
  rw [List.map_cons, List.map_cons, cv_r (t := 10 + z) (by omega)]
  obtain ⟨hnar, hfit⟩ := fU_ref hu.symm (rfo ad b adK (.inr (.inr (t2, k2))))
  refine lw_putv (S' := (S.n, S.kd, sR S.rf r x (.inr (.inr (t2, k2))), S.bc, S.bs)) (I' := I) (L' := L) hw hF hR hS hz hx g1 g2 (hn _ List.mem_cons_self) hfin hnar hfit hd (ws_setR ?_ (fun j hj => sR_o hj)) (fun H1 locs1 a1 a2 a3 => ?_)
  · rw [ent_obj (S := (S.n, S.kd, sR S.rf r x (.inr (.inr (t2, k2))), S.bc, S.bs)) g1 hz, map_set]
    congr 2
    apply List.map_congr_left
    intro j hj
    by_cases e1 : j = x
    · subst e1
      rw [if_pos rfl]
      show (match fk (S.kd r - 10) j with
        | 1 => Value.long (L r j)
        | 2 => va_rf (rfo ad b adK (sR S.rf r j (.inr (.inr (t2, k2))) r j))
        | _ => .int (I r j)) = _
      rw [g1, show 10 + z - 10 = z by omega, fk_of hz hx, hu.symm]
      unfold sR
      rw [if_pos rfl, if_pos rfl]
      rfl
    · rw [if_neg e1]
      show (match fk (S.kd r - 10) j with
        | 1 => Value.long (L r j)
        | 2 => va_rf (rfo ad b adK (sR S.rf r x (.inr (.inr (t2, k2))) r j))
        | _ => .int (I r j)) = _
      unfold sR
      rw [if_pos rfl, if_neg e1]
      rfl
  · obtain ⟨-, -, r3, r4, r5, r6, r7, r8⟩ := hR
    refine k ⟨g1, g2⟩ ad H1 locs1 lsm cells slots hG ⟨a1, a2, fun a j => ?_, r4, r5, r6, r7, r8⟩ a3 hL (tl1 (tl1 hO)) h1 h2
    show okV S (sR S.rf r x (.inr (.inr (t2, k2))) a j) ∧ ∃ q, sR S.rf r x (.inr (.inr (t2, k2))) a j = .inr (.inr q)
    unfold sR
    split
    · split
      · exact ⟨hd1 hO, _, rfl⟩
      · exact r3 a j
    · exact r3 a j
theorem tS3 {t : Nat} (h : Nat.beq (tS t / 3) 1 = true) : tS t = 3 ∨ tS t = 4 ∨ tS t = 5 := by
  have h := beq_t h
  omega
theorem s16 {y pc n x z u : Nat} {ins : Instr} {c : Int32} {w : Int64} {sw : List (Int32 × Nat)} (h : sok y pc (16, ins, n, x, z, u, c, w, sw) = true) : ins = .aaload ∧ n = 1 := by
  cases ins with
  | aaload => exact ⟨rfl, of_decide_eq_true h⟩
  | _ => exact (Bool.false_ne_true h).elim
theorem s17 {y pc n x z u : Nat} {ins : Instr} {c : Int32} {w : Int64} {sw : List (Int32 × Nat)} (h : sok y pc (17, ins, n, x, z, u, c, w, sw) = true) : ins = .aastore ∧ n = 1 := by
  cases ins with
  | aastore => exact ⟨rfl, of_decide_eq_true h⟩
  | _ => exact (Bool.false_ne_true h).elim
theorem tys_q {q : Nat} (h : q = 3 ∨ q = 4 ∨ q = 5) : (tysO cA)[q]? = some (cA q, .object (cN (aC q))) ∧ aC q < 12 := by
  rcases h with rfl | rfl | rfl <;> exact ⟨rfl, by decide⟩
theorem lw_aald (hF : FR D cA base b Ls xs adK adV y p R s m args meth c) {pc t k0 : Nat} {i : Int32} {ls st : List AV} {S : DS} {I : MI} {L : ML} (hd : decode (mB y) pc = .ok (.aaload, 1)) (ht : tS t = 3 ∨ tS t = 4 ∨ tS t = 5) (hin : vp_in i (tN t)) (k : S.kd k0 = t ∧ k0 < S.n → LW D cA base b Ls xs adK y T G p l e R s m args below meth c Q (pc + 1) ls (S.rf k0 i.toNatClampNeg :: st) S I L) : LW D cA base b Ls xs adK y T G p l e R s m args below meth c Q pc ls (.inl i :: .inr (.inr (t, k0)) :: st) S I L := by
  intro ad H locs lsm cells slots hG hR hS hL hO h1 h2
  obtain ⟨hxe, hb, hml, hown, -, hK, hU, -, -, -, -, -, hbs⟩ := hF
  have h100 := tS_lt (t := t) (by omega)
  obtain ⟨g1, g2⟩ := ok_ref (hd1 (tl1 hO)) (by omega)
  rw [List.map_cons, List.map_cons, cv_r (by omega)]
  refine va_aldq (D := D) (cl := vwCl) (tys := tysO cA) hxe hb hK.1 hR.1 k0 (tS t) (by rw [ws_at g2, ent_q g1 ht]) (tys_q ht).1 hin hd ?_
  have kk := k ⟨g1, g2⟩ ad H locs lsm cells slots hG hR hS hL (ok1 (hR.2.2.1 k0 _).1 (tl1 (tl1 hO))) h1 h2
  rw [List.map_cons, ← cv_ref (hR.2.2.1 k0 _).2] at kk
  exact kk
theorem lw_aast (hF : FR D cA base b Ls xs adK adV y p R s m args meth c) {pc t k0 t2 k2 : Nat} {i : Int32} {ls st : List AV} {S : DS} {I : MI} {L : ML} (hd : decode (mB y) pc = .ok (.aastore, 1)) (ht : tS t = 3 ∨ tS t = 4 ∨ tS t = 5) (ht2 : t2 = 10 + aC (tS t)) (hin : vp_in i (tN t)) (k : LW D cA base b Ls xs adK y T G p l e R s m args below meth c Q (pc + 1) ls st (S.n, S.kd, sR S.rf k0 i.toNatClampNeg (.inr (.inr (t2, k2))), S.bc, S.bs) I L) : LW D cA base b Ls xs adK y T G p l e R s m args below meth c Q pc ls (.inr (.inr (t2, k2)) :: .inl i :: .inr (.inr (t, k0)) :: st) S I L := by
  intro ad H locs lsm cells slots hG hR hS hL hO h1 h2
  obtain ⟨hxe, hb, hml, hown, -, hK, hU, -, -, -, -, -, hbs⟩ := hF
  have h100 := tS_lt (t := t) (by omega)
  obtain ⟨g1, g2⟩ := ok_ref (hd1 (tl1 (tl1 hO))) (by omega)
  obtain ⟨g3, g4⟩ := ok_ref (hd1 hO) (by omega)
  rw [List.map_cons, List.map_cons, List.map_cons, cv_r (t := t2) (by omega), cv_r (t := t) (by omega)]
  have hc := (tys_q (cA := cA) ht).2
  refine va_astq (D := D) (cl := vwCl) (tys := tysO cA) (r := (cN (aC (tS t)), cT (aC (tS t)), cF (aC (tS t)))) hxe hb hK.1 hR.1 hR.2.1 hS k0 (tS t) k2 (aC (tS t)) (by rw [ws_at g2, ent_q g1 ht]) (tys_q ht).1 (by rw [ws_at g4, ent_obj (g3.trans ht2) hc]) (vw_at _ hc) hin hd (fun H1 locs1 a1 a2 a3 => ?_)
  have e : (wsO ad b adK cA S I L).set k0 (ad k0, .inl (cA (tS t), tN t, .inr (.inr (.inr (.inr (va_up (fun j => rfo ad b adK (S.rf k0 j)) i.toNatClampNeg (some (ad k2)))))))) = wsO ad b adK cA (S.n, S.kd, sR S.rf k0 i.toNatClampNeg (.inr (.inr (t2, k2))), S.bc, S.bs) I L := by
    refine ws_setR ?_ (fun j hj => sR_o hj)
    rw [ent_q (S := (S.n, S.kd, sR S.rf k0 i.toNatClampNeg (.inr (.inr (t2, k2))), S.bc, S.bs)) g1 ht]
    congr 7
    funext j
    show rfo ad b adK (sR S.rf k0 i.toNatClampNeg (.inr (.inr (t2, k2))) k0 j) = _
    unfold sR va_up
    rw [if_pos rfl]
    split
    · obtain ⟨n, rfl⟩ : ∃ n, t2 = n + 6 := ⟨t2 - 6, by omega⟩
      rfl
    · rfl
  rw [e] at a1 a2
  obtain ⟨-, -, r3, r4, r5, r6, r7, r8⟩ := hR
  refine k ad H1 locs1 lsm cells slots hG ⟨a1, a2, fun a j => ?_, r4, r5, r6, r7, r8⟩ a3 hL (tl1 (tl1 (tl1 hO))) h1 h2
  show okV S (sR S.rf k0 i.toNatClampNeg (.inr (.inr (t2, k2))) a j) ∧ ∃ q, sR S.rf k0 i.toNatClampNeg (.inr (.inr (t2, k2))) a j = .inr (.inr q)
  unfold sR
  split
  · split
    · exact ⟨hd1 hO, _, rfl⟩
    · exact r3 a j
  · exact r3 a j
end FRM6
