/-! one instruction: arrays of numbers, the library's members, ways by a table -/
theorem upd_sI {I : MI} {k j : Nat} {v : Int32} : upd (I k) j v = sI I k j v k := sI_k.symm
theorem d1 {y pc fam n x z u : Nat} {ins : Instr} {c : Int32} {w : Int64} {sw : List (Int32 × Nat)} (h : sok y pc (fam, ins, n, x, z, u, c, w, sw) = true) (hf : fam = 5 ∨ fam = 6) : n = 1 := by
  rcases hf with rfl | rfl <;> exact of_decide_eq_true h
theorem s7 {y pc n x z u : Nat} {ins : Instr} {c : Int32} {w : Int64} {sw : List (Int32 × Nat)} (h : sok y pc (7, ins, n, x, z, u, c, w, sw) = true) : ins = .arraylength ∧ n = 1 := by
  cases ins with
  | arraylength => exact ⟨rfl, of_decide_eq_true h⟩
  | _ => exact (Bool.false_ne_true h).elim
section FRM3
variable {D : va_G} {cA : Nat → ClassId} {base b Ls : Nat} {xs : Nat → Int32} {adK adV ad : Nat → Nat} {y T : Nat} {G : GT} {p : Program} {l : Launch} {e : Env} {R : Room} {s : State} {m : MethodId} {args : Array Value} {below : List Frame} {meth : Method} {c : Code} {Q : State → Prop}
theorem RH.scr (hF : FR D cA base b Ls xs adK adV y p R s m args meth c) {S : DS} {I : MI} {L : ML} {H : Heap} (hR : RH D cA base b Ls xs adK T ad S I L H) : (I 100001 0).toNatClampNeg = Ls := by
  obtain ⟨-, -, -, -, -, -, hU, -⟩ := hF
  rw [hR.2.2.2.2.1]
  exact nI_clamp hU.2.2.2.2.2.1
theorem lw_ialoadS (hF : FR D cA base b Ls xs adK adV y p R s m args meth c) {pc k0 : Nat} {i : Int32} {ls st : List AV} {S : DS} {I : MI} {L : ML} (hd : decode (mB y) pc = .ok (.iaload, 1)) (hin : vp_in i (I 100001 0).toNatClampNeg) (k : LW D cA base b Ls xs adK y T G p l e R s m args below meth c Q (pc + 1) ls (.inl (I 100000 i.toNatClampNeg) :: st) S I L) : LW D cA base b Ls xs adK y T G p l e R s m args below meth c Q pc ls (.inl i :: .inr (.inr (3, k0)) :: st) S I L := by
  intro ad H locs lsm cells slots hG hR hS hL hO h1 h2
  have hsz := hR.scr hF
  obtain ⟨hxe, hb, hml, hown, -, hK, hU, -, -, -, -, -, hbs⟩ := hF
  rw [hsz] at hin
  have hlt : i.toNatClampNeg < Ls := Nat.not_le.mp fun q => hin (Or.inr q)
  have kk := k ad H locs lsm cells slots hG hR hS hL (ok1 trivial (tl1 (tl1 hO))) h1 h2
  rw [List.map_cons] at kk
  rw [show cv ad b adK (.inl (I 100000 i.toNatClampNeg)) = .int (xs i.toNatClampNeg) by rw [hR.2.2.2.2.2.1 _ hlt]; rfl] at kk
  exact va_sld hxe hb hU.1 (Nat.lt_of_lt_of_le hU.2.2.2.2.1 hbs) (Nat.not_le.mpr hU.2.2.2.2.1) hS hin hd kk
theorem lw_alenS (hF : FR D cA base b Ls xs adK adV y p R s m args meth c) {pc k0 : Nat} {ls st : List AV} {S : DS} {I : MI} {L : ML} (hd : decode (mB y) pc = .ok (.arraylength, 1)) (k : LW D cA base b Ls xs adK y T G p l e R s m args below meth c Q (pc + 1) ls (.inl (I 100001 0) :: st) S I L) : LW D cA base b Ls xs adK y T G p l e R s m args below meth c Q pc ls (.inr (.inr (3, k0)) :: st) S I L := by
  intro ad H locs lsm cells slots hG hR hS hL hO h1 h2
  obtain ⟨hxe, hb, hml, hown, -, hK, hU, -, -, -, -, -, hbs⟩ := hF
  have kk := k ad H locs lsm cells slots hG hR hS hL (ok1 trivial (tl1 hO)) h1 h2
  rw [List.map_cons, hR.2.2.2.2.1] at kk
  exact va_slen hxe hb hU.1 (Nat.lt_of_lt_of_le hU.2.2.2.2.1 hbs) (Nat.not_le.mpr hU.2.2.2.2.1) hS hd kk
theorem lw_iald (hF : FR D cA base b Ls xs adK adV y p R s m args meth c) {pc t k0 : Nat} {i : Int32} {ls st : List AV} {S : DS} {I : MI} {L : ML} (hd : decode (mB y) pc = .ok (.iaload, 1)) (ht : tS t = 0) (hin : vp_in i (tN t)) (k : LW D cA base b Ls xs adK y T G p l e R s m args below meth c Q (pc + 1) ls (.inl (I k0 i.toNatClampNeg) :: st) S I L) : LW D cA base b Ls xs adK y T G p l e R s m args below meth c Q pc ls (.inl i :: .inr (.inr (t, k0)) :: st) S I L := by
  intro ad H locs lsm cells slots hG hR hS hL hO h1 h2
  obtain ⟨hxe, hb, hml, hown, -, hK, hU, -, -, -, -, -, hbs⟩ := hF
  have h100 := tS_lt (t := t) (by omega)
  obtain ⟨g1, g2⟩ := ok_ref (hd1 (tl1 hO)) (by omega)
  rw [List.map_cons, List.map_cons, cv_r (by omega)]
  exact va_iald (D := D) (cl := vwCl) (tys := tysO cA) hxe hb hK.1 hR.1 k0 0 (by rw [ws_at g2, ent_i g1 ht]) rfl hin hd (k ad H locs lsm cells slots hG hR hS hL (ok1 trivial (tl1 (tl1 hO))) h1 h2)
theorem lw_zald (hF : FR D cA base b Ls xs adK adV y p R s m args meth c) {pc t k0 : Nat} {i : Int32} {ls st : List AV} {S : DS} {I : MI} {L : ML} (hd : decode (mB y) pc = .ok (.baload, 1)) (ht : tS t = 1) (hin : vp_in i (tN t)) (k : LW D cA base b Ls xs adK y T G p l e R s m args below meth c Q (pc + 1) ls (.inl (I k0 i.toNatClampNeg) :: st) S I L) : LW D cA base b Ls xs adK y T G p l e R s m args below meth c Q pc ls (.inl i :: .inr (.inr (t, k0)) :: st) S I L := by
  intro ad H locs lsm cells slots hG hR hS hL hO h1 h2
  obtain ⟨hxe, hb, hml, hown, -, hK, hU, -, -, -, -, -, hbs⟩ := hF
  have h100 := tS_lt (t := t) (by omega)
  obtain ⟨g1, g2⟩ := ok_ref (hd1 (tl1 hO)) (by omega)
  rw [List.map_cons, List.map_cons, cv_r (by omega)]
  exact va_zald (D := D) (cl := vwCl) (tys := tysO cA) hxe hb hK.1 hR.1 k0 1 (by rw [ws_at g2, ent_z g1 ht]) rfl hin hd (k ad H locs lsm cells slots hG hR hS hL (ok1 trivial (tl1 (tl1 hO))) h1 h2)
theorem lw_lald (hF : FR D cA base b Ls xs adK adV y p R s m args meth c) {pc t k0 : Nat} {i : Int32} {ls st : List AV} {S : DS} {I : MI} {L : ML} (hd : decode (mB y) pc = .ok (.laload, 1)) (ht : tS t = 2) (hin : vp_in i (tN t)) (k : LW D cA base b Ls xs adK y T G p l e R s m args below meth c Q (pc + 1) ls (.inr (.inl (L k0 i.toNatClampNeg)) :: st) S I L) : LW D cA base b Ls xs adK y T G p l e R s m args below meth c Q pc ls (.inl i :: .inr (.inr (t, k0)) :: st) S I L := by
  intro ad H locs lsm cells slots hG hR hS hL hO h1 h2
  obtain ⟨hxe, hb, hml, hown, -, hK, hU, -, -, -, -, -, hbs⟩ := hF
  have h100 := tS_lt (t := t) (by omega)
  obtain ⟨g1, g2⟩ := ok_ref (hd1 (tl1 hO)) (by omega)
  rw [List.map_cons, List.map_cons, cv_r (by omega)]
  exact va_lald (D := D) (cl := vwCl) (tys := tysO cA) hxe hb hK.1 hR.1 k0 2 (by rw [ws_at g2, ent_l g1 ht]) rfl hin hd (k ad H locs lsm cells slots hG hR hS hL (ok1 trivial (tl1 (tl1 hO))) h1 h2)
theorem lw_iast (hF : FR D cA base b Ls xs adK adV y p R s m args meth c) {pc t k0 : Nat} {i v : Int32} {ls st : List AV} {S : DS} {I : MI} {L : ML} (hd : decode (mB y) pc = .ok (.iastore, 1)) (ht : tS t = 0) (hin : vp_in i (tN t)) (k : LW D cA base b Ls xs adK y T G p l e R s m args below meth c Q (pc + 1) ls st S (sI I k0 i.toNatClampNeg v) L) : LW D cA base b Ls xs adK y T G p l e R s m args below meth c Q pc ls (.inl v :: .inl i :: .inr (.inr (t, k0)) :: st) S I L := by
  intro ad H locs lsm cells slots hG hR hS hL hO h1 h2
  obtain ⟨hxe, hb, hml, hown, -, hK, hU, -, -, -, -, -, hbs⟩ := hF
  have h100 := tS_lt (t := t) (by omega)
  obtain ⟨g1, g2⟩ := ok_ref (hd1 (tl1 (tl1 hO))) (by omega)
  rw [List.map_cons, List.map_cons, List.map_cons, cv_r (by omega)]
  refine va_iast (D := D) (cl := vwCl) (tys := tysO cA) hxe hb hK.1 hR.1 hR.2.1 hS k0 0 (by rw [ws_at g2, ent_i g1 ht]) rfl hin hd (fun H1 locs1 a1 a2 a3 => ?_)
  have e : (wsO ad b adK cA S I L).set k0 (ad k0, .inl (cA 0, tN t, .inl (upd (I k0) i.toNatClampNeg v))) = wsO ad b adK cA S (sI I k0 i.toNatClampNeg v) L := ws_set (by rw [ent_i g1 ht, sI_k]) (fun j hj => ent_I (sI_o hj))
  rw [e] at a1 a2
  exact k ad H1 locs1 lsm cells slots hG (hR.to a1 a2 (fun a ha => sI_o (by omega))) a3 hL (tl1 (tl1 (tl1 hO))) h1 h2
theorem lw_zast (hF : FR D cA base b Ls xs adK adV y p R s m args meth c) {pc t k0 : Nat} {i v : Int32} {ls st : List AV} {S : DS} {I : MI} {L : ML} (hd : decode (mB y) pc = .ok (.bastore, 1)) (ht : tS t = 1) (hin : vp_in i (tN t)) (hv : v = 0 ∨ v = 1) (k : LW D cA base b Ls xs adK y T G p l e R s m args below meth c Q (pc + 1) ls st S (sI I k0 i.toNatClampNeg v) L) : LW D cA base b Ls xs adK y T G p l e R s m args below meth c Q pc ls (.inl v :: .inl i :: .inr (.inr (t, k0)) :: st) S I L := by
  intro ad H locs lsm cells slots hG hR hS hL hO h1 h2
  obtain ⟨hxe, hb, hml, hown, -, hK, hU, -, -, -, -, -, hbs⟩ := hF
  have h100 := tS_lt (t := t) (by omega)
  obtain ⟨g1, g2⟩ := ok_ref (hd1 (tl1 (tl1 hO))) (by omega)
  rw [List.map_cons, List.map_cons, List.map_cons, cv_r (by omega)]
  refine va_zast (D := D) (cl := vwCl) (tys := tysO cA) hxe hb hK.1 hR.1 hR.2.1 hS k0 1 (by rw [ws_at g2, ent_z g1 ht]) rfl hin hd (fun H1 locs1 a1 a2 a3 => ?_)
  have hn : vp_nar .boolean v = v := by rcases hv with rfl | rfl <;> rfl
  rw [hn] at a1 a2
  have e : (wsO ad b adK cA S I L).set k0 (ad k0, .inl (cA 1, tN t, .inl (upd (I k0) i.toNatClampNeg v))) = wsO ad b adK cA S (sI I k0 i.toNatClampNeg v) L := ws_set (by rw [ent_z g1 ht, sI_k]) (fun j hj => ent_I (sI_o hj))
  rw [e] at a1 a2
  exact k ad H1 locs1 lsm cells slots hG (hR.to a1 a2 (fun a ha => sI_o (by omega))) a3 hL (tl1 (tl1 (tl1 hO))) h1 h2
theorem lw_last (hF : FR D cA base b Ls xs adK adV y p R s m args meth c) {pc t k0 : Nat} {i : Int32} {v : Int64} {ls st : List AV} {S : DS} {I : MI} {L : ML} (hd : decode (mB y) pc = .ok (.lastore, 1)) (ht : tS t = 2) (hin : vp_in i (tN t)) (k : LW D cA base b Ls xs adK y T G p l e R s m args below meth c Q (pc + 1) ls st S I (sL L k0 i.toNatClampNeg v)) : LW D cA base b Ls xs adK y T G p l e R s m args below meth c Q pc ls (.inr (.inl v) :: .inl i :: .inr (.inr (t, k0)) :: st) S I L := by
  intro ad H locs lsm cells slots hG hR hS hL hO h1 h2
  obtain ⟨hxe, hb, hml, hown, -, hK, hU, -, -, -, -, -, hbs⟩ := hF
  have h100 := tS_lt (t := t) (by omega)
  obtain ⟨g1, g2⟩ := ok_ref (hd1 (tl1 (tl1 hO))) (by omega)
  rw [List.map_cons, List.map_cons, List.map_cons, cv_r (by omega)]
  refine va_last (D := D) (cl := vwCl) (tys := tysO cA) hxe hb hK.1 hR.1 hR.2.1 hS k0 2 (by rw [ws_at g2, ent_l g1 ht]) rfl hin hd (fun H1 locs1 a1 a2 a3 => ?_)
  have e : (wsO ad b adK cA S I L).set k0 (ad k0, .inl (cA 2, tN t, .inr (.inl (vp_updL (L k0) i.toNatClampNeg v)))) = wsO ad b adK cA S I (sL L k0 i.toNatClampNeg v) := ws_set (by rw [ent_l g1 ht, sL_k]) (fun j hj => ent_L (sL_o hj))
  rw [e] at a1 a2
  exact k ad H1 locs1 lsm cells slots hG (hR.to a1 a2 (fun _ _ => rfl)) a3 hL (tl1 (tl1 (tl1 hO))) h1 h2
theorem cv_4 {k : Nat} : cv ad b adK (.inr (.inr (4, k))) = .ref (ad k) := rfl
theorem RH.dlen {S : DS} {I : MI} {L : ML} {H : Heap} (hR : RH D cA base b Ls xs adK T ad S I L H) {k : Nat} (h1 : tS (S.kd k) = 6) (h2 : k < S.n) : (I (200000 + k) 0).toNatClampNeg = tN (S.kd k) := by
  obtain ⟨g1, g2⟩ := hR.2.2.2.1 k h2
  rw [g2 h1]
  refine nI_clamp ?_
  rcases g1 with g | g
  · have := tS_lt (t := S.kd k) (by omega)
    omega
  · omega
theorem lw_alenD (hF : FR D cA base b Ls xs adK adV y p R s m args meth c) {pc k0 : Nat} {ls st : List AV} {S : DS} {I : MI} {L : ML} (hd : decode (mB y) pc = .ok (.arraylength, 1)) (k : LW D cA base b Ls xs adK y T G p l e R s m args below meth c Q (pc + 1) ls (.inl (I (200000 + k0) 0) :: st) S I L) : LW D cA base b Ls xs adK y T G p l e R s m args below meth c Q pc ls (.inr (.inr (4, k0)) :: st) S I L := by
  intro ad H locs lsm cells slots hG hR hS hL hO h1 h2
  obtain ⟨hxe, hb, hml, hown, -, hK, hU, -, -, -, -, -, hbs⟩ := hF
  obtain ⟨g1, g2⟩ := ok_4 (hd1 hO)
  rw [List.map_cons, cv_4]
  have kk := k ad H locs lsm cells slots hG hR hS hL (ok1 trivial (tl1 hO)) h1 h2
  rw [(hR.2.2.2.1 k0 g2).2 g1] at kk
  have hx2 : (wsO ad b adK cA S I L)[k0]? = some (ad k0, .inl (cA 0, ((tN (S.kd k0), .inl (I k0)) : vp_A))) := by rw [ws_at g2, ent_d rfl g1]
  exact va_alen (D := D) (cl := vwCl) (tys := tysO cA) hxe hb hK.1 hR.1 k0 0 hx2 rfl rfl hd kk
theorem cv_5 {k : Nat} : cv ad b adK (.inr (.inr (5, k))) = .ref (adK 14) := rfl
theorem lw_kald (hF : FR D cA base b Ls xs adK adV y p R s m args meth c) {pc k0 : Nat} {i : Int32} {ls st : List AV} {S : DS} {I : MI} {L : ML} (hd : decode (mB y) pc = .ok (.laload, 1)) (hin : vp_in i 6) (k : LW D cA base b Ls xs adK y T G p l e R s m args below meth c Q (pc + 1) ls (.inr (.inl (knd i.toNatClampNeg)) :: st) S I L) : LW D cA base b Ls xs adK y T G p l e R s m args below meth c Q pc ls (.inl i :: .inr (.inr (5, k0)) :: st) S I L := by
  intro ad H locs lsm cells slots hG hR hS hL hO h1 h2
  obtain ⟨hxe, hb, hml, hown, -, hK, hU, -, -, -, -, -, hbs⟩ := hF
  exact va_tl hxe hb hU.2.2.2.2.2.2.2 hS hin rfl hd (k ad H locs lsm cells slots hG hR hS hL (ok1 trivial (tl1 (tl1 hO))) h1 h2)
theorem lw_diald (hF : FR D cA base b Ls xs adK adV y p R s m args meth c) {pc k0 : Nat} {i : Int32} {ls st : List AV} {S : DS} {I : MI} {L : ML} (hd : decode (mB y) pc = .ok (.iaload, 1)) (hin : vp_in i (I (200000 + k0) 0).toNatClampNeg) (k : LW D cA base b Ls xs adK y T G p l e R s m args below meth c Q (pc + 1) ls (.inl (I k0 i.toNatClampNeg) :: st) S I L) : LW D cA base b Ls xs adK y T G p l e R s m args below meth c Q pc ls (.inl i :: .inr (.inr (4, k0)) :: st) S I L := by
  intro ad H locs lsm cells slots hG hR hS hL hO h1 h2
  obtain ⟨hxe, hb, hml, hown, -, hK, hU, -, -, -, -, -, hbs⟩ := hF
  obtain ⟨g1, g2⟩ := ok_4 (hd1 (tl1 hO))
  rw [hR.dlen g1 g2] at hin
  rw [List.map_cons, List.map_cons, cv_4]
  exact va_iald (D := D) (cl := vwCl) (tys := tysO cA) hxe hb hK.1 hR.1 k0 0 (by rw [ws_at g2, ent_d rfl g1]) rfl hin hd (k ad H locs lsm cells slots hG hR hS hL (ok1 trivial (tl1 (tl1 hO))) h1 h2)
theorem lw_diast (hF : FR D cA base b Ls xs adK adV y p R s m args meth c) {pc k0 : Nat} {i v : Int32} {ls st : List AV} {S : DS} {I : MI} {L : ML} (hd : decode (mB y) pc = .ok (.iastore, 1)) (hin : vp_in i (I (200000 + k0) 0).toNatClampNeg) (k : LW D cA base b Ls xs adK y T G p l e R s m args below meth c Q (pc + 1) ls st S (sI I k0 i.toNatClampNeg v) L) : LW D cA base b Ls xs adK y T G p l e R s m args below meth c Q pc ls (.inl v :: .inl i :: .inr (.inr (4, k0)) :: st) S I L := by
  intro ad H locs lsm cells slots hG hR hS hL hO h1 h2
  obtain ⟨hxe, hb, hml, hown, -, hK, hU, -, -, -, -, -, hbs⟩ := hF
  obtain ⟨g1, g2⟩ := ok_4 (hd1 (tl1 (tl1 hO)))
  rw [hR.dlen g1 g2] at hin
  rw [List.map_cons, List.map_cons, List.map_cons, cv_4]
  refine va_iast (D := D) (cl := vwCl) (tys := tysO cA) hxe hb hK.1 hR.1 hR.2.1 hS k0 0 (by rw [ws_at g2, ent_d rfl g1]) rfl hin hd (fun H1 locs1 a1 a2 a3 => ?_)
  have e : (wsO ad b adK cA S I L).set k0 (ad k0, .inl (cA 0, tN (S.kd k0), .inl (upd (I k0) i.toNatClampNeg v))) = wsO ad b adK cA S (sI I k0 i.toNatClampNeg v) L := ws_set (by rw [ent_d rfl g1, sI_k]) (fun j hj => ent_I (sI_o hj))
  rw [e] at a1 a2
  exact k ad H1 locs1 lsm cells slots hG (hR.to a1 a2 (fun a ha => sI_o (by omega))) a3 hL (tl1 (tl1 (tl1 hO))) h1 h2
theorem lw_alen (hF : FR D cA base b Ls xs adK adV y p R s m args meth c) {pc t k0 : Nat} {ls st : List AV} {S : DS} {I : MI} {L : ML} (hd : decode (mB y) pc = .ok (.arraylength, 1)) (ht : 100 ≤ t) (ht5 : tS t ≤ 5) (k : LW D cA base b Ls xs adK y T G p l e R s m args below meth c Q (pc + 1) ls (.inl (Int32.ofNat (tN t)) :: st) S I L) : LW D cA base b Ls xs adK y T G p l e R s m args below meth c Q pc ls (.inr (.inr (t, k0)) :: st) S I L := by
  intro ad H locs lsm cells slots hG hR hS hL hO h1 h2
  obtain ⟨hxe, hb, hml, hown, -, hK, hU, -, -, -, -, -, hbs⟩ := hF
  obtain ⟨g1, g2⟩ := ok_ref (hd1 hO) (by omega)
  rw [List.map_cons, cv_r (by omega)]
  have kk := k ad H locs lsm cells slots hG hR hS hL (ok1 trivial (tl1 hO)) h1 h2
  have hk6 : tS t < 6 := by omega
  have he : ∃ x : vp_A, x.1 = tN t ∧ (wsO ad b adK cA S I L)[k0]? = some (ad k0, .inl (cA (tS t), x)) := by
    rw [ws_at g2]
    unfold ent
    rw [g1, ble_100 ht]
    match tS t, hk6 with
    | 0, _ => exact ⟨_, rfl, rfl⟩
    | 1, _ => exact ⟨_, rfl, rfl⟩
    | 2, _ => exact ⟨_, rfl, rfl⟩
    | 3, _ => exact ⟨_, rfl, rfl⟩
    | 4, _ => exact ⟨_, rfl, rfl⟩
    | 5, _ => exact ⟨_, rfl, rfl⟩
    | q + 6, h => exact absurd h (by omega)
  obtain ⟨x, hx1, hx2⟩ := he
  have ht6 : ∃ (t0 : Nat) (ty : FieldType), (tysO cA)[t0]? = some (cA (tS t), ty) := by
    match tS t, hk6 with
    | 0, _ => exact ⟨0, _, rfl⟩
    | 1, _ => exact ⟨1, _, rfl⟩
    | 2, _ => exact ⟨2, _, rfl⟩
    | 3, _ => exact ⟨3, _, rfl⟩
    | 4, _ => exact ⟨4, _, rfl⟩
    | 5, _ => exact ⟨5, _, rfl⟩
    | q + 6, h => exact absurd h (by omega)
  obtain ⟨t0, ty, ht0⟩ := ht6
  exact va_alen (D := D) (cl := vwCl) (tys := tysO cA) hxe hb hK.1 hR.1 k0 t0 hx2 ht0 (by rw [hx1]) hd kk
end FRM3
