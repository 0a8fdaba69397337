/-! all instructions that touch numbers alone -/
section FRM5
variable {D : va_G} {cA : Nat → ClassId} {base b Ls : Nat} {xs : Nat → Int32} {adK adV ad : Nat → Nat} {y T : Nat} {G : GT} {p : Program} {l : Launch} {e : Env} {R : Room} {s : State} {m : MethodId} {args : Array Value} {below : List Frame} {meth : Method} {c : Code} {Q : State → Prop}
theorem lw_irem (hF : FR D cA base b Ls xs adK adV y p R s m args meth c) {pc : Nat} {v1 v2 : Int32} {ls st : List AV} {S : DS} {I : MI} {L : ML} (hd : decode (mB y) pc = .ok (.irem, 1)) (h0 : ¬ v2 = 0) (k : LW D cA base b Ls xs adK y T G p l e R s m args below meth c Q (pc + 1) ls (.inl (v1 - v1 / v2 * v2) :: st) S I L) : LW D cA base b Ls xs adK y T G p l e R s m args below meth c Q pc ls (.inl v2 :: .inl v1 :: st) S I L := by
  intro ad H locs lsm cells slots hG hR hS hL hO h1 h2
  obtain ⟨hxe, hb, -⟩ := hF
  exact lv_irem hxe hb hd h0 (k ad H locs lsm cells slots hG hR hS hL (ok1 trivial (tl1 (tl1 hO))) h1 h2)
theorem lw_ldiv (hF : FR D cA base b Ls xs adK adV y p R s m args meth c) {pc : Nat} {v1 v2 : Int64} {ls st : List AV} {S : DS} {I : MI} {L : ML} (hd : decode (mB y) pc = .ok (.ldiv, 1)) (h0 : ¬ v2 = 0) (k : LW D cA base b Ls xs adK y T G p l e R s m args below meth c Q (pc + 1) ls (.inr (.inl (v1 / v2)) :: st) S I L) : LW D cA base b Ls xs adK y T G p l e R s m args below meth c Q pc ls (.inr (.inl v2) :: .inr (.inl v1) :: st) S I L := by
  intro ad H locs lsm cells slots hG hR hS hL hO h1 h2
  obtain ⟨hxe, hb, -⟩ := hF
  exact lv_ldiv hxe hb hd h0 (k ad H locs lsm cells slots hG hR hS hL (ok1 trivial (tl1 (tl1 hO))) h1 h2)
theorem lw_idiv (hF : FR D cA base b Ls xs adK adV y p R s m args meth c) {pc : Nat} {v1 v2 : Int32} {ls st : List AV} {S : DS} {I : MI} {L : ML} (hd : decode (mB y) pc = .ok (.idiv, 1)) (h0 : ¬ v2 = 0) (k : LW D cA base b Ls xs adK y T G p l e R s m args below meth c Q (pc + 1) ls (.inl (v1 / v2) :: st) S I L) : LW D cA base b Ls xs adK y T G p l e R s m args below meth c Q pc ls (.inl v2 :: .inl v1 :: st) S I L := by
  intro ad H locs lsm cells slots hG hR hS hL hO h1 h2
  obtain ⟨hxe, hb, -⟩ := hF
  exact lv_idiv hxe hb hd h0 (k ad H locs lsm cells slots hG hR hS hL (ok1 trivial (tl1 (tl1 hO))) h1 h2)
theorem lw_lrem (hF : FR D cA base b Ls xs adK adV y p R s m args meth c) {pc : Nat} {v1 v2 : Int64} {ls st : List AV} {S : DS} {I : MI} {L : ML} (hd : decode (mB y) pc = .ok (.lrem, 1)) (h0 : ¬ v2 = 0) (k : LW D cA base b Ls xs adK y T G p l e R s m args below meth c Q (pc + 1) ls (.inr (.inl (v1 - v1 / v2 * v2)) :: st) S I L) : LW D cA base b Ls xs adK y T G p l e R s m args below meth c Q pc ls (.inr (.inl v2) :: .inr (.inl v1) :: st) S I L := by
  intro ad H locs lsm cells slots hG hR hS hL hO h1 h2
  obtain ⟨hxe, hb, -⟩ := hF
  exact lv_lrem hxe hb hd h0 (k ad H locs lsm cells slots hG hR hS hL (ok1 trivial (tl1 (tl1 hO))) h1 h2)
theorem lw_kinds (hF : FR D cA base b Ls xs adK adV y p R s m args meth c) {pc n x z u i : Nat} {c0 : Int32} {w : Int64} {sw : List (Int32 × Nat)} {ls st : List AV} {S : DS} {I : MI} {L : ML} (hd : decode (mB y) pc = .ok (.getstatic i, n)) (hs : sok y pc (11, .getstatic i, n, x, z, u, c0, w, sw) = true) (hn : ∀ q ∈ need y (11, .getstatic i, n, x, z, u, c0, w, sw), q.before args s = true) (k : LW D cA base b Ls xs adK y T G p l e R s m args below meth c Q (pc + n) ls (vr 5 0 :: st) S I L) : LW D cA base b Ls xs adK y T G p l e R s m args below meth c Q pc ls st S I L := by
  intro ad H locs lsm cells slots hG hR hS hL hO h1 h2
  obtain ⟨h3, h4⟩ := and2 hs
  have h3 : n = 3 := of_decide_eq_true h3
  have h4 : mC y = "SaidBackLaw" := of_decide_eq_true h4
  subst h3
  obtain ⟨hxe, hb, hml, hown, -, hK, hU, -, -, -, -, -, hbs⟩ := hF
  exact va_gets hxe hb hU.2.2.2.2.2.2.1 hS hown (hn _ List.mem_cons_self) (fun x h => h) hd (k ad H locs lsm cells slots hG hR hS hL (ok1 (Or.inr (Or.inr (Or.inr (Or.inr (Or.inr rfl))))) hO) h1 h2)
theorem lw_goto (hF : FR D cA base b Ls xs adK adV y p R s m args meth c) {pc x o : Nat} {off : Int} {ls st : List AV} {S : DS} {I : MI} {L : ML} (hd : decode (mB y) pc = .ok (.goto off, 3)) (ht : (pc : Int) + off = (x : Int)) (k : LW D cA base b Ls xs adK y T G p l e R s m args below meth c Q x ls st S I L) : LW D cA base b Ls xs adK y T G p l e R s m args below meth c Q pc ls st S I L := by
  intro ad H locs lsm cells slots hG hR hS hL hO h1 h2
  obtain ⟨hxe, hb, -⟩ := hF
  exact lv_goto hxe hb hd ht (k ad H locs lsm cells slots hG hR hS hL hO h1 h2)
set_option maxHeartbeats 4000000 in
theorem lw_com (hw : LayW) (hF : FR D cA base b Ls xs adK adV y p R s m args meth c) {pc fam n x z u : Nat} {ins : Instr} {c0 : Int32} {w : Int64} {sw : List (Int32 × Nat)} {ls st : List AV} {S : DS} {I : MI} {L : ML} (hd : decode (mB y) pc = .ok (ins, n)) (hs : sok y pc (fam, ins, n, x, z, u, c0, w, sw) = true) (hn : ∀ q ∈ need y (fam, ins, n, x, z, u, c0, w, sw), q.before args s = true) (k : com (fun pc ls st I L => LW D cA base b Ls xs adK y T G p l e R s m args below meth c Q pc ls st S I L) pc ls st I L fam ins n x z u c0 w sw) : LW D cA base b Ls xs adK y T G p l e R s m args below meth c Q pc ls st S I L := by
  unfold com at k
  cases h9 : Nat.beq fam 9 with
  | true =>
    rw [h9] at k
    obtain rfl := beq_t h9
    rcases st with _ | ⟨v | v, st⟩
    · exact k.elim
    · exact lw_sw hF hd hs k
    · exact k.elim
  | false =>
    rw [h9] at k
    dsimp only at k
    cases hr : comR pc ls st I L fam ins n x z u c0 w with
    | none => rw [hr] at k; exact k.elim
    | some r =>
      rw [hr] at k
      dsimp only at k
      unfold comR at hr
      split at hr
      · split at hr
        · rename_i hp
          cases hr
          exact lw_pure hF hd hs hn hp k
        · cases hr
      · split at hr
        · rename_i hp
          cases hr
          exact lw_br hF hd hs hp k.1 k.2
        · cases hr
      · cases hr
        obtain ⟨o, rfl, ht, rfl⟩ := s2 hs
        exact lw_goto (o := 0) hF hd ht k
      · split at hr
        · split at hr
          · rename_i ht
            split at hr
            · cases hr
              exact lw_get hw hF hd hs hn ht k
            · rename_i hu
              cases hr
              refine lw_get hw hF hd hs hn ht ?_
              have e : ∀ (a : Int32) (q : Int64), gv u a q = .inr (.inl q) := by
                intro a q
                unfold gv
                split
                · exact absurd rfl hu
                · rfl
              rw [e]
              exact k
          · cases hr
        · cases hr
      · split at hr
        · split at hr
          · rename_i ht
            split at hr
            · cases hr
              exact lw_putI hw hF hd hs hn ht (Or.inl rfl) k
            · cases hr
              exact lw_putI hw hF hd hs hn ht (Or.inr ⟨rfl, k.1⟩) k.2
            · cases hr
          · cases hr
        · split at hr
          · rename_i ht
            split at hr
            · cases hr
              exact lw_putL hw hF hd hs hn ht rfl k
            · cases hr
          · cases hr
        · cases hr
      · obtain rfl := d1 hs (Or.inl rfl)
        split at hr
        · split at hr
          · split at hr
            · rename_i ht
              cases hr
              obtain rfl := beq_t ht
              exact lw_ialoadS hF hd k.1 k.2
            · split at hr
              · rename_i ht
                cases hr
                obtain rfl := beq_t ht
                exact lw_diald hF hd k.1 k.2
              · split at hr
                · rename_i ht
                  cases hr
                  exact lw_iald hF hd (beq_t ht) k.1 k.2
                · cases hr
          · split at hr
            · rename_i ht
              cases hr
              exact lw_zald hF hd (beq_t ht) k.1 k.2
            · cases hr
          · split at hr
            · rename_i ht
              cases hr
              obtain rfl := beq_t ht
              exact lw_kald hF hd k.1 k.2
            · split at hr
              · rename_i ht
                cases hr
                exact lw_lald hF hd (beq_t ht) k.1 k.2
              · cases hr
          · cases hr
        · cases hr
      · obtain rfl := d1 hs (Or.inr rfl)
        split at hr
        · split at hr
          · split at hr
            · rename_i ht
              cases hr
              obtain rfl := beq_t ht
              exact lw_diast hF hd k.1 k.2
            · split at hr
              · rename_i ht
                cases hr
                exact lw_iast hF hd (beq_t ht) k.1 k.2
              · cases hr
          · split at hr
            · rename_i ht
              cases hr
              exact lw_zast hF hd (beq_t ht) k.1.1 k.1.2 k.2
            · cases hr
          · cases hr
        · split at hr
          · split at hr
            · rename_i ht
              cases hr
              exact lw_last hF hd (beq_t ht) k.1 k.2
            · cases hr
          · cases hr
        · cases hr
      · obtain ⟨rfl, rfl⟩ := s7 hs
        split at hr
        · split at hr
          · rename_i ht
            cases hr
            obtain rfl := beq_t ht
            exact lw_alenS hF hd k
          · split at hr
            · rename_i ht
              cases hr
              obtain rfl := beq_t ht
              exact lw_alenD hF hd k
            · split at hr
              · rename_i ht
                cases hr
                obtain ⟨h1, h2⟩ := and2 ht
                exact lw_alen hF hd (Nat.le_of_ble_eq_true h1) (Nat.le_of_ble_eq_true h2) k
              · cases hr
        · cases hr
      · split at hr
        · split at hr
          · split at hr
            · rename_i ht
              cases hr
              exact lw_max hF hd hs hn ht k
            · cases hr
          · cases hr
        · split at hr
          · split at hr
            · rename_i ht
              cases hr
              exact lw_min hF hd hs hn ht k
            · cases hr
          · cases hr
        · split at hr
          · split at hr
            · rename_i ht
              cases hr
              obtain ⟨h1, h2⟩ := and2 ht
              obtain rfl := beq_t h1
              exact lw_slen hF hd hs hn h2 k
            · cases hr
          · cases hr
        · split at hr
          · split at hr
            · rename_i ht
              cases hr
              obtain ⟨h1, h2⟩ := and2 ht
              obtain rfl := beq_t h1
              exact lw_sat hF hd hs hn h2 k.1 k.2
            · cases hr
          · cases hr
        · split at hr
          · split at hr
            · rename_i ht
              cases hr
              obtain ⟨h1, h2⟩ := and2 ht
              obtain ⟨h2, h3⟩ := and2 h2
              exact lw_copy hF hd hs hn (beq_t h1) (beq_t h2) h3 k.1 k.2
            · cases hr
          · cases hr
        · split at hr
          · split at hr
            · rename_i ht
              cases hr
              obtain ⟨h1, h2⟩ := and2 ht
              exact lw_oinit hF hd hs hn h1 h2 k
            · cases hr
          · cases hr
        · cases hr
      · split at hr
        · have hn1 : n = 1 := of_decide_eq_true hs
          subst hn1
          split at hr
          · cases hr
            exact lw_irem hF hd k.1 k.2
          · cases hr
        · have hn1 : n = 1 := of_decide_eq_true hs
          subst hn1
          split at hr
          · cases hr
            exact lw_ldiv hF hd k.1 k.2
          · cases hr
        · have hn1 : n = 1 := of_decide_eq_true hs
          subst hn1
          split at hr
          · cases hr
            exact lw_idiv hF hd k.1 k.2
          · cases hr
        · have hn1 : n = 1 := of_decide_eq_true hs
          subst hn1
          split at hr
          · cases hr
            exact lw_lrem hF hd k.1 k.2
          · cases hr
        · cases hr
      · split at hr
        · cases hr
          exact lw_kinds hF hd hs hn k
        · rename_i hng
          cases hr
          exact lw_str hF hd hs hng k
      · cases hr
end FRM5
