/-! every aim of the small machine is reached by the machine -/
theorem s12 {y pc n x z u : Nat} {ins : Instr} {c : Int32} {w : Int64} {sw : List (Int32 × Nat)} (h : sok y pc (12, ins, n, x, z, u, c, w, sw) = true) : n = 1 ∧ ((ins = .ireturn ∧ (z = 1 ∧ mR y = some .int ∨ z = 2 ∧ mR y = some .boolean)) ∨ (ins = .lreturn ∧ mR y = some .long) ∨ (ins = .areturn ∧ ∃ ty, mR y = some ty ∧ ((∃ n, ty = .object n) ∨ ∃ n, ty = .array n)) ∨ (ins = .return_ ∧ mR y = none)) := by
  cases ins with
  | ireturn =>
    obtain ⟨h1, h⟩ := and2 h
    refine ⟨of_decide_eq_true h1, Or.inl ⟨rfl, ?_⟩⟩
    rcases Bool.or_eq_true_iff.mp h with h | h
    · exact Or.inl ⟨of_decide_eq_true (and2 h).1, of_decide_eq_true (and2 h).2⟩
    · exact Or.inr ⟨of_decide_eq_true (and2 h).1, of_decide_eq_true (and2 h).2⟩
  | lreturn =>
    obtain ⟨h1, h⟩ := and2 h
    exact ⟨of_decide_eq_true h1, Or.inr (Or.inl ⟨rfl, of_decide_eq_true (and2 h).2⟩)⟩
  | areturn =>
    obtain ⟨h1, h⟩ := and2 h
    refine ⟨of_decide_eq_true h1, Or.inr (Or.inr (Or.inl ⟨rfl, ?_⟩))⟩
    have h : (match mR y with
      | some (.object _) => true
      | some (.array _) => true
      | _ => false) = true := (and2 h).2
    split at h
    · exact ⟨_, by assumption, Or.inl ⟨_, rfl⟩⟩
    · exact ⟨_, by assumption, Or.inr ⟨_, rfl⟩⟩
    · cases h
  | return_ =>
    obtain ⟨h1, h⟩ := and2 h
    exact ⟨of_decide_eq_true h1, Or.inr (Or.inr (Or.inr ⟨rfl, of_decide_eq_true (and2 h).2⟩))⟩
  | _ => exact (Bool.false_ne_true h).elim
theorem s13 {y pc n x z u : Nat} {ins : Instr} {c : Int32} {w : Int64} {sw : List (Int32 × Nat)} (h : sok y pc (13, ins, n, x, z, u, c, w, sw) = true) : n = 3 ∧ callOK y x = true ∧ ((∃ i, ins = .invokevirtual i ∧ 0 < mA x ∧ parN x = some (mA x - 1) ∧ cN (mK x) = mC x ∧ mK x < 12) ∨ (∃ i, ins = .invokestatic i ∧ parN x = some (mA x)) ∨ (∃ i, ins = .invokespecial i ∧ 0 < mA x ∧ parN x = some (mA x - 1) ∧ (mN x).name = "<init>" ∧ mR x = none ∧ mS x = 0 ∧ (c = 0 ∨ c = 1 ∧ Cond.methodLinkNest (mC y) i (mN x) "SaidBack" ∈ nestW))) := by
  cases ins with
  | invokevirtual i =>
    obtain ⟨h1, h⟩ := and2 h
    obtain ⟨h2, h⟩ := and2 h
    obtain ⟨h3, h⟩ := and2 h
    obtain ⟨h4, h⟩ := and2 h
    obtain ⟨h5, h6⟩ := and2 h
    exact ⟨of_decide_eq_true h1, h2, Or.inl ⟨i, rfl, of_decide_eq_true h3, of_decide_eq_true h4, of_decide_eq_true h5, of_decide_eq_true h6⟩⟩
  | invokestatic i =>
    obtain ⟨h1, h⟩ := and2 h
    obtain ⟨h2, h3⟩ := and2 h
    exact ⟨of_decide_eq_true h1, h2, Or.inr (Or.inl ⟨i, rfl, of_decide_eq_true h3⟩)⟩
  | invokespecial i =>
    obtain ⟨h1, h⟩ := and2 h
    obtain ⟨h2, h⟩ := and2 h
    obtain ⟨h3, h⟩ := and2 h
    obtain ⟨h4, h⟩ := and2 h
    obtain ⟨h5, h⟩ := and2 h
    obtain ⟨h6, h⟩ := and2 h
    obtain ⟨h7, h8⟩ := and2 h
    refine ⟨of_decide_eq_true h1, h2, Or.inr (Or.inr ⟨i, rfl, of_decide_eq_true h3, of_decide_eq_true h4, of_decide_eq_true h5, of_decide_eq_true h6, of_decide_eq_true h7, ?_⟩)⟩
    rcases Bool.or_eq_true_iff.mp h8 with h | h
    · exact Or.inl (of_decide_eq_true h)
    · exact Or.inr ⟨of_decide_eq_true (and2 h).1, of_decide_eq_true (and2 h).2⟩
  | _ => exact (Bool.false_ne_true h).elim
theorem callOK_at {y x : Nat} (h : callOK y x = true) : mH x + 1 ≤ mH y ∧ 8 + (mL x + 11) + mW x ≤ mW y ∧ mC x ≠ "java/lang/invoke/MethodHandle" ∧ mC x ≠ "java/lang/invoke/VarHandle" ∧ plainName (mC x) = true := by
  obtain ⟨h1, h⟩ := and2 h
  obtain ⟨h2, h⟩ := and2 h
  obtain ⟨h3, h⟩ := and2 h
  obtain ⟨h4, h5⟩ := and2 h
  exact ⟨of_decide_eq_true h1, of_decide_eq_true h2, of_decide_eq_true h3, of_decide_eq_true h4, of_decide_eq_true h5⟩
section MACH2
variable {l : Launch} {D : va_G} {cA : Nat → ClassId} {base b Ls : Nat} {xs : Nat → Int32} {adK adV : Nat → Nat}
theorem PX.blind {T : Nat} {ad : Nat → Nat} {S : DS} {I : MI} {L : ML} {av : List Value} : FrameBlind (PX D cA base b Ls xs adK adV T ad S I L av) := fun a U g mk q => ⟨q.1, q.2.1, q.2.2.1.same (u := U) (U := U.calling g mk a) rfl, q.2.2.2.1.moved (u := U) (U := U.calling g mk a) (Vm.Alike.refl U.vm), q.2.2.2.2⟩
theorem mx_ret (hT : TabOK) {y pc n x z u : Nat} {ins : Instr} {c0 : Int32} {w : Int64} {sw : List (Int32 × Nat)} {ls st : List AV} {S : DS} {I : MI} {L : ML} {K : KD} (hd : decode (mB y) pc = .ok (ins, 1)) (hs : sok y pc (12, ins, n, x, z, u, c0, w, sw) = true) (k : retP ins z st (fun r => K r S I L)) : MX l D cA base b Ls xs adK adV y pc ls st S I L K := by
  intro T G p e R s m args below meth c Q hF hfin ad H locs lsm cells slots hG hR hS hL hO h1 h2
  have fin := fun r stk (hK : K r S I L) (hr : RTT ad b adK y S ins r stk) => hfin ad H locs lsm cells slots pc ins r S I L stk hK hG hR hS hr hd (by omega) (by omega)
  unfold retP at k
  have hns : ∀ {t}, mR y = some t → mS y ≠ 0 := fun h q => by
    rw [(hT y).mp q] at h
    cases h
  rcases (s12 hs).2 with ⟨rfl, hz⟩ | ⟨rfl, hz⟩ | ⟨rfl, nm, hz, hob⟩ | ⟨rfl, hz⟩
  · cases hr : retR .ireturn z st with
    | none => rw [hr] at k; exact k.elim
    | some q =>
      rw [hr] at k
      unfold retR at hr
      dsimp only at hr
      split at hr
      · split at hr
        · cases hr
          rcases hz with ⟨-, hz⟩ | ⟨hz, -⟩
          · exact fin _ _ k (Or.inr (Or.inl ⟨_, Or.inl hz, hns hz, rfl, rfl, rfl⟩))
          · exact absurd hz (by decide)
        · rename_i hz1
          cases hr
          rcases hz with ⟨hz, -⟩ | ⟨-, hz⟩
          · exact absurd hz hz1
          · exact fin _ _ k.2 (Or.inr (Or.inl ⟨_, Or.inr ⟨hz, k.1⟩, hns hz, rfl, rfl, rfl⟩))
      · cases hr
  · cases hr : retR .lreturn z st with
    | none => rw [hr] at k; exact k.elim
    | some q =>
      rw [hr] at k
      unfold retR at hr
      dsimp only at hr
      split at hr
      · cases hr
        exact fin _ _ k (Or.inr (Or.inr (Or.inl ⟨_, hz, hns hz, rfl, rfl, rfl⟩)))
      · cases hr
  · cases hr : retR .areturn z st with
    | none => rw [hr] at k; exact k.elim
    | some q =>
      rw [hr] at k
      unfold retR at hr
      dsimp only at hr
      split at hr
      · split at hr
        · cases hr
        · cases hr
          exact fin _ _ k (Or.inr (Or.inr (Or.inr ⟨_, _, nm, ⟨hz, hob⟩, hns hz, rfl, rfl, hd1 hO, rfl⟩)))
      · cases hr
  · cases hr : retR .return_ z st with
    | none => rw [hr] at k; exact k.elim
    | some q =>
      rw [hr] at k
      unfold retR at hr
      dsimp only at hr
      split at hr
      · cases hr
        exact fin _ _ k (Or.inl ⟨hz, (hT y).mpr hz, rfl, rfl⟩)
      · cases hr
set_option maxHeartbeats 1000000 in
theorem mx_call {y pc n x z u : Nat} {ins : Instr} {c0 : Int32} {w : Int64} {sw : List (Int32 × Nat)} {ls st : List AV} {S : DS} {I : MI} {L : ML} {K P : KD} {r : List AV × List AV} (hd : decode (mB y) pc = .ok (ins, n)) (hs : sok y pc (13, ins, n, x, z, u, c0, w, sw) = true) (hn : ∀ q ∈ need y (13, ins, n, x, z, u, c0, w, sw), q ∈ TG) (hr : callR st ins x = some r) (hb1 : z ≤ S.bc) (hb2 : u ≤ S.bs) (k1 : MX l D cA base b Ls xs adK adV x 0 (padL (mL x) (entL r.1)) [] (S.n, S.kd, S.rf, z, u) I L P) (k2 : ∀ v S' I' L', P v S' I' L' → MX l D cA base b Ls xs adK adV y (pc + n) ls (pushR (mS x) v r.2) (S'.n, S'.kd, S'.rf, S.bc - z, S.bs - u) I' L' K) : MX l D cA base b Ls xs adK adV y pc ls st S I L K := by
  intro T G p e R s m args below meth c Q hF hfin ad H locs lsm cells slots hG hR hS hL hO h1 h2
  obtain ⟨rfl, hco, hkind⟩ := s13 hs
  obtain ⟨hh, hwd, hm1, hm2, hpl⟩ := callOK_at hco
  unfold callR at hr
  cases hpo : popN (mA x) st [] with
  | none => rw [hpo] at hr; cases hr
  | some q =>
    rw [hpo] at hr
    dsimp only at hr
    split at hr
    case h_2 => cases hr
    case h_1 hck =>
      cases hr
      obtain ⟨hrc, hck⟩ := and2 hck
      obtain ⟨h4, hen⟩ := and2 hck
      obtain ⟨as, rest⟩ := r
      obtain ⟨qs, rfl, hql, hqa⟩ := popN_at _ _ _ _ _ hpo
      rw [List.append_nil] at hqa
      have has : as = qs.reverse := hqa
      have hOa : ∀ v ∈ as, okV S v := fun v hv => hO v (List.mem_append_left _ (by rw [has] at hv; exact List.mem_reverse.mp hv))
      have hOr : ∀ v ∈ rest, okV S v := fun v hv => hO v (List.mem_append_right _ hv)
      have hR0 : RH D cA base b Ls xs adK (S.n + z) ad (S.n, S.kd, S.rf, z, u) I L H := ⟨hR.1, hR.2.1, hR.2.2.1, hR.2.2.2.1, hR.2.2.2.2.1, hR.2.2.2.2.2.1, Nat.le_refl _, by have := hR.2.2.2.2.2.2; omega⟩
      have hM : Met l (mN x) (WX x) ({ frames := mH x, cells := z, slots := u, locals := mW x }) (PX D cA base b Ls xs adK adV (S.n + z) ad (S.n, S.kd, S.rf, z, u) I L (as.map (cv ad b adK))) (QX D cA base b Ls xs adK (S.n + z) (S.n, S.kd, ad) x P) z u (AO base) := mx_met (as := as) (x := x) (T := S.n + z) (ad := ad) (S := (S.n, S.kd, S.rf, z, u)) k1 hpl (Nat.le_of_ble_eq_true hen) hOa
      have hts := hF.tg
      obtain ⟨hxe, hb, hml, hown, -, hK, hU, hH, hW, -, -, -, hbs⟩ := id hF
      have h8 := cat_8c (ad := ad) (b := b) (adK := adK) h4
      have hpre : ∀ U : State, U.heap = H → s.WarmedH U.vm → PX D cA base b Ls xs adK adV (S.n + z) ad (S.n, S.kd, S.rf, z, u) I L (as.map (cv ad b adK)) (as.map (cv ad b adK)).toArray U := fun U hUH hUW => ⟨rfl, by rw [hUH]; exact hR0, hK.warm hUW, by rw [hUH]; exact (hU.kept hbs (fun a ha hna => hS.2.1 a ha hna)).moved hUW.alike, by rw [hUH]; exact Nat.le_trans hbs hS.1⟩
      have hgood : GoodIn TG (WX x) := by
        refine tg_good (fun w0 hw0 => ?_)
        rcases List.mem_cons.mp hw0 with rfl | q
        · rcases hkind with ⟨i, rfl, -⟩ | ⟨i, rfl, -⟩ | ⟨i, rfl, -, -, -, -, -, hc⟩
          · exact hn _ (List.mem_cons_of_mem _ (List.mem_cons_of_mem _ (List.mem_cons_of_mem _ (List.mem_cons_of_mem _ List.mem_cons_self))))
          · exact hn _ (List.mem_cons_of_mem _ (List.mem_cons_of_mem _ (List.mem_cons_of_mem _ List.mem_cons_self)))
          · rcases hc with rfl | ⟨rfl, -⟩
            · exact hn _ (List.mem_cons_of_mem _ (List.mem_cons_of_mem _ (List.mem_cons_of_mem _ List.mem_cons_self)))
            · exact hn _ (List.mem_cons_of_mem _ (List.mem_cons_of_mem _ List.mem_cons_self))
        · exact q
      have hst : (qs ++ rest).map (cv ad b adK) = (as.map (cv ad b adK)).reverse ++ rest.map (cv ad b adK) := by
        rw [List.map_append, has, List.map_reverse, List.reverse_reverse]
      have hrun : va_Run p l e R s m args below meth c H locs cells slots z u (F0 m pc lsm ((qs ++ rest).map (cv ad b adK))) (rest.map (cv ad b adK)) (QX D cA base b Ls xs adK (S.n + z) (S.n, S.kd, ad) x P (as.map (cv ad b adK)).toArray) (AO base) := by
        rcases hkind with ⟨i, rfl, hpos, hpar, hcl, hz13⟩ | ⟨i, rfl, hpar⟩ | ⟨i, rfl, hpos, hpar, hnm, hret, hms, hc⟩
        · have w1 := hts _ (hn _ List.mem_cons_self)
          have w2 := hts _ (hn _ (List.mem_cons_of_mem _ List.mem_cons_self))
          have w3 := hts _ (hn _ (List.mem_cons_of_mem _ (List.mem_cons_of_mem _ List.mem_cons_self)))
          have w4 := hts _ (hn _ (List.mem_cons_of_mem _ (List.mem_cons_of_mem _ (List.mem_cons_of_mem _ List.mem_cons_self))))
          cases as with
          | nil =>
            rw [← hql] at hpos
            have : qs.length = 0 := by rw [← List.length_reverse, ← has]; rfl
            omega
          | cons a As =>
            have hrc : (match a :: As with
              | .inr (.inr (t, _)) :: _ => Nat.beq t (10 + mK x)
              | _ => false) = true := hrc
            rcases a with v | v | ⟨t, r0⟩
            · cases hrc
            · cases hrc
            · obtain rfl := beq_t (show Nat.beq t (10 + mK x) = true from hrc)
              obtain ⟨g1, g2⟩ := ok_ref (hOa _ List.mem_cons_self) (by omega)
              have hrv := va_recv (q0 := r0) hK.1 hR.1 (vw_at (mK x) hz13) (by rw [ws_at g2, ent_obj g1 hz13])
              have e1 : ((Sum.inr (Sum.inr (10 + mK x, r0)) : AV) :: As).map (cv ad b adK) = Value.ref (ad r0) :: As.map (cv ad b adK) := by
                rw [List.map_cons, cv_r (by omega)]
              rw [e1] at hM hpre hst ⊢
              have hlen : (As.map (cv ad b adK)).length = mA x - 1 := by
                have : qs.length = As.length + 1 := by rw [← List.length_reverse, ← has]; rfl
                rw [List.length_map]
                omega
              exact va_runV (As := As.map (cv ad b adK)) (rest := rest.map (cv ad b adK)) (C := mC x) (own := mC y) ⟨hxe, hb, hml, hown, hts⟩ hM ⟨callB_of (mA x - 1) hts hgood rfl rfl rfl w4 w1 ⟨hm1, hm2, hpar⟩ ⟨Nat.le_trans hh hH, Nat.le_trans hwd hW⟩, w2, w3⟩ ⟨PX.blind, by rw [← hcl]; exact hrv, hpre⟩ rfl hlen hL.2.1.1 (by show (qs ++ rest).map _ = _; rw [hst, List.reverse_cons, List.append_assoc]; rfl) (lv_room h8) hd ⟨by omega, by omega⟩
        · have w1 := hts _ (hn _ List.mem_cons_self)
          have w2 := hts _ (hn _ (List.mem_cons_of_mem _ List.mem_cons_self))
          have w3 := hts _ (hn _ (List.mem_cons_of_mem _ (List.mem_cons_of_mem _ List.mem_cons_self)))
          have hlen : (as.map (cv ad b adK)).length = mA x := by rw [List.length_map, has, List.length_reverse, hql]
          exact va_runS (As := as.map (cv ad b adK)) (rest := rest.map (cv ad b adK)) (own := mC y) ⟨hxe, hb, hml, hown, hts⟩ hM ⟨callB_of (mA x) hts hgood rfl rfl rfl w3 w1 ⟨hm1, hm2, hpar⟩ ⟨Nat.le_trans hh hH, Nat.le_trans hwd hW⟩, w2⟩ ⟨PX.blind, hpre⟩ rfl hlen hL.2.1.1 hst (lv_room h8) hd ⟨by omega, by omega⟩
        · cases as with
          | nil =>
            rw [← hql] at hpos
            have : qs.length = 0 := by rw [← List.length_reverse, ← has]; rfl
            omega
          | cons a As =>
            have hrc : (match a :: As with
              | .inr (.inr (t, _)) :: _ => Nat.beq t (10 + mK x)
              | _ => false) = true := hrc
            rcases a with v | v | ⟨t, r0⟩
            · cases hrc
            · cases hrc
            · obtain rfl := beq_t (show Nat.beq t (10 + mK x) = true from hrc)
              have e1 : ((Sum.inr (Sum.inr (10 + mK x, r0)) : AV) :: As).map (cv ad b adK) = Value.ref (ad r0) :: As.map (cv ad b adK) := by
                rw [List.map_cons, cv_r (by omega)]
              rw [e1] at hM hpre hst ⊢
              have hlen : (As.map (cv ad b adK)).length = mA x - 1 := by
                have : qs.length = As.length + 1 := by rw [← List.length_reverse, ← has]; rfl
                rw [List.length_map]
                omega
              have hst2 : (F0 m pc lsm ((qs ++ rest).map (cv ad b adK))).stack = (As.map (cv ad b adK)).reverse ++ Value.ref (ad r0) :: rest.map (cv ad b adK) := by
                show (qs ++ rest).map _ = _
                rw [hst, List.reverse_cons, List.append_assoc]
                rfl
              have hgood2 : GoodIn TG (.code (mN x) (mB x) (mL x) none :: TG) := by rw [← hret]; exact hgood
              have hM2 : Met l (mN x) (.code (mN x) (mB x) (mL x) none :: TG) ({ frames := mH x, cells := z, slots := u, locals := mW x }) (PX D cA base b Ls xs adK adV (S.n + z) ad (S.n, S.kd, S.rf, z, u) I L (Value.ref (ad r0) :: As.map (cv ad b adK))) (QX D cA base b Ls xs adK (S.n + z) (S.n, S.kd, ad) x P) z u (AO base) := by rw [← hret]; exact hM
              rcases hc with rfl | ⟨rfl, hc⟩
              · have w1 := hts _ (hn _ List.mem_cons_self)
                have w2 := hts _ (hn _ (List.mem_cons_of_mem _ List.mem_cons_self))
                have w3 := hts _ (hn _ (List.mem_cons_of_mem _ (List.mem_cons_of_mem _ List.mem_cons_self)))
                exact va_runI (As := As.map (cv ad b adK)) (rest := rest.map (cv ad b adK)) (own := mC y) ⟨hxe, hb, hml, hown, hts⟩ hM2 (cwI (mA x - 1) hts hgood2 rfl rfl rfl w3 w1 w2 hnm ⟨hm1, hm2, hpar⟩ ⟨Nat.le_trans hh hH, Nat.le_trans hwd hW⟩) ⟨PX.blind, hpre⟩ rfl hlen hL.2.1.1 hst2 (lv_room h8) hd ⟨by omega, by omega⟩
              · have w2 := hts _ (hn _ List.mem_cons_self)
                have w3 := hts _ (hn _ (List.mem_cons_of_mem _ List.mem_cons_self))
                exact va_runIN (As := As.map (cv ad b adK)) (rest := rest.map (cv ad b adK)) (own := mC y) ⟨hxe, hb, hml, hown, hts⟩ hM2 ⟨va_cnB (mA x - 1) hts hgood2 rfl rfl rfl (hK.2.2.1 _ hc) w3 ⟨hm1, hm2, hpar⟩ ⟨Nat.le_trans hh hH, Nat.le_trans hwd hW⟩, hnm, w2⟩ ⟨PX.blind, hpre⟩ rfl hlen hL.2.1.1 hst2 (lv_room h8) hd ⟨by omega, by omega⟩
      refine run_go hrun (fun v U t L0 hU0 hq hL0 => ?_)
      obtain ⟨⟨v', ad', r, S', I', L', ho, hRV, hP, hG', hR'⟩, hFr⟩ := hq
      cases ho
      rw [show va_F (AO base) U t = (U.heap.size ≤ t.heap.size ∧ ∀ q : Nat, q < U.heap.size → ¬ AO base q → t.heap[q]? = U.heap[q]?) from rfl, hU0] at hFr
      have hn' : S.n ≤ S'.n := hG'.1
      have ek : ∀ k, k < S.n → S'.kd k = S.kd k := fun k hk => (hG'.2 k hk).1
      have ea : ∀ k, k < S.n → ad' k = ad k := fun k hk => (hG'.2 k hk).2
      have kk := k2 r S' I' L' hP T G p e R s m args below meth c Q hF hfin ad' t.heap (locs ++ L0) lsm (cells + z) (slots + u) ⟨Nat.le_trans hG.1 hn', fun k hk => ?_⟩ ⟨hR'.1, hR'.2.1, hR'.2.2.1, hR'.2.2.2.1, hR'.2.2.2.2.1, hR'.2.2.2.2.2.1, ?_, hR.2.2.2.2.2.2.2⟩ ⟨Nat.le_trans hS.1 hFr.1, fun q g1 g2 => ?_, fun q hq => ?_⟩ (hL.ext (S' := (S'.n, S'.kd, S'.rf, S.bc - z, S.bs - u)) hn' ek ea) ?_ ?_ ?_
      · have e2 : v.toList ++ rest.map (cv ad b adK) = (pushR (mS x) r rest).map (cv ad' b adK) := by
          cases v with
          | none =>
            have h0 : mS x = 0 := hRV
            rw [h0]
            show rest.map (cv ad b adK) = rest.map (cv ad' b adK)
            rw [map_ext hOr ea]
          | some v =>
            obtain ⟨h0, rfl, h3⟩ := hRV
            obtain ⟨q, hq⟩ : ∃ q, mS x = q + 1 := ⟨mS x - 1, by omega⟩
            rw [hq]
            show cv ad' b adK r :: rest.map (cv ad b adK) = (r :: rest).map (cv ad' b adK)
            rw [List.map_cons, map_ext hOr ea]
        rw [e2]
        exact kk
      · obtain ⟨g1, g2⟩ := hG.2 k hk
        have hkn : k < S.n := Nat.lt_of_lt_of_le hk hG.1
        exact ⟨(ek k hkn).trans g1, (ea k hkn).trans g2⟩
      · have q1 := hR'.2.2.2.2.2.2.1
        have q2 := hR.2.2.2.2.2.2.1
        show S'.n + (S.bc - z) ≤ T
        omega
      · rw [hFr.2 q (Nat.lt_of_lt_of_le g1 hS.1) g2]
        exact hS.2.1 q g1 g2
      · rcases List.mem_append.mp hq with h | h
        · exact hS.2.2 q h
        · exact hL0 q h
      · have hr0 : ∀ v ∈ rest, okV (S'.n, S'.kd, S'.rf, S.bc - z, S.bs - u) v := fun v hv => okV_ext (hOr v hv) hn' ek
        cases v with
        | none =>
          have h0 : mS x = 0 := hRV
          rw [h0]
          exact hr0
        | some v =>
          obtain ⟨h0, rfl, h3⟩ := hRV
          obtain ⟨q, hq⟩ : ∃ q, mS x = q + 1 := ⟨mS x - 1, by omega⟩
          rw [hq]
          exact ok1 h3 hr0
      · show cells + z + (S.bc - z) ≤ R.cells
        omega
      · show slots + u + (S.bs - u) ≤ R.slots
        omega
theorem mx_cl (hC : CodeOK) (hw : LayW) (hT : TabOK) : ClD (MX l D cA base b Ls xs adK adV) := by
  refine ⟨fun y pc ls st S I L K a hf k => ?_, fun y pc ls ls' st S I L K hl k T G p e R s m args below meth c Q hF hfin ad H locs lsm cells slots hG hR hS hL hO h1 h2 => k T G p e R s m args below meth c Q hF hfin ad H locs lsm cells slots hG hR hS (hL.less hl) hO h1 h2⟩
  obtain ⟨hd, hs, hnd⟩ := hC y pc a hf
  obtain ⟨fam, ins, n, x, z, u, c0, w, sw⟩ := a
  unfold stD at k
  dsimp only at k hd
  cases hb : Nat.ble fam 11 with
  | true =>
    rw [hb] at k
    dsimp only at k
    intro T G p e R s m args below meth c Q hF hfin
    exact lw_com hw hF hd hs (fun q hq => hF.words hnd q hq) (com_mono (fun pc ls st I L q => q T G p e R s m args below meth c Q hF hfin) k)
  | false =>
    rw [hb] at k
    dsimp only at k
    by_cases h12 : fam = 12
    · subst h12
      rw [dyn_12] at k
      have h1 : n = 1 := (s12 hs).1
      subst h1
      exact mx_ret hT hd hs k
    · by_cases h13 : fam = 13
      · subst h13
        rw [dyn_13] at k
        cases hr : callR st ins x with
        | none => rw [hr] at k; exact k.elim
        | some r =>
          rw [hr] at k
          obtain ⟨k1, k2, P, k3, k4⟩ := k
          exact mx_call hd hs (fun q hq => tg_in (hnd q hq).1 (hnd q hq).2) hr k1 k2 k3 k4
      · rw [dyn_o h12 h13] at k
        intro T G p e R s m args below meth c Q hF hfin
        cases hr : refR pc ls st S I L fam n x z c0 with
        | none => rw [hr] at k; exact k.elim
        | some r =>
          rw [hr] at k
          dsimp only at k
          unfold refR at hr
          split at hr
          · split at hr
            · split at hr
              · rename_i ht
                cases hr
                exact lw_getR hw hF hd hs (fun q hq => hF.words hnd q hq) ht (fun q => k q T G p e R s m args below meth c Q hF hfin)
              · cases hr
            · cases hr
          · split at hr
            · split at hr
              · rename_i ht
                cases hr
                exact lw_putR hw hF hd hs (fun q hq => hF.words hnd q hq) (and2 ht).1 (fun q => k q T G p e R s m args below meth c Q hF hfin)
              · cases hr
            · cases hr
          · split at hr
            · split at hr
              · rename_i ht
                cases hr
                obtain ⟨rfl, rfl⟩ := s16 hs
                exact lw_aald hF hd (tS3 ht) k.1 (fun q => k.2 q T G p e R s m args below meth c Q hF hfin)
              · cases hr
            · cases hr
          · split at hr
            · split at hr
              · rename_i ht
                cases hr
                obtain ⟨rfl, rfl⟩ := s17 hs
                obtain ⟨g1, g2⟩ := and2 ht
                exact lw_aast hF hd (tS3 g1) (beq_t g2) k.1 (k.2 T G p e R s m args below meth c Q hF hfin)
              · cases hr
            · cases hr
          · cases hr
            exact lw_new hw hF hd hs (fun q hq => hF.words hnd q hq) k.1 (k.2 T G p e R s m args below meth c Q hF hfin)
          · split at hr
            · cases hr
              exact lw_newa hF hd hs (fun q hq => hF.words hnd q hq) k.1 (k.2 T G p e R s m args below meth c Q hF hfin)
            · cases hr
          · split at hr
            · cases hr
              exact lw_newq hF hd hs (fun q hq => hF.words hnd q hq) k.1 (k.2 T G p e R s m args below meth c Q hF hfin)
            · cases hr
          · split at hr
            · cases hr
              exact lw_newd hF hd hs (fun q hq => hF.words hnd q hq) k.1 (k.2 T G p e R s m args below meth c Q hF hfin)
            · cases hr
          · cases hr
end MACH2
