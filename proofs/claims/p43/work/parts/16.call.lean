/-! calls and answers; the small machine is sound -/
theorem popN_at : ∀ (n : Nat) (st acc a r : List AV), popN n st acc = some (a, r) → ∃ q, st = q ++ r ∧ q.length = n ∧ a = q.reverse ++ acc
  | 0, st, acc, a, r, h => by
    cases h
    exact ⟨[], rfl, rfl, rfl⟩
  | n + 1, [], acc, a, r, h => by cases h
  | n + 1, v :: st, acc, a, r, h => by
    obtain ⟨q, h1, h2, h3⟩ := popN_at n st (v :: acc) a r h
    exact ⟨v :: q, by rw [h1]; rfl, by rw [List.length_cons, h2], by rw [h3]; simp⟩
theorem gt_pad : ∀ (n : Nat) (l : List AV) (k : Nat), gt (padL n l) k = un ∨ gt (padL n l) k = gt l k
  | 0, _, _ => Or.inl rfl
  | n + 1, [], k => by
    cases k with
    | zero => exact Or.inl rfl
    | succ k =>
      rcases gt_pad n [] k with h | h
      · exact Or.inl h
      · refine Or.inl ?_
        show gt (padL n []) k = un
        rw [h]
        rfl
  | n + 1, a :: l, k => by
    cases k with
    | zero => exact Or.inr rfl
    | succ k => exact gt_pad n l k
theorem pad_len : ∀ (n : Nat) (l : List AV), (padL n l).length = n
  | 0, _ => rfl
  | n + 1, [] => by
    show (padL n []).length + 1 = n + 1
    rw [pad_len n []]
  | n + 1, _ :: l => by
    show (padL n l).length + 1 = n + 1
    rw [pad_len n l]
section ENT
variable {ad : Nat → Nat} {b : Nat} {adK : Nat → Nat} {S : DS}
theorem ent_args : ∀ (as : List AV) (i j : Nat), gt (entL as) j ≠ un → (i + j, cv ad b adK (gt (entL as) j)) ∈ lv_args i (as.map (cv ad b adK)) ∧ gt (entL as) j ∈ as
  | [], i, j, h => absurd rfl h
  | .inl v :: as, i, j, h => by
    cases j with
    | zero => exact ⟨List.mem_cons_self, List.mem_cons_self⟩
    | succ j =>
      obtain ⟨h1, h2⟩ := ent_args as (i + 1) j h
      refine ⟨List.mem_cons_of_mem _ ?_, List.mem_cons_of_mem _ h2⟩
      rw [show i + (j + 1) = i + 1 + j by omega]
      exact h1
  | .inr (.inl v) :: as, i, j, h => by
    match j, h with
    | 0, _ => exact ⟨List.mem_cons_self, List.mem_cons_self⟩
    | 1, h => exact absurd rfl h
    | j + 2, h =>
      obtain ⟨h1, h2⟩ := ent_args as (i + 2) j h
      refine ⟨List.mem_cons_of_mem _ ?_, List.mem_cons_of_mem _ h2⟩
      rw [show i + (j + 2) = i + 2 + j by omega]
      exact h1
  | .inr (.inr r) :: as, i, j, h => by
    cases j with
    | zero => exact ⟨List.mem_cons_self, List.mem_cons_self⟩
    | succ j =>
      obtain ⟨h1, h2⟩ := ent_args as (i + 1) j h
      refine ⟨List.mem_cons_of_mem _ ?_, List.mem_cons_of_mem _ h2⟩
      rw [show i + (j + 1) = i + 1 + j by omega]
      have hc : ¬ (cv ad b adK (.inr (.inr r))).category = 2 := by
        show ¬ (va_rf _).category = 2
        rw [cat_rf]
        decide
      show _ ∈ lv_args (if (cv ad b adK (.inr (.inr r))).category = 2 then i + 2 else i + 1) _
      rw [if_neg hc]
      exact h1
theorem ent_len : ∀ as : List AV, (lg_sl (as.map (cv ad b adK))).length = (entL as).length
  | [] => rfl
  | .inl v :: as => by
    have h := ent_len as
    show (lg_sl (as.map (cv ad b adK))).length + 1 = (entL as).length + 1
    rw [h]
  | .inr (.inl v) :: as => by
    have h := ent_len as
    show (lg_sl (as.map (cv ad b adK))).length + 1 + 1 = (entL as).length + 1 + 1
    rw [h]
  | .inr (.inr r) :: as => by
    have h := ent_len as
    have hc : ¬ (cv ad b adK (.inr (.inr r))).category = 2 := by
      show ¬ (va_rf _).category = 2
      rw [cat_rf]
      decide
    show (lg_sl (cv ad b adK (.inr (.inr r)) :: as.map (cv ad b adK))).length = (entL as).length + 1
    unfold lg_sl at h ⊢
    rw [List.flatMap_cons, if_neg hc, List.length_append, h]
    simp
    omega
theorem LR.entry {as : List AV} {n : Nat} (h : (entL as).length ≤ n) (hO : ∀ v ∈ as, okV S v) : LR ad b adK S n (padL n (entL as)) ((lg_sl (as.map (cv ad b adK)) ++ List.replicate (n - (lg_sl (as.map (cv ad b adK))).length) Slot.unset).toArray) := by
  have hl := lv_entry (as.map (cv ad b adK)) (n := n) (by rw [ent_len]; exact h)
  refine ⟨pad_len _ _, ⟨hl.1, hl.2.1, fun q hq => by cases hq⟩, fun k => ?_⟩
  rcases gt_pad n (entL as) k with e | e
  · exact Or.inl e
  · by_cases hu : gt (entL as) k = un
    · exact Or.inl (e.trans hu)
    · obtain ⟨h1, h2⟩ := ent_args (ad := ad) (b := b) (adK := adK) as 0 k hu
      rw [e]
      refine Or.inr ⟨hO _ h2, ?_⟩
      have h3 := hl.2.2 _ h1
      rw [Nat.zero_add] at h3
      exact h3
end ENT
theorem nest_all : ∀ w ∈ nestW, ∃ a i x h, w = Cond.methodLinkNest a i x h := by
  intro w hw
  unfold nestW at hw
  simp only [List.mem_cons, List.not_mem_nil, or_false] at hw
  rcases hw with rfl | rfl | rfl | rfl | rfl | rfl | rfl | rfl | rfl | rfl | rfl | rfl <;> exact ⟨_, _, _, _, rfl⟩
section KUW
variable {D : va_G} {cA : Nat → ClassId} {base b Ls : Nat} {xs : Nat → Int32} {adK adV : Nat → Nat}
theorem KU.warm {s U : State} (h : KU D cA adK s) (hW : s.WarmedH U.vm) : KU D cA adK U := by
  obtain ⟨h1, h2, h3, h4, h5, h6⟩ := h
  refine ⟨va_K.moved hW.alike h1, fun i hi => vk_R.warm hW (h2 i hi), fun w hw => ?_, va_AO.moved hW.alike h4, va_AO.moved hW.alike h5, va_AO.moved hW.alike h6⟩
  have := h3 w hw
  obtain ⟨a, i, x, hh, rfl⟩ := nest_all w hw
  exact va_Nw.warmM hW this
theorem KU.same {u U : State} (h : KU D cA adK u) (hv : U.vm = u.vm) : KU D cA adK U := by
  have hal : u.vm.Alike U.vm := by rw [hv]; exact Vm.Alike.refl _
  obtain ⟨h1, h2, h3, h4, h5, h6⟩ := h
  refine ⟨va_K.moved hal h1, fun i hi => vk_R.same hv (h2 i hi), fun w hw => ?_, va_AO.moved hal h4, va_AO.moved hal h5, va_AO.moved hal h6⟩
  have := h3 w hw
  obtain ⟨a, i, x, hh, rfl⟩ := nest_all w hw
  exact va_Nw.same rfl hv.symm this
theorem HU.moved {u U : State} {H : Heap} (hvm : u.vm.Alike U.vm) (h : HU base b Ls xs adK adV u H) : HU base b Ls xs adK adV U H := by
  obtain ⟨h1, h2, h3, h4, h5⟩ := h
  refine ⟨h1.moved hvm, h2.moved hvm, h3.moved hvm, ?_, h5.1, h5.2.1, h5.2.2.1.moved hvm, h5.2.2.2.moved hvm⟩
  rcases h4 with h4 | ⟨t, h4⟩
  · exact Or.inl (h4.moved hvm)
  · exact Or.inr ⟨t, h4.moved hvm⟩
theorem HU.kept {U : State} {H H1 : Heap} (h : HU base b Ls xs adK adV U H) (hbs : base ≤ H.size) (hq : ∀ a : Nat, a < H.size → ¬ AO base a → H1[a]? = H[a]?) : HU base b Ls xs adK adV U H1 := by
  obtain ⟨h1, h2, h3, h4, h5, h6⟩ := h
  refine ⟨h1.kept (hq b (Nat.lt_of_lt_of_le h5 hbs) (Nat.not_le.mpr h5)), h2.kept hq, h3.kept hq, ?_, h5, h6.1, h6.2.1.kept hq, h6.2.2.kept hq⟩
  rcases h4 with h4 | ⟨t, h4⟩
  · exact Or.inl (h4.kept hq)
  · exact Or.inr ⟨t, h4.kept hq⟩
end KUW
/-- an answer as the machine has it -/
def RTT (ad : Nat → Nat) (b : Nat) (adK : Nat → Nat) (y : Nat) (S : DS) (ins : Instr) (r : AV) (stk : List Value) : Prop :=
  (mR y = none ∧ mS y = 0 ∧ ins = .return_ ∧ stk = []) ∨ (∃ v, (mR y = some .int ∨ mR y = some .boolean ∧ (v = 0 ∨ v = 1)) ∧ mS y ≠ 0 ∧ ins = .ireturn ∧ r = .inl v ∧ stk = [.int v]) ∨ (∃ v, mR y = some .long ∧ mS y ≠ 0 ∧ ins = .lreturn ∧ r = .inr (.inl v) ∧ stk = [.long v]) ∨ (∃ t k ty, (mR y = some ty ∧ ((∃ n, ty = .object n) ∨ ∃ n, ty = .array n)) ∧ mS y ≠ 0 ∧ ins = .areturn ∧ r = .inr (.inr (t, k)) ∧ okV S r ∧ stk = [cv ad b adK r])
def FIN (D : va_G) (cA : Nat → ClassId) (base b Ls : Nat) (xs : Nat → Int32) (adK : Nat → Nat) (y T : Nat) (G : GT) (p : Program) (l : Launch) (e : Env) (R : Room) (s : State) (m : MethodId) (args : Array Value) (below : List Frame) (meth : Method) (c : Code) (Q : State → Prop) (K : KD) : Prop :=
  ∀ (ad : Nat → Nat) (H : Heap) (locs : List Loc) (lsm : Array Slot) (cells slots pc : Nat) (ins : Instr) (r : AV) (S : DS) (I : MI) (L : ML) (stk : List Value), K r S I L → Gr G S ad → RH D cA base b Ls xs adK T ad S I L H → va_S (AO base) s.heap H locs → RTT ad b adK y S ins r stk → decode (mB y) pc = .ok (ins, 1) → cells ≤ R.cells → slots ≤ R.slots → W p l e R s m args below meth c H locs cells slots Q (F0 m pc lsm stk)
def MX (l : Launch) (D : va_G) (cA : Nat → ClassId) (base b Ls : Nat) (xs : Nat → Int32) (adK adV : Nat → Nat) : XD := fun y pc ls st S I L K =>
  ∀ (T : Nat) (G : GT) (p : Program) (e : Env) (R : Room) (s : State) (m : MethodId) (args : Array Value) (below : List Frame) (meth : Method) (c : Code) (Q : State → Prop), FR D cA base b Ls xs adK adV y p R s m args meth c → FIN D cA base b Ls xs adK y T G p l e R s m args below meth c Q K → LW D cA base b Ls xs adK y T G p l e R s m args below meth c Q pc ls st S I L
/-- what a method's class needs beside its code -/
def TabOK : Prop := ∀ y, mS y = 0 ↔ mR y = none
abbrev WX (x : Nat) : List Cond := .code (mN x) (mB x) (mL x) (mR x) :: TG
abbrev PX (D : va_G) (cA : Nat → ClassId) (base b Ls : Nat) (xs : Nat → Int32) (adK adV : Nat → Nat) (T : Nat) (ad : Nat → Nat) (S : DS) (I : MI) (L : ML) (av : List Value) : Array Value → State → Prop := va_Pc av (fun U => RH D cA base b Ls xs adK T ad S I L U.heap ∧ KU D cA adK U ∧ HU base b Ls xs adK adV U U.heap ∧ base ≤ U.heap.size)
def RV (ad : Nat → Nat) (b : Nat) (adK : Nat → Nat) (y : Nat) (S : DS) (r : AV) : Option Value → Prop
  | none => mS y = 0
  | some v => mS y ≠ 0 ∧ v = cv ad b adK r ∧ okV S r
abbrev QX (D : va_G) (cA : Nat → ClassId) (base b Ls : Nat) (xs : Nat → Int32) (adK : Nat → Nat) (T : Nat) (G : GT) (x : Nat) (P : KD) : Array Value → State → Outcome → State → Prop := fun _ st o t => (∃ (v : Option Value) (ad' : Nat → Nat) (r : AV) (S' : DS) (I' : MI) (L' : ML), o = .returned v ∧ RV ad' b adK x S' r v ∧ P r S' I' L' ∧ Gr G S' ad' ∧ RH D cA base b Ls xs adK T ad' S' I' L' t.heap) ∧ va_F (AO base) st t
section MACH
variable {l : Launch} {D : va_G} {cA : Nat → ClassId} {base b Ls : Nat} {xs : Nat → Int32} {adK adV : Nat → Nat}
theorem mx_met {x T : Nat} {as : List AV} {ad : Nat → Nat} {S : DS} {I : MI} {L : ML} {P : KD} (h : MX l D cA base b Ls xs adK adV x 0 (padL (mL x) (entL as)) [] S I L P) (hp : plainName (mC x) = true) (hlen : (entL as).length ≤ mL x) (hO : ∀ v ∈ as, okV S v) : Met l (mN x) (WX x) ({ frames := mH x, cells := S.bc, slots := S.bs, locals := mW x }) (PX D cA base b Ls xs adK adV T ad S I L (as.map (cv ad b adK))) (QX D cA base b Ls xs adK T (S.n, S.kd, ad) x P) S.bc S.bs (AO base) := by
  refine Met.ofW (cc := mB x) (maxL := mL x) (ret := mR x) hp rfl ?_
  intro p e s m args below meth c s₁ B hml hv
  obtain ⟨rfl, hRH, hKU, hHU, hbs⟩ := hv
  have hts := atoms_spec (ws := WX x) B.pre
  have hF : FR D cA base b Ls xs adK adV x p ({ frames := mH x, cells := S.bc, slots := S.bs, locals := mW x } : Room) s m (as.map (cv ad b adK)).toArray meth c := ⟨B.exec, B.bytes, hml, findClass_of_methodNamed B.named, fun w h1 h2 => hts w (List.mem_cons_of_mem _ (tg_in h1 h2)), hKU, hHU, Nat.le_refl _, Nat.le_refl _, B.notSynchronized, B.returns, fun h => (name_of_methodNamed B.named B.method).1.trans h, hbs⟩
  rw [lg_entry_eq]
  refine h T (S.n, S.kd, ad) p e ({ frames := mH x, cells := S.bc, slots := S.bs, locals := mW x } : Room) s m (as.map (cv ad b adK)).toArray below meth c (MQ below (QX D cA base b Ls xs adK T (S.n, S.kd, ad) x P) (as.map (cv ad b adK)).toArray s S.bc S.bs (AO base)) hF ?_ ad s.heap [] _ 0 0 ⟨Nat.le_refl _, fun k _ => ⟨rfl, rfl⟩⟩ hRH va_S.rf (LR.entry hlen hO) (fun v hv => by cases hv) (Nat.le_of_eq (Nat.zero_add _)) (Nat.le_of_eq (Nat.zero_add _))
  intro ad' H locs lsm cells slots pc ins r S' I' L' stk hK hG hR hS hT hd hc hs
  have hx := B.exec
  have hb := B.bytes
  have hr := B.returns
  have hlocks := B.notSynchronized
  refine W.widen (k := S.bc) (n := S.bs) hc hs ?_
  rcases hT with ⟨t1, t2, rfl, rfl⟩ | ⟨v, t1, t2, rfl, rfl, rfl⟩ | ⟨v, t1, t2, rfl, rfl, rfl⟩ | ⟨t, k, n, t1, t2, rfl, rfl, t3, rfl⟩
  · exact W.vret hx hb (hr.trans t1) (fun t ht _ => ⟨⟨none, ad', r, S', I', L', rfl, t2, hK, hG, by rw [ht]; exact hR⟩, hS.F ht⟩) hS.2.2 hd
  · have hq : ∀ t : State, t.heap = H → s.WarmedH t.vm → QX D cA base b Ls xs adK T (S.n, S.kd, ad) x P (as.map (cv ad b adK)).toArray s (.returned (some (.int v))) t := fun t ht _ => ⟨⟨some (.int v), ad', .inl v, S', I', L', rfl, ⟨t2, rfl, trivial⟩, hK, hG, by rw [ht]; exact hR⟩, hS.F ht⟩
    rcases t1 with t1 | ⟨t1, t3⟩
    · exact W.iret hx hb (hr.trans t1) hq hS.2.2 hd
    · exact W.zret (ty := .boolean) hx hb (hr.trans t1) (by rcases t3 with rfl | rfl <;> rfl) hq hS.2.2 hd
  · exact W.lret hx hb (hr.trans t1) (fun t ht _ => ⟨⟨some (.long v), ad', .inr (.inl v), S', I', L', rfl, ⟨t2, rfl, trivial⟩, hK, hG, by rw [ht]; exact hR⟩, hS.F ht⟩) hS.2.2 hd
  · refine W.aret hx hb (hr.trans t1.1) t1.2 ?_ (fun t' ht _ => ⟨⟨some _, ad', .inr (.inr (t, k)), S', I', L', rfl, ⟨t2, rfl, t3⟩, hK, hG, by rw [ht]; exact hR⟩, hS.F ht⟩) hS.2.2 hd
    show va_rf _ = .null ∨ ∃ a, va_rf _ = .ref a
    cases rfo ad' b adK (.inr (.inr (t, k))) with
    | none => exact Or.inl rfl
    | some a => exact Or.inr ⟨a, rfl⟩
end MACH
