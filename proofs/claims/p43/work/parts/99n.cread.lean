/-! TEXTS: the class accepts a number, tells a line -/
theorem vilC_kd {c x k : Nat} {v : Vil} {I : MI} (hx : x < 16) (h : vilC c v I) : vilC c (setKd v x k) (sI I (c + 1) x (nI k)) := by
  obtain ⟨h1, h2, h3⟩ := h
  refine ⟨?_, fun p hp => ⟨?_, ?_⟩, fun t ht => ?_⟩
  · rw [sI_c (by omega)]
    exact h1
  · show _ = nI (if p = x then k else v.kd p)
    by_cases e : p = x
    · rw [if_pos e, e, sI_at]
    · rw [if_neg e, sI_j e]
      exact (h2 p hp).1
  · rw [sI_c (by omega)]
    exact (h2 p hp).2
  · rw [sI_c (by omega), sI_c (by omega), sI_c (by omega), sI_c (by omega)]
    exact h3 t ht
theorem vilC_db {c x k : Nat} {v : Vil} {I : MI} (hx : x < 16) (h : vilC c v I) : vilC c (setDb v x k) (sI I (c + 2) x (nI k)) := by
  obtain ⟨h1, h2, h3⟩ := h
  refine ⟨?_, fun p hp => ⟨?_, ?_⟩, fun t ht => ?_⟩
  · rw [sI_c (by omega)]
    exact h1
  · rw [sI_c (by omega)]
    exact (h2 p hp).1
  · show _ = nI (if p = x then k else v.db p)
    by_cases e : p = x
    · rw [if_pos e, e, sI_at]
    · rw [if_neg e, sI_j e]
      exact (h2 p hp).2
  · rw [sI_c (by omega), sI_c (by omega), sI_c (by omega), sI_c (by omega)]
    exact h3 t ht
theorem c_accept {y : Nat → Nat} {n w i a : Nat} {S : Sm} {I : MI} {L : ML} (hi : i < 14) (ha : a ≤ 600) (k2 : kin y n w = 2) (R : RT y n w I) (C : RC S a I) (H : SmI S) (N : nbI i a S) {K : Bool → MI → ML → Prop} (hK : ∀ I', tfr I I' → RC (accW i a (nmb y n w) w S) (a + 1) I' → K true I' L) : CV m_Reader_accept [vr 13 139, vi (nI i), vi (nI a)] true I L K := by
  have hx := nmb_le k2
  have e8 := R.2.2.2 k2
  refine v_Reader_accept_0 (c_mayBe hi ha hx e8 C N (fun c hc => ?_))
  cases c with
  | false =>
    refine ⟨fun z => absurd rfl z, fun _ => c_blame (k := 2) H.1 R C (fun I' f r => hK I' f ?_) (by decide)⟩
    by_cases h0 : S.fl = 0
    · unfold accW
      rw [if_pos h0, if_neg (by rw [← hc h0]; exact Bool.false_ne_true)]
      exact ⟨r.1, fun q => absurd q (blm_fl (by decide))⟩
    · unfold accW
      rw [if_neg h0]
      unfold blm at r
      rw [if_neg h0] at r
      exact ⟨r.1, fun q => absurd q h0⟩
  | true =>
    refine ⟨fun _ => ?_, fun z => absurd (by decide) z⟩
    -- with the number kept, the greatest, the kind
    have fin : ∀ I1 : MI, tfr I I1 → (I1 139 2 = I 139 2 ∧ I1 139 3 = I 139 3) → (S.fl = 0 → I1 139 9 = nI (if isPW i a = true then (if S.gr < nmb y n w then nmb y n w else S.gr) else S.gr) ∧ (∀ c, c ≠ 139 → c ≠ 152 → I1 c = I c) ∧ ∀ j, j < a + 1 → j < 4 → I1 152 j = nI (if j = a then nmb y n w else S.nb j)) → CI m_Reader_isKind [vi (nI i)] true I1 L (fun v_3 b_3 I_3 L_3 => ((v_3 = 0 → K b_3 I_3 L_3) ∧ (¬ v_3 = 0 → ((¬ (I_3 139 2) = 0 → K b_3 I_3 L_3) ∧ (¬ (¬ (I_3 139 2) = 0) → (vp_in (I_3 139 8) 16 ∧ K b_3 (sI I_3 141 ((I_3 139 8).toNatClampNeg) (nI i - (1 : Int32))) L_3)))))) := by
      intro I1 f1 g1 g2
      have e81 : I1 139 8 = nI (nmb y n w) := (f1.2 8 (by omega) (by omega)).trans e8
      have flq : I1 139 2 = nI S.fl := g1.1.trans C.1.1
      have plq : I1 139 3 = if S.fl = 0 then nM else nI S.pl := g1.2.trans C.1.2
      refine c_isKind hi ?_
      by_cases h0 : S.fl = 0
      · obtain ⟨q1, q2, q3⟩ := g2 h0
        obtain ⟨r1, r2, r3, r4⟩ := C.2 h0
        have ea : accW i a (nmb y n w) w S = mkS 0 S.pl (if isPW i a = true then (if S.gr < nmb y n w then nmb y n w else S.gr) else S.gr) (if isKW i = true then setKd S.vv (nmb y n w) (i - 1) else S.vv) S.tt (fun j => if j = a then nmb y n w else S.nb j) := by
          unfold accW
          rw [if_pos h0, if_pos (hc h0).symm]
        rw [ea] at hK
        have v1 : vilC 140 S.vv I1 := vilC_fr (fun c c1 c2 => q2 c (by omega) (by omega)) r2
        have t1 : telC 147 S.tt I1 := telC_fr (fun c c1 c2 => q2 c (by omega) (by omega)) r3
        cases hk : isKW i with
        | false =>
          rw [hk] at hK
          refine ⟨fun _ => hK I1 f1 ⟨⟨?_, ?_⟩, fun _ => ⟨q1, v1, t1, q3⟩⟩, fun z => absurd rfl z⟩
          · rw [flq, h0]
            rfl
          · rw [plq, if_pos h0]
            rfl
        | true =>
          rw [hk] at hK
          have hx16 := (mayW_P (isKW_P (a := a) hk) (hc h0).symm).1
          have hk2 := of_decide_eq_true hk
          refine ⟨fun z => absurd z (by decide), fun _ => ⟨fun z => absurd (by rw [flq, h0]; rfl) z, fun _ => ⟨by rw [e81, n_in (by omega)]; omega, ?_⟩⟩⟩
          rw [e81, n_cl (by omega), show nI i - (1 : Int32) = nI (i - 1) from n_sub (b := 1) (by omega)]
          refine hK _ (f1.trans (tfr_s (by omega))) ⟨⟨?_, ?_⟩, fun _ => ⟨?_, ?_, ?_, fun j hj hj4 => ?_⟩⟩
          · rw [sI_c (by omega), flq, h0]
            rfl
          · rw [sI_c (by omega), plq, if_pos h0]
            rfl
          · rw [sI_c (by omega)]
            exact q1
          · exact vilC_kd (c := 140) hx16 v1
          · exact telC_fr (fun c c1 c2 => sI_c (by omega)) t1
          · rw [sI_c (by omega)]
            exact q3 j hj hj4
      · have ea : accW i a (nmb y n w) w S = S := by
          unfold accW
          rw [if_neg h0]
        rw [ea] at hK
        have go : K true I1 L := hK I1 f1 ⟨⟨flq, plq⟩, fun q => absurd q h0⟩
        refine ⟨fun _ => go, fun _ => ⟨fun _ => go, fun z => absurd ?_ z⟩⟩
        have := H.1
        rw [flq, show (0 : Int32) = nI 0 from rfl, n_eq (by omega) (by omega)]
        exact h0
    -- the greatest one told of
    have gre : ∀ I1 : MI, tfr I I1 → (I1 139 2 = I 139 2 ∧ I1 139 3 = I 139 3) → (S.fl = 0 → I1 139 9 = nI S.gr ∧ (∀ c, c ≠ 139 → c ≠ 152 → I1 c = I c) ∧ ∀ j, j < a + 1 → j < 4 → I1 152 j = nI (if j = a then nmb y n w else S.nb j)) → CI m_Reader_isPerson [vi (nI i), vi (nI a)] true I1 L (fun v_5 b_5 I_5 L_5 => ((v_5 = 0 → CI m_Reader_isKind [vi (nI i)] b_5 I_5 L_5 (fun v_6 b_6 I_6 L_6 => ((v_6 = 0 → K b_6 I_6 L_6) ∧ (¬ v_6 = 0 → ((¬ (I_6 139 2) = 0 → K b_6 I_6 L_6) ∧ (¬ (¬ (I_6 139 2) = 0) → (vp_in (I_6 139 8) 16 ∧ K b_6 (sI I_6 141 ((I_6 139 8).toNatClampNeg) (nI i - (1 : Int32))) L_6))))))) ∧ (¬ v_5 = 0 → CI m_Reader_isKind [vi (nI i)] b_5 (sI I_5 139 9 (if (I_5 139 9) < (I_5 139 8) then (I_5 139 8) else (I_5 139 9))) L_5 (fun v_7 b_7 I_7 L_7 => ((v_7 = 0 → K b_7 I_7 L_7) ∧ (¬ v_7 = 0 → ((¬ (I_7 139 2) = 0 → K b_7 I_7 L_7) ∧ (¬ (¬ (I_7 139 2) = 0) → (vp_in (I_7 139 8) 16 ∧ K b_7 (sI I_7 141 ((I_7 139 8).toNatClampNeg) (nI i - (1 : Int32))) L_7))))))))) := by
      intro I1 f1 g1 g2
      have e81 : I1 139 8 = nI (nmb y n w) := (f1.2 8 (by omega) (by omega)).trans e8
      refine c_isPerson hi ha ?_
      cases hp : isPW i a with
      | false =>
        refine ⟨fun _ => fin I1 f1 g1 (fun h0 => ?_), fun z => absurd rfl z⟩
        rw [if_neg (by rw [hp]; exact Bool.false_ne_true)]
        exact g2 h0
      | true =>
        refine ⟨fun z => absurd z (by decide), fun _ => fin _ (f1.trans (tfr_s (by omega))) ⟨by rw [sI_j (by omega)]; exact g1.1, by rw [sI_j (by omega)]; exact g1.2⟩ (fun h0 => ?_)⟩
        obtain ⟨q1, q2, q3⟩ := g2 h0
        have g15 := (H.2 h0).1
        rw [if_pos hp]
        refine ⟨?_, fun c c1 c2 => by rw [sI_c c1, q2 c c1 c2], fun j hj hj4 => by rw [sI_c (by omega)]; exact q3 j hj hj4⟩
        rw [sI_at, q1, e81]
        by_cases c : S.gr < nmb y n w
        · rw [if_pos c, if_pos (by rw [n_lt (by omega) (by omega)]; exact c)]
        · rw [if_neg c, if_neg (by rw [n_lt (by omega) (by omega)]; exact c)]
    rw [show Int32.ofNat 4 = nI 4 from rfl, n_le (by omega) (by omega)]
    refine ⟨fun c4 => gre I tfr_0 ⟨rfl, rfl⟩ (fun h0 => ?_), fun c4 => ⟨by rw [n_in (by omega)]; omega, ?_⟩⟩
    · obtain ⟨r1, r2, r3, r4⟩ := C.2 h0
      refine ⟨r1, fun _ _ _ => rfl, fun j hj hj4 => ?_⟩
      rw [if_neg (by omega)]
      exact r4 j (by omega) hj4
    · rw [n_cl (by omega), e8]
      refine gre _ (tfr_s (by omega)) ⟨by rw [sI_c (by omega)], by rw [sI_c (by omega)]⟩ (fun h0 => ?_)
      obtain ⟨r1, r2, r3, r4⟩ := C.2 h0
      refine ⟨by rw [sI_c (by omega)]; exact r1, fun c c1 c2 => sI_c c2, fun j hj hj4 => ?_⟩
      by_cases e : j = a
      · rw [if_pos e, e, sI_at]
      · rw [if_neg e, sI_j e]
        exact r4 j (by omega) hj4
theorem c_addTieR {m a c d s : Nat} (hm : m ≤ 40) {b : Bool} {I : MI} {L : ML} {K : Bool → MI → ML → Prop} (e3 : I 140 3 = nI m) (hK : K b (sI (sI (sI (sI (sI I 143 m (nI a)) 144 m (nI c)) 145 m (nI d)) 146 m (nI s)) 140 3 (nI (m + 1))) L) : CV m_Village_addTie [vr 19 140, vi (nI a), vi (nI c), vi (nI d), vi (nI s)] b I L K := by
  refine v_Village_addTie_0 ⟨fun _ => ?_, fun q => absurd (by rw [e3, show (41 : Int32) = nI 41 from rfl, n_lt (by omega) (by omega)]; omega) q⟩
  simp only [Nat.reduceAdd]
  simp (disch := first | omega | assumption) only [sI_at, sI_c, sI_j, aI_at, aI_c, sL_at, sL_c, sL_j, e3, n_cl]
  rw [show nI m + (1 : Int32) = nI (m + 1) from n_add m 1]
  have hv : vp_in (nI m) 41 := by
    rw [n_in (by omega)]
    omega
  exact ⟨hv, hv, hv, hv, hK⟩
theorem c_addActR {m so a c : Nat} {d : Int32} (hm : m < 30) {b : Bool} {I : MI} {L : ML} {K : Bool → MI → ML → Prop} (e3 : I 147 0 = nI m) (hK : K b (sI (sI (sI (sI (sI I 148 m (nI so)) 149 m (nI a)) 150 m (nI c)) 151 m d) 147 0 (nI (m + 1))) L) : CV m_Telling_addAct [vr 18 147, vi (nI so), vi (nI a), vi (nI c), vi d] b I L K := by
  refine v_Telling_addAct_0 ⟨fun _ => ?_, fun q => absurd (by rw [e3, show (30 : Int32) = nI 30 from rfl, n_lt (by omega) (by omega)]; omega) q⟩
  simp only [Nat.reduceAdd]
  simp (disch := first | omega | assumption) only [sI_at, sI_c, sI_j, aI_at, aI_c, sL_at, sL_c, sL_j, e3, n_cl]
  rw [show nI m + (1 : Int32) = nI (m + 1) from n_add m 1]
  have hv : vp_in (nI m) 30 := by
    rw [n_in (by omega)]
    omega
  exact ⟨hv, hv, hv, hv, hK⟩
theorem vilC_tie {v : Vil} {a c d s : Nat} {I : MI} (h : vilC 140 v I) : vilC 140 (addG v a c d s) (sI (sI (sI (sI (sI I 143 v.m (nI a)) 144 v.m (nI c)) 145 v.m (nI d)) 146 v.m (nI s)) 140 3 (nI (v.m + 1))) := by
  obtain ⟨⟨g1, g2, g3, g4, g5⟩, g6, g7⟩ := h
  simp only [Nat.reduceAdd] at g6 g7
  refine ⟨⟨?_, ?_, ?_, ?_, ?_⟩, fun p hp => ?_, fun k hk => ?_⟩
  · rw [sI_j (by omega), sI_c (by omega), sI_c (by omega), sI_c (by omega), sI_c (by omega)]
    exact g1
  · rw [sI_at]
    rfl
  · rw [sI_j (by omega), sI_c (by omega), sI_c (by omega), sI_c (by omega), sI_c (by omega)]
    exact g3
  · rw [sI_j (by omega), sI_c (by omega), sI_c (by omega), sI_c (by omega), sI_c (by omega)]
    exact g4
  · rw [sI_j (by omega), sI_c (by omega), sI_c (by omega), sI_c (by omega), sI_c (by omega)]
    exact g5
  · simp only [Nat.reduceAdd]
    obtain ⟨z1, z2⟩ := g6 p hp
    refine ⟨?_, ?_⟩
    · rw [sI_c (by omega), sI_c (by omega), sI_c (by omega), sI_c (by omega), sI_c (by omega)]
      exact z1
    · rw [sI_c (by omega), sI_c (by omega), sI_c (by omega), sI_c (by omega), sI_c (by omega)]
      exact z2
  · have hk : k < v.m + 1 := hk
    show _ = nI (if k = v.m then a else v.fr k) ∧ _ = nI (if k = v.m then c else v.to k) ∧ _ = nI (if k = v.m then d else v.dy k) ∧ _ = nI (if k = v.m then s else v.st k)
    simp only [Nat.reduceAdd]
    by_cases q : k = v.m
    · subst q
      rw [if_pos rfl, if_pos rfl, if_pos rfl, if_pos rfl]
      refine ⟨?_, ?_, ?_, ?_⟩
      · rw [sI_c (by omega), sI_c (by omega), sI_c (by omega), sI_c (by omega), sI_at]
      · rw [sI_c (by omega), sI_c (by omega), sI_c (by omega), sI_at]
      · rw [sI_c (by omega), sI_c (by omega), sI_at]
      · rw [sI_c (by omega), sI_at]
    · obtain ⟨z1, z2, z3, z4⟩ := g7 k (by omega)
      rw [if_neg q, if_neg q, if_neg q, if_neg q]
      refine ⟨?_, ?_, ?_, ?_⟩
      · rw [sI_c (by omega), sI_c (by omega), sI_c (by omega), sI_c (by omega), sI_j q]
        exact z1
      · rw [sI_c (by omega), sI_c (by omega), sI_c (by omega), sI_j q, sI_c (by omega)]
        exact z2
      · rw [sI_c (by omega), sI_c (by omega), sI_j q, sI_c (by omega), sI_c (by omega)]
        exact z3
      · rw [sI_c (by omega), sI_j q, sI_c (by omega), sI_c (by omega), sI_c (by omega)]
        exact z4
theorem telC_act {t : Tel} {so a c d : Nat} {d' : Int32} {I : MI} (hd : d' = if so = 2 then nI d else nM) (h : telC 147 t I) : telC 147 (addA t so a c d) (sI (sI (sI (sI (sI I 148 t.n (nI so)) 149 t.n (nI a)) 150 t.n (nI c)) 151 t.n d') 147 0 (nI (t.n + 1))) := by
  obtain ⟨g1, g7⟩ := h
  simp only [Nat.reduceAdd] at g7
  refine ⟨by rw [sI_at]; rfl, fun k hk => ?_⟩
  have hk : k < t.n + 1 := hk
  show _ = nI (if k = t.n then so else t.so k) ∧ _ = nI (if k = t.n then a else t.a k) ∧ _ = nI (if k = t.n then c else t.b k) ∧ _ = (if (if k = t.n then so else t.so k) = 2 then nI (if k = t.n then d else t.c k) else nM)
  simp only [Nat.reduceAdd]
  by_cases q : k = t.n
  · subst q
    rw [if_pos rfl, if_pos rfl, if_pos rfl, if_pos rfl]
    refine ⟨?_, ?_, ?_, ?_⟩
    · rw [sI_c (by omega), sI_c (by omega), sI_c (by omega), sI_c (by omega), sI_at]
    · rw [sI_c (by omega), sI_c (by omega), sI_c (by omega), sI_at]
    · rw [sI_c (by omega), sI_c (by omega), sI_at]
    · rw [sI_c (by omega), sI_at]
      exact hd
  · obtain ⟨z1, z2, z3, z4⟩ := g7 k (by omega)
    rw [if_neg q, if_neg q, if_neg q, if_neg q]
    refine ⟨?_, ?_, ?_, ?_⟩
    · rw [sI_c (by omega), sI_c (by omega), sI_c (by omega), sI_c (by omega), sI_j q]
      exact z1
    · rw [sI_c (by omega), sI_c (by omega), sI_c (by omega), sI_j q, sI_c (by omega)]
      exact z2
    · rw [sI_c (by omega), sI_c (by omega), sI_j q, sI_c (by omega), sI_c (by omega)]
      exact z3
    · rw [sI_c (by omega), sI_j q, sI_c (by omega), sI_c (by omega), sI_c (by omega)]
      exact z4
theorem vp41' : vp_in (1 : Int32) 4 ∧ vp_in (2 : Int32) 4 ∧ vp_in (3 : Int32) 4 := by
  refine ⟨?_, ?_, ?_⟩
  · rw [show (1 : Int32) = nI 1 from rfl, n_in (by omega)]
    omega
  · rw [show (2 : Int32) = nI 2 from rfl, n_in (by omega)]
    omega
  · rw [show (3 : Int32) = nI 3 from rfl, n_in (by omega)]
    omega
theorem c_tellR {i a : Nat} {S : Sm} {I : MI} {L : ML} (hi : i < 14) (ha : needW i ≤ a) (h0 : S.fl = 0) (C : RC S a I) (N : nbI i a S) {b : Bool} {K : Bool → MI → ML → Prop} (hK : ∀ I', tfr I I' → RC (telW i S) 0 I' → K b I' L) : CV m_Reader_tell [vr 13 139, vi (nI i)] b I L K := by
  obtain ⟨k1, k2⟩ := N h0
  obtain ⟨r1, r2, r3, r4⟩ := C.2 h0
  obtain ⟨v41, v42, v43⟩ := vp41'
  have v40 := vp40
  have ew : telW i S = mkS 0 S.pl S.gr (telV i S) (telT i S) S.nb := if_pos h0
  rw [ew] at hK
  have fin : ∀ I' : MI, tfr I I' → I' 139 2 = I 139 2 → I' 139 3 = I 139 3 → I' 139 9 = I 139 9 → vilC 140 (telV i S) I' → telC 147 (telT i S) I' → K b I' L := fun I' f q2 q3 q9 v t => hK I' f ⟨⟨by rw [q2, C.1.1, h0]; rfl, by rw [q3, C.1.2, if_pos h0]; rfl⟩, fun _ => ⟨q9.trans r1, v, t, fun j hj => absurd hj (Nat.not_lt_zero _)⟩⟩
  have noK : ∀ k, 1 ≤ k → k ≤ 6 → i = k → K b I L := fun k h1 h2 e => by
    have eV : telV i S = S.vv := by
      unfold telV
      rw [if_neg (by omega), if_neg (by omega), if_neg (by omega), if_neg (by omega), if_neg (by omega)]
    have eT : telT i S = S.tt := if_neg (by omega)
    rw [eV, eT] at fin
    exact fin I tfr_0 rfl rfl rfl r2 r3
  -- an act
  have act : ∀ (d : Int32) (x : Nat), 11 ≤ i → d = (if i - 11 = 2 then nI x else nM) → x = (if i = 13 then S.nb 2 else 0) → 2 ≤ a → CV m_Telling_addAct [vr 18 147, vi (nI i - (11 : Int32)), vi (I 152 (((0 : Int32)).toNatClampNeg)), vi (I 152 (((1 : Int32)).toNatClampNeg)), vi d] b I L (fun b_1 I_1 L_1 => K b_1 I_1 L_1) := fun d x h11 hd hx ha2 => by
    have hn : S.tt.n < 30 := by
      refine Nat.not_le.mp (fun z => ?_)
      unfold fulB at k1
      rw [decide_eq_true (⟨h11, z⟩ : 11 ≤ i ∧ 30 ≤ S.tt.n), Bool.or_true] at k1
      cases k1
    have eV : telV i S = S.vv := by
      unfold telV
      rw [if_neg (by omega), if_neg (by omega), if_neg (by omega), if_neg (by omega), if_neg (by omega)]
    have eT : telT i S = addA S.tt (i - 11) (S.nb 0) (S.nb 1) x := by
      unfold telT
      rw [if_pos h11, hx]
    rw [eV, eT] at fin
    rw [show nI i - (11 : Int32) = nI (i - 11) from n_sub (b := 11) h11, show ((0 : Int32)).toNatClampNeg = 0 from rfl, show ((1 : Int32)).toNatClampNeg = 1 from rfl, r4 0 (by omega) (by omega), r4 1 (by omega) (by omega)]
    refine c_addActR hn r3.1 (fin _ ((((((tfr_s (by omega)).trans (tfr_s (by omega))).trans (tfr_s (by omega))).trans (tfr_s (by omega))).trans (tfr_s (by omega)))) ?_ ?_ ?_ (vilC_fr (fun c c1 c2 => ?_) r2) (telC_act hd r3))
    · rw [sI_c (by omega), sI_c (by omega), sI_c (by omega), sI_c (by omega), sI_c (by omega)]
    · rw [sI_c (by omega), sI_c (by omega), sI_c (by omega), sI_c (by omega), sI_c (by omega)]
    · rw [sI_c (by omega), sI_c (by omega), sI_c (by omega), sI_c (by omega), sI_c (by omega)]
    · rw [sI_c (by omega), sI_c (by omega), sI_c (by omega), sI_c (by omega), sI_c (by omega)]
  refine v_Reader_tell_0 ?_
  rcases (by omega : i = 0 ∨ i = 1 ∨ i = 2 ∨ i = 3 ∨ i = 4 ∨ i = 5 ∨ i = 6 ∨ i = 7 ∨ i = 8 ∨ i = 9 ∨ i = 10 ∨ i = 11 ∨ i = 12 ∨ i = 13) with rfl | rfl | rfl | rfl | rfl | rfl | rfl | rfl | rfl | rfl | rfl | rfl | rfl | rfl
  · have ha : 1 ≤ a := ha
    have e0 := r4 0 (by omega) (by omega)
    have g := fin (sI I 140 0 (nI (S.nb 0))) (tfr_s (by omega)) (by rw [sI_c (by omega)]) (by rw [sI_c (by omega)]) (by rw [sI_c (by omega)]) ⟨⟨sI_at _ _ _ _, by rw [sI_j (by omega)]; exact r2.1.2.1, by rw [sI_j (by omega)]; exact r2.1.2.2.1, by rw [sI_j (by omega)]; exact r2.1.2.2.2.1, by rw [sI_j (by omega)]; exact r2.1.2.2.2.2⟩, fun p hp => by rw [sI_c (by omega), sI_c (by omega)]; exact r2.2.1 p hp, fun t ht => by rw [sI_c (by omega), sI_c (by omega), sI_c (by omega), sI_c (by omega)]; exact r2.2.2 t ht⟩ (telC_fr (fun c c1 c2 => sI_c (by omega)) r3)
    refine ⟨fun _ => ⟨v40, ?_⟩, fun z => absurd rfl z⟩
    rw [show ((0 : Int32)).toNatClampNeg = 0 from rfl, e0]
    exact g
  · have g := noK 1 (by omega) (by omega) rfl
    simp (disch := first | omega | assumption) only [n_lit, n_gLt, n_gLe, n_gEq, n_gEq2, n_gLe2, n_gLt2, n_m1, n_add, n_mul, n_lt, n_le, n_eq, n_cl, n_in, n_rem, n_mlt, n_mle, n_ltm, n_lem, n_eqm, n_meq, n_bit, n_shl, n_b0, n_b1, n_sub, n_inT, nT, nF, lT, lF, eT, eF, not_false_eq_true, not_true_eq_false, sI_at, sI_c, sI_j, aI_at, aI_c, sL_at, sL_c, sL_j, true_and, and_true, not_true_eq_false, not_false_eq_true, forall_const, true_implies, false_implies, implies_true, if_true, if_false, ite_true, ite_false, Bool.not_eq_true, Bool.not_eq_false, Bool.true_eq_false, Bool.false_eq_true, false_and, and_false, or_true, true_or, false_or, or_false]
    exact g
  · have g := noK 2 (by omega) (by omega) rfl
    simp (disch := first | omega | assumption) only [n_lit, n_gLt, n_gLe, n_gEq, n_gEq2, n_gLe2, n_gLt2, n_m1, n_add, n_mul, n_lt, n_le, n_eq, n_cl, n_in, n_rem, n_mlt, n_mle, n_ltm, n_lem, n_eqm, n_meq, n_bit, n_shl, n_b0, n_b1, n_sub, n_inT, nT, nF, lT, lF, eT, eF, not_false_eq_true, not_true_eq_false, sI_at, sI_c, sI_j, aI_at, aI_c, sL_at, sL_c, sL_j, true_and, and_true, not_true_eq_false, not_false_eq_true, forall_const, true_implies, false_implies, implies_true, if_true, if_false, ite_true, ite_false, Bool.not_eq_true, Bool.not_eq_false, Bool.true_eq_false, Bool.false_eq_true, false_and, and_false, or_true, true_or, false_or, or_false]
    exact g
  · have g := noK 3 (by omega) (by omega) rfl
    simp (disch := first | omega | assumption) only [n_lit, n_gLt, n_gLe, n_gEq, n_gEq2, n_gLe2, n_gLt2, n_m1, n_add, n_mul, n_lt, n_le, n_eq, n_cl, n_in, n_rem, n_mlt, n_mle, n_ltm, n_lem, n_eqm, n_meq, n_bit, n_shl, n_b0, n_b1, n_sub, n_inT, nT, nF, lT, lF, eT, eF, not_false_eq_true, not_true_eq_false, sI_at, sI_c, sI_j, aI_at, aI_c, sL_at, sL_c, sL_j, true_and, and_true, not_true_eq_false, not_false_eq_true, forall_const, true_implies, false_implies, implies_true, if_true, if_false, ite_true, ite_false, Bool.not_eq_true, Bool.not_eq_false, Bool.true_eq_false, Bool.false_eq_true, false_and, and_false, or_true, true_or, false_or, or_false]
    exact g
  · have g := noK 4 (by omega) (by omega) rfl
    simp (disch := first | omega | assumption) only [n_lit, n_gLt, n_gLe, n_gEq, n_gEq2, n_gLe2, n_gLt2, n_m1, n_add, n_mul, n_lt, n_le, n_eq, n_cl, n_in, n_rem, n_mlt, n_mle, n_ltm, n_lem, n_eqm, n_meq, n_bit, n_shl, n_b0, n_b1, n_sub, n_inT, nT, nF, lT, lF, eT, eF, not_false_eq_true, not_true_eq_false, sI_at, sI_c, sI_j, aI_at, aI_c, sL_at, sL_c, sL_j, true_and, and_true, not_true_eq_false, not_false_eq_true, forall_const, true_implies, false_implies, implies_true, if_true, if_false, ite_true, ite_false, Bool.not_eq_true, Bool.not_eq_false, Bool.true_eq_false, Bool.false_eq_true, false_and, and_false, or_true, true_or, false_or, or_false]
    exact g
  · have g := noK 5 (by omega) (by omega) rfl
    simp (disch := first | omega | assumption) only [n_lit, n_gLt, n_gLe, n_gEq, n_gEq2, n_gLe2, n_gLt2, n_m1, n_add, n_mul, n_lt, n_le, n_eq, n_cl, n_in, n_rem, n_mlt, n_mle, n_ltm, n_lem, n_eqm, n_meq, n_bit, n_shl, n_b0, n_b1, n_sub, n_inT, nT, nF, lT, lF, eT, eF, not_false_eq_true, not_true_eq_false, sI_at, sI_c, sI_j, aI_at, aI_c, sL_at, sL_c, sL_j, true_and, and_true, not_true_eq_false, not_false_eq_true, forall_const, true_implies, false_implies, implies_true, if_true, if_false, ite_true, ite_false, Bool.not_eq_true, Bool.not_eq_false, Bool.true_eq_false, Bool.false_eq_true, false_and, and_false, or_true, true_or, false_or, or_false]
    exact g
  · have g := noK 6 (by omega) (by omega) rfl
    simp (disch := first | omega | assumption) only [n_lit, n_gLt, n_gLe, n_gEq, n_gEq2, n_gLe2, n_gLt2, n_m1, n_add, n_mul, n_lt, n_le, n_eq, n_cl, n_in, n_rem, n_mlt, n_mle, n_ltm, n_lem, n_eqm, n_meq, n_bit, n_shl, n_b0, n_b1, n_sub, n_inT, nT, nF, lT, lF, eT, eF, not_false_eq_true, not_true_eq_false, sI_at, sI_c, sI_j, aI_at, aI_c, sL_at, sL_c, sL_j, true_and, and_true, not_true_eq_false, not_false_eq_true, forall_const, true_implies, false_implies, implies_true, if_true, if_false, ite_true, ite_false, Bool.not_eq_true, Bool.not_eq_false, Bool.true_eq_false, Bool.false_eq_true, false_and, and_false, or_true, true_or, false_or, or_false]
    exact g
  · have ha : 2 ≤ a := ha
    have e0 := r4 0 (by omega) (by omega)
    have e1 := r4 1 (by omega) (by omega)
    have p0 := (mayW_P (i := 7) (a := 0) rfl (k2 0 (by omega) (by omega)).2.1).1
    have g := fin (sI I 142 (S.nb 0) (nI (S.nb 1))) (tfr_s (by omega)) (by rw [sI_c (by omega)]) (by rw [sI_c (by omega)]) (by rw [sI_c (by omega)]) (vilC_db (c := 140) p0 r2) (telC_fr (fun c c1 c2 => sI_c (by omega)) r3)
    simp (disch := first | omega | assumption) only [n_lit, n_gLt, n_gLe, n_gEq, n_gEq2, n_gLe2, n_gLt2, n_m1, n_add, n_mul, n_lt, n_le, n_eq, n_cl, n_in, n_rem, n_mlt, n_mle, n_ltm, n_lem, n_eqm, n_meq, n_bit, n_shl, n_b0, n_b1, n_sub, n_inT, nT, nF, lT, lF, eT, eF, not_false_eq_true, not_true_eq_false, sI_at, sI_c, sI_j, aI_at, aI_c, sL_at, sL_c, sL_j, true_and, and_true, not_true_eq_false, not_false_eq_true, forall_const, true_implies, false_implies, implies_true, if_true, if_false, ite_true, ite_false, Bool.not_eq_true, Bool.not_eq_false, Bool.true_eq_false, Bool.false_eq_true, false_and, and_false, or_true, true_or, false_or, or_false, e0, e1]
    exact g
  · have ha : 4 ≤ a := ha
    have e0 := r4 0 (by omega) (by omega)
    have e1 := r4 1 (by omega) (by omega)
    have e2 := r4 2 (by omega) (by omega)
    have e3 := r4 3 (by omega) (by omega)
    have hm : S.vv.m < 40 := by
      refine Nat.not_le.mp (fun z => ?_)
      unfold fulB at k1
      rw [decide_eq_true (⟨rfl, z⟩ : 8 = 8 ∧ 40 ≤ S.vv.m)] at k1
      cases k1
    have g : CV m_Village_addTie [vr 19 140, vi (nI (S.nb 0)), vi (nI (S.nb 1)), vi (nI (S.nb 2)), vi (nI (S.nb 3))] b I L (fun b_13 I_13 L_13 => K b_13 I_13 L_13) := by
      refine c_addTieR (m := S.vv.m) (by omega) r2.1.2.1 (fin _ ((((((tfr_s (by omega)).trans (tfr_s (by omega))).trans (tfr_s (by omega))).trans (tfr_s (by omega))).trans (tfr_s (by omega)))) ?_ ?_ ?_ (vilC_tie r2) (telC_fr (fun c c1 c2 => ?_) r3))
      · rw [sI_c (by omega), sI_c (by omega), sI_c (by omega), sI_c (by omega), sI_c (by omega)]
      · rw [sI_c (by omega), sI_c (by omega), sI_c (by omega), sI_c (by omega), sI_c (by omega)]
      · rw [sI_c (by omega), sI_c (by omega), sI_c (by omega), sI_c (by omega), sI_c (by omega)]
      · rw [sI_c (by omega), sI_c (by omega), sI_c (by omega), sI_c (by omega), sI_c (by omega)]
    simp (disch := first | omega | assumption) only [n_lit, n_gLt, n_gLe, n_gEq, n_gEq2, n_gLe2, n_gLt2, n_m1, n_add, n_mul, n_lt, n_le, n_eq, n_cl, n_in, n_rem, n_mlt, n_mle, n_ltm, n_lem, n_eqm, n_meq, n_bit, n_shl, n_b0, n_b1, n_sub, n_inT, nT, nF, lT, lF, eT, eF, not_false_eq_true, not_true_eq_false, sI_at, sI_c, sI_j, aI_at, aI_c, sL_at, sL_c, sL_j, true_and, and_true, not_true_eq_false, not_false_eq_true, forall_const, true_implies, false_implies, implies_true, if_true, if_false, ite_true, ite_false, Bool.not_eq_true, Bool.not_eq_false, Bool.true_eq_false, Bool.false_eq_true, false_and, and_false, or_true, true_or, false_or, or_false, e0, e1, e2, e3]
    exact g
  · have ha : 1 ≤ a := ha
    have e0 := r4 0 (by omega) (by omega)
    have g := fin (sI I 140 8 (nI (S.nb 0))) (tfr_s (by omega)) (by rw [sI_c (by omega)]) (by rw [sI_c (by omega)]) (by rw [sI_c (by omega)]) ⟨⟨by rw [sI_j (by omega)]; exact r2.1.1, by rw [sI_j (by omega)]; exact r2.1.2.1, sI_at _ _ _ _, by rw [sI_j (by omega)]; exact r2.1.2.2.2.1, by rw [sI_j (by omega)]; exact r2.1.2.2.2.2⟩, fun p hp => by rw [sI_c (by omega), sI_c (by omega)]; exact r2.2.1 p hp, fun t ht => by rw [sI_c (by omega), sI_c (by omega), sI_c (by omega), sI_c (by omega)]; exact r2.2.2 t ht⟩ (telC_fr (fun c c1 c2 => sI_c (by omega)) r3)
    simp (disch := first | omega | assumption) only [n_lit, n_gLt, n_gLe, n_gEq, n_gEq2, n_gLe2, n_gLt2, n_m1, n_add, n_mul, n_lt, n_le, n_eq, n_cl, n_in, n_rem, n_mlt, n_mle, n_ltm, n_lem, n_eqm, n_meq, n_bit, n_shl, n_b0, n_b1, n_sub, n_inT, nT, nF, lT, lF, eT, eF, not_false_eq_true, not_true_eq_false, sI_at, sI_c, sI_j, aI_at, aI_c, sL_at, sL_c, sL_j, true_and, and_true, not_true_eq_false, not_false_eq_true, forall_const, true_implies, false_implies, implies_true, if_true, if_false, ite_true, ite_false, Bool.not_eq_true, Bool.not_eq_false, Bool.true_eq_false, Bool.false_eq_true, false_and, and_false, or_true, true_or, false_or, or_false, e0]
    exact g
  · have ha : 2 ≤ a := ha
    have e0 := r4 0 (by omega) (by omega)
    have e1 := r4 1 (by omega) (by omega)
    have g := fin (sI (sI I 140 9 (nI (S.nb 0))) 140 10 (nI (S.nb 1))) ((tfr_s (by omega)).trans (tfr_s (by omega))) (by rw [sI_c (by omega), sI_c (by omega)]) (by rw [sI_c (by omega), sI_c (by omega)]) (by rw [sI_c (by omega), sI_c (by omega)]) ⟨⟨by rw [sI_j (by omega), sI_j (by omega)]; exact r2.1.1, by rw [sI_j (by omega), sI_j (by omega)]; exact r2.1.2.1, by rw [sI_j (by omega), sI_j (by omega)]; exact r2.1.2.2.1, by rw [sI_j (by omega), sI_at]; rfl, by rw [sI_at]; rfl⟩, fun p hp => by rw [sI_c (by omega), sI_c (by omega), sI_c (by omega), sI_c (by omega)]; exact r2.2.1 p hp, fun t ht => by rw [sI_c (by omega), sI_c (by omega), sI_c (by omega), sI_c (by omega), sI_c (by omega), sI_c (by omega), sI_c (by omega), sI_c (by omega)]; exact r2.2.2 t ht⟩ (telC_fr (fun c c1 c2 => by rw [sI_c (by omega), sI_c (by omega)]) r3)
    simp (disch := first | omega | assumption) only [n_lit, n_gLt, n_gLe, n_gEq, n_gEq2, n_gLe2, n_gLt2, n_m1, n_add, n_mul, n_lt, n_le, n_eq, n_cl, n_in, n_rem, n_mlt, n_mle, n_ltm, n_lem, n_eqm, n_meq, n_bit, n_shl, n_b0, n_b1, n_sub, n_inT, nT, nF, lT, lF, eT, eF, not_false_eq_true, not_true_eq_false, sI_at, sI_c, sI_j, aI_at, aI_c, sL_at, sL_c, sL_j, true_and, and_true, not_true_eq_false, not_false_eq_true, forall_const, true_implies, false_implies, implies_true, if_true, if_false, ite_true, ite_false, Bool.not_eq_true, Bool.not_eq_false, Bool.true_eq_false, Bool.false_eq_true, false_and, and_false, or_true, true_or, false_or, or_false, e0, e1]
    exact g
  · have g := act nM 0 (by omega) rfl rfl ha
    have g2 : vp_in (0 : Int32) 4 ∧ vp_in (1 : Int32) 4 ∧ CV m_Telling_addAct [vr 18 147, vi (nI 11 - (11 : Int32)), vi (I 152 (((0 : Int32)).toNatClampNeg)), vi (I 152 (((1 : Int32)).toNatClampNeg)), vi (-1 : Int32)] b I L (fun b_1 I_1 L_1 => K b_1 I_1 L_1) := ⟨v40, v41, g⟩
    simp (disch := first | omega | assumption) only [n_lit, n_gLt, n_gLe, n_gEq, n_gEq2, n_gLe2, n_gLt2, n_m1, n_add, n_mul, n_lt, n_le, n_eq, n_cl, n_in, n_rem, n_mlt, n_mle, n_ltm, n_lem, n_eqm, n_meq, n_bit, n_shl, n_b0, n_b1, n_sub, n_inT, nT, nF, lT, lF, eT, eF, not_false_eq_true, not_true_eq_false, sI_at, sI_c, sI_j, aI_at, aI_c, sL_at, sL_c, sL_j, true_and, and_true, not_true_eq_false, not_false_eq_true, forall_const, true_implies, false_implies, implies_true, if_true, if_false, ite_true, ite_false, Bool.not_eq_true, Bool.not_eq_false, Bool.true_eq_false, Bool.false_eq_true, false_and, and_false, or_true, true_or, false_or, or_false] at g2
    simp (disch := first | omega | assumption) only [n_lit, n_gLt, n_gLe, n_gEq, n_gEq2, n_gLe2, n_gLt2, n_m1, n_add, n_mul, n_lt, n_le, n_eq, n_cl, n_in, n_rem, n_mlt, n_mle, n_ltm, n_lem, n_eqm, n_meq, n_bit, n_shl, n_b0, n_b1, n_sub, n_inT, nT, nF, lT, lF, eT, eF, not_false_eq_true, not_true_eq_false, sI_at, sI_c, sI_j, aI_at, aI_c, sL_at, sL_c, sL_j, true_and, and_true, not_true_eq_false, not_false_eq_true, forall_const, true_implies, false_implies, implies_true, if_true, if_false, ite_true, ite_false, Bool.not_eq_true, Bool.not_eq_false, Bool.true_eq_false, Bool.false_eq_true, false_and, and_false, or_true, true_or, false_or, or_false]
    exact g2
  · have g := act nM 0 (by omega) rfl rfl ha
    have g2 : vp_in (0 : Int32) 4 ∧ vp_in (1 : Int32) 4 ∧ CV m_Telling_addAct [vr 18 147, vi (nI 12 - (11 : Int32)), vi (I 152 (((0 : Int32)).toNatClampNeg)), vi (I 152 (((1 : Int32)).toNatClampNeg)), vi (-1 : Int32)] b I L (fun b_1 I_1 L_1 => K b_1 I_1 L_1) := ⟨v40, v41, g⟩
    simp (disch := first | omega | assumption) only [n_lit, n_gLt, n_gLe, n_gEq, n_gEq2, n_gLe2, n_gLt2, n_m1, n_add, n_mul, n_lt, n_le, n_eq, n_cl, n_in, n_rem, n_mlt, n_mle, n_ltm, n_lem, n_eqm, n_meq, n_bit, n_shl, n_b0, n_b1, n_sub, n_inT, nT, nF, lT, lF, eT, eF, not_false_eq_true, not_true_eq_false, sI_at, sI_c, sI_j, aI_at, aI_c, sL_at, sL_c, sL_j, true_and, and_true, not_true_eq_false, not_false_eq_true, forall_const, true_implies, false_implies, implies_true, if_true, if_false, ite_true, ite_false, Bool.not_eq_true, Bool.not_eq_false, Bool.true_eq_false, Bool.false_eq_true, false_and, and_false, or_true, true_or, false_or, or_false] at g2
    simp (disch := first | omega | assumption) only [n_lit, n_gLt, n_gLe, n_gEq, n_gEq2, n_gLe2, n_gLt2, n_m1, n_add, n_mul, n_lt, n_le, n_eq, n_cl, n_in, n_rem, n_mlt, n_mle, n_ltm, n_lem, n_eqm, n_meq, n_bit, n_shl, n_b0, n_b1, n_sub, n_inT, nT, nF, lT, lF, eT, eF, not_false_eq_true, not_true_eq_false, sI_at, sI_c, sI_j, aI_at, aI_c, sL_at, sL_c, sL_j, true_and, and_true, not_true_eq_false, not_false_eq_true, forall_const, true_implies, false_implies, implies_true, if_true, if_false, ite_true, ite_false, Bool.not_eq_true, Bool.not_eq_false, Bool.true_eq_false, Bool.false_eq_true, false_and, and_false, or_true, true_or, false_or, or_false]
    exact g2
  · have ha3 : 3 ≤ a := ha
    have e2 := r4 2 (by omega) (by omega)
    have g := act (nI (S.nb 2)) (S.nb 2) (by omega) rfl rfl (by omega)
    rw [← e2] at g
    have g2 : vp_in (0 : Int32) 4 ∧ vp_in (1 : Int32) 4 ∧ vp_in (2 : Int32) 4 ∧ CV m_Telling_addAct [vr 18 147, vi (nI 13 - (11 : Int32)), vi (I 152 (((0 : Int32)).toNatClampNeg)), vi (I 152 (((1 : Int32)).toNatClampNeg)), vi (I 152 (((2 : Int32)).toNatClampNeg))] b I L (fun b_1 I_1 L_1 => K b_1 I_1 L_1) := ⟨v40, v41, v42, g⟩
    simp (disch := first | omega | assumption) only [n_lit, n_gLt, n_gLe, n_gEq, n_gEq2, n_gLe2, n_gLt2, n_m1, n_add, n_mul, n_lt, n_le, n_eq, n_cl, n_in, n_rem, n_mlt, n_mle, n_ltm, n_lem, n_eqm, n_meq, n_bit, n_shl, n_b0, n_b1, n_sub, n_inT, nT, nF, lT, lF, eT, eF, not_false_eq_true, not_true_eq_false, sI_at, sI_c, sI_j, aI_at, aI_c, sL_at, sL_c, sL_j, true_and, and_true, not_true_eq_false, not_false_eq_true, forall_const, true_implies, false_implies, implies_true, if_true, if_false, ite_true, ite_false, Bool.not_eq_true, Bool.not_eq_false, Bool.true_eq_false, Bool.false_eq_true, false_and, and_false, or_true, true_or, false_or, or_false] at g2
    simp (disch := first | omega | assumption) only [n_lit, n_gLt, n_gLe, n_gEq, n_gEq2, n_gLe2, n_gLt2, n_m1, n_add, n_mul, n_lt, n_le, n_eq, n_cl, n_in, n_rem, n_mlt, n_mle, n_ltm, n_lem, n_eqm, n_meq, n_bit, n_shl, n_b0, n_b1, n_sub, n_inT, nT, nF, lT, lF, eT, eF, not_false_eq_true, not_true_eq_false, sI_at, sI_c, sI_j, aI_at, aI_c, sL_at, sL_c, sL_j, true_and, and_true, not_true_eq_false, not_false_eq_true, forall_const, true_implies, false_implies, implies_true, if_true, if_false, ite_true, ite_false, Bool.not_eq_true, Bool.not_eq_false, Bool.true_eq_false, Bool.false_eq_true, false_and, and_false, or_true, true_or, false_or, or_false]
    exact g2
