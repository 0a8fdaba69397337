/-- a stretch of a method, to a place of its own -/
def mkT : Nat → Nat → Nat → Nat → List AV → List AV → DS → List OP → Option CS
  | 0, _, _, _, _, _, _, _ => none
  | f + 1, y, stop, pc, ls, st, S, O => match Nat.beq pc stop with
    | true => some (pc, ls, st, S, O)
    | false => match fetch y pc with
      | none => none
      | some (12, _, _, _, _, _, _, _, _) => none
      | some (13, ins, n, x, z, u, _, _, _) => match callR st ins x with
        | none => none
        | some r => if (Nat.ble z S.bc && (Nat.ble u S.bs && Nat.beq (mS x) 0)) = true then (match mkN f x 0 (padL (mL x) (entL r.1)) [] (S.n, S.kd, S.rf, z, u) O with
          | none => none
          | some (S', O') => mkT f y stop (pc + n) ls r.2 (S'.n, S'.kd, S'.rf, S.bc - z, S.bs - u) O') else none
      | some (fam, ins, n, x, z, u, c, w, _) => match mkR pc ls st S O fam ins n x z u c w with
        | none => none
        | some s => mkT f y stop s.1 s.2.1 s.2.2.1 s.2.2.2.1 s.2.2.2.2
theorem mkT_sound (I : MI) (L : ML) (K : KD) : ∀ (f y stop pc : Nat) (ls st : List AV) (S : DS) (O : List OP) (s : CS), mkT f y stop pc ls st S O = some s → DW y s.1 s.2.1 s.2.2.1 s.2.2.2.1 (apI s.2.2.2.2 I) (apL s.2.2.2.2 L) K → DW y pc ls st S (apI O I) (apL O L) K
  | 0, _, _, _, _, _, _, _, _, h, _ => by cases h
  | f + 1, y, stop, pc, ls, st, S, O, s, h, k => by
    unfold mkT at h
    split at h
    · cases h
      exact k
    · split at h
      · cases h
      · cases h
      · rename_i hf
        cases hr : callR st _ _ with
        | none => rw [hr] at h; cases h
        | some r =>
          rw [hr] at h
          dsimp only at h
          split at h
          · rename_i q
            obtain ⟨q1, q2⟩ := and2 q
            obtain ⟨q2, q3⟩ := and2 q2
            split at h
            · cases h
            · rename_i hN
              refine DW_step hf ?_
              unfold stD
              dsimp only
              rw [dyn_13, hr]
              refine ⟨Nat.le_of_ble_eq_true q1, Nat.le_of_ble_eq_true q2, _, mkN_sound I L f _ _ _ _ _ _ _ _ hN, ?_⟩
              rintro v S1 I1 L1 ⟨rfl, rfl, rfl⟩
              rw [beq_t q3]
              exact mkT_sound I L K f _ _ _ _ _ _ _ _ h k
          · cases h
      · rename_i hf
        split at h
        · cases h
        · rename_i hs
          exact DW_step hf (mkR_sound hs (mkT_sound I L K f _ _ _ _ _ _ _ _ h k))
theorem nth_out {α : Type} {d : α} : ∀ (l : List α) (i : Nat), l.length ≤ i → nth d l i = d
  | [], _, _ => rfl
  | _ :: _, 0, h => absurd h (by simp)
  | _ :: l, i + 1, h => nth_out l i (Nat.le_of_succ_le_succ h)
def N1 : Nat := 187
def layB (S : DS) : Bool := (decide (S.n = N1) && decide (S.kd N0 = 164)) && ((List.range N0).all (fun k => decide (S.kd k = kd0 k)) && ((List.range N0).all (fun k => (List.range 60).all (fun x => match lay (kd0 k - 10) x with
  | (1, t, o) => decide (S.rf k x = vr t (k + o))
  | (2, t, o) => decide (S.rf k x = vr t o)
  | _ => true)) && (List.range N0).all (fun k => match decide (tS (kd0 k) / 3 = 1) with
  | true => (List.range (tN (kd0 k))).all (fun i => decide (S.rf k i = vr (layA (tS (kd0 k))).1 (k + (layA (tS (kd0 k))).2.1 + (layA (tS (kd0 k))).2.2 * i)))
  | false => true)))
theorem lay_len : ∀ l ∈ layT, l.length ≤ 60 := by decide +kernel
theorem lay_out (z x : Nat) (h : 60 ≤ x) : lay z x = (0, 0, 0) := by
  unfold lay
  rcases nth_in (d := ([] : List (Nat × Nat × Nat))) layT z with e | e
  · rw [e]
    rfl
  · exact nth_out _ _ (Nat.le_trans (lay_len _ e) h)
theorem layB_t {S : DS} (h : layB S = true) : LayOK false S := by
  unfold layB at h
  obtain ⟨h1, h⟩ := and2 h
  obtain ⟨h2, h⟩ := and2 h
  obtain ⟨h3, h4⟩ := and2 h
  have h2 := List.all_eq_true.mp h2
  have h3 := List.all_eq_true.mp h3
  have h4 := List.all_eq_true.mp h4
  have hx : ∀ k, k < N0 → ∀ z x, kd0 k = 10 + z → lay z x ≠ (0, 0, 0) → (match lay z x with
      | (1, t, o) => decide (S.rf k x = vr t (k + o))
      | (2, t, o) => decide (S.rf k x = vr t o)
      | _ => true) = true := by
    intro k hk z x hz hl
    have hx : x < 60 := Nat.not_le.mp fun q => hl (lay_out z x q)
    have := List.all_eq_true.mp (h3 k (List.mem_range.mpr hk)) x (List.mem_range.mpr hx)
    rw [show kd0 k - 10 = z by omega] at this
    exact this
  obtain ⟨h1, h0⟩ := and2 h1
  have h1 : S.n = N1 := of_decide_eq_true h1
  have h0 : S.kd N0 = 164 := of_decide_eq_true h0
  refine ⟨by rw [h1]; decide, fun k hk => of_decide_eq_true (h2 k (List.mem_range.mpr hk)), fun k hk z x t o hz hl => ?_, fun k hk z x t o hz hl => ?_, fun k hk i hs hi => ?_, (fun h => by cases h), fun k hk1 hk2 => ?_⟩
  · have := hx k hk z x hz (by rw [hl]; intro q; cases q)
    rw [hl] at this
    exact of_decide_eq_true this
  · have := hx k hk z x hz (by rw [hl]; intro q; cases q)
    rw [hl] at this
    exact of_decide_eq_true this
  · have := h4 k (List.mem_range.mpr hk)
    rw [decide_eq_true hs] at this
    exact of_decide_eq_true (List.all_eq_true.mp this i (List.mem_range.mpr hi))
  · rw [h1] at hk2
    obtain rfl : k = N0 := by
      have : N0 = 186 := rfl
      have : N1 = 187 := rfl
      omega
    rw [h0]
    decide
/-- what is in a cell, the newest write first -/
def opV : List OP → Nat → Nat → Option Int32
  | [], _, _ => none
  | (0, k, j, v) :: l, a, b => if a = k then (if b = j then some v else opV l a b) else opV l a b
  | (_ + 1, k, _, _) :: l, a, b => if a = k then some 0 else opV l a b
theorem opV_at (I : MI) : ∀ (O : List OP) (a b : Nat), apI O I a b = (opV O a b).getD (I a b)
  | [], _, _ => rfl
  | (0, k, j, v) :: l, a, b => by
    unfold apI opV sI
    split
    · split
      · rfl
      · exact opV_at I l a b
    · exact opV_at I l a b
  | (_ + 1, k, _, _) :: l, a, b => by
    unfold apI opV aI
    split
    · rfl
    · exact opV_at I l a b
/-- what is not 0 after the making -/
def iniL : List (Nat × Nat × Int32) := [(1, 6, -1), (36, 6, -1), (70, 6, -1), (104, 6, -1)]
def inf (a b : Nat) : List (Nat × Nat × Int32) → Int32
  | [] => 0
  | q :: l => if a = q.1 ∧ b = q.2.1 then q.2.2 else inf a b l
def iniV (a b : Nat) : Int32 := inf a b iniL
def opB (O : List OP) : Bool := O.all (fun q => match q with
  | (0, k, j, _) => iniL.any (fun p => Nat.beq p.1 k && Nat.beq p.2.1 j)
  | _ => true) && (iniL.all (fun p => decide (opV O p.1 p.2.1 = some p.2.2)) && ((List.range N1).all (fun k => O.any (fun q => match q with
  | (0, _, _, _) => false
  | (_ + 1, a, _, _) => Nat.beq a k)) && O.all (fun q => Nat.blt q.2.1 N1)))
theorem opV_zero : ∀ (O : List OP) (a b : Nat), (∀ q ∈ O, q.1 = 0 → ¬ (q.2.1 = a ∧ q.2.2.1 = b)) → (∃ q ∈ O, q.1 ≠ 0 ∧ q.2.1 = a) → opV O a b = some 0
  | [], a, b, _, ⟨q, hq, _⟩ => by cases hq
  | (0, k, j, v) :: l, a, b, h1, ⟨q, hq, h2, h3⟩ => by
    unfold opV
    have h0 := h1 (0, k, j, v) List.mem_cons_self rfl
    have hr : opV l a b = some 0 := opV_zero l a b (fun q hq => h1 q (List.mem_cons_of_mem _ hq)) (by
      rcases List.mem_cons.mp hq with rfl | hq
      · exact absurd rfl h2
      · exact ⟨q, hq, h2, h3⟩)
    split
    · rename_i e
      split
      · rename_i e2
        exact absurd ⟨e.symm, e2.symm⟩ h0
      · exact hr
    · exact hr
  | (m + 1, k, j, v) :: l, a, b, h1, ⟨q, hq, h2, h3⟩ => by
    unfold opV
    split
    · rfl
    · rename_i e
      refine opV_zero l a b (fun q hq => h1 q (List.mem_cons_of_mem _ hq)) ?_
      rcases List.mem_cons.mp hq with rfl | hq
      · exact absurd h3.symm e
      · exact ⟨q, hq, h2, h3⟩
theorem opV_none : ∀ (O : List OP) (a b : Nat), (∀ q ∈ O, q.2.1 ≠ a) → opV O a b = none
  | [], _, _, _ => rfl
  | (0, k, j, v) :: l, a, b, h => by
    unfold opV
    rw [if_neg (fun e => h _ List.mem_cons_self e.symm)]
    exact opV_none l a b (fun q hq => h q (List.mem_cons_of_mem _ hq))
  | (_ + 1, k, j, v) :: l, a, b, h => by
    unfold opV
    rw [if_neg (fun e => h _ List.mem_cons_self e.symm)]
    exact opV_none l a b (fun q hq => h q (List.mem_cons_of_mem _ hq))
theorem inf_at : ∀ (l : List (Nat × Nat × Int32)) (a b : Nat), (∃ p ∈ l, (p.1 = a ∧ p.2.1 = b) ∧ inf a b l = p.2.2) ∨ ((∀ p ∈ l, ¬ (p.1 = a ∧ p.2.1 = b)) ∧ inf a b l = 0)
  | [], _, _ => Or.inr ⟨(fun p h => by cases h), rfl⟩
  | q :: l, a, b => by
    unfold inf
    split
    · rename_i e
      exact Or.inl ⟨q, List.mem_cons_self, ⟨e.1.symm, e.2.symm⟩, rfl⟩
    · rename_i e
      rcases inf_at l a b with ⟨p, h1, h2, h3⟩ | ⟨h1, h2⟩
      · exact Or.inl ⟨p, List.mem_cons_of_mem _ h1, h2, h3⟩
      · refine Or.inr ⟨fun p hp => ?_, h2⟩
        rcases List.mem_cons.mp hp with rfl | hp
        · exact fun h => e ⟨h.1.symm, h.2.symm⟩
        · exact h1 p hp
theorem opB_t {O : List OP} (h : opB O = true) (I : MI) : (∀ a b, a < N1 → apI O I a b = iniV a b) ∧ ∀ a b, N1 ≤ a → apI O I a b = I a b := by
  unfold opB at h
  obtain ⟨h1, h⟩ := and2 h
  obtain ⟨h2, h⟩ := and2 h
  obtain ⟨h3, h4⟩ := and2 h
  have h1 := List.all_eq_true.mp h1
  have h2 := List.all_eq_true.mp h2
  have h3 := List.all_eq_true.mp h3
  have h4 := List.all_eq_true.mp h4
  refine ⟨fun a b ha => ?_, fun a b ha => ?_⟩
  · rw [opV_at]
    unfold iniV
    rcases inf_at iniL a b with ⟨p, g1, ⟨rfl, rfl⟩, g3⟩ | ⟨g1, g2⟩
    · rw [g3, of_decide_eq_true (h2 p g1)]
      rfl
    · rw [g2, opV_zero O a b ?_ ?_]
      · rfl
      · intro q hq h0 he
        obtain ⟨m, k, j, v⟩ := q
        cases h0
        obtain ⟨p, hp, hq⟩ := List.any_eq_true.mp (h1 _ hq)
        obtain ⟨q1, q2⟩ := and2 hq
        exact g1 p hp ⟨(beq_t q1).trans he.1, (beq_t q2).trans he.2⟩
      · obtain ⟨q, hq, hh⟩ := List.any_eq_true.mp (h3 a (List.mem_range.mpr ha))
        obtain ⟨m, k, j, v⟩ := q
        cases m with
        | zero => cases hh
        | succ m => exact ⟨_, hq, Nat.succ_ne_zero _, beq_t hh⟩
  · rw [opV_at, opV_none O a b ?_]
    · rfl
    · intro q hq e
      have := Nat.le_of_ble_eq_true (h4 q hq)
      omega
set_option maxRecDepth 100000 in
theorem law_made : (match mkT 4000 m_L_law 13 0 (vr 3 0 :: List.replicate 14 un) [] (0, (fun _ => 0), (fun _ _ => nul), 300, 200000) [] with
  | none => false
  | some s => decide (s.1 = 13 ∧ s.2.1 = vr 3 0 :: vr 21 0 :: vr 164 186 :: List.replicate 12 un ∧ s.2.2.1 = [] ∧ 10 ≤ s.2.2.2.1.bc ∧ 1000 ≤ s.2.2.2.1.bs) && (layB s.2.2.2.1 && opB s.2.2.2.2)) = true := by decide +kernel
/-- the law's body, from a new class and q, its row of eight -/
def BodyOK : Prop := ∀ (Ls : Nat) (xs : Nat → Int32) (I : MI) (L : ML), Ls ≤ 260 → I 100001 0 = Int32.ofNat Ls → (∀ j, j < Ls → I 100000 j = xs j) → (∀ a b, a < N1 → I a b = iniV a b) → NW 187 10 1000 m_L_law 13 (vr 3 0 :: vr 21 0 :: vr 164 186 :: List.replicate 12 un) [] false I L (nwI (fun r _ _ _ _ => r = 1))
theorem law_ok (h : BodyOK) : LawOK := by
  intro Ls xs I L hL hI hx
  have hm := law_made
  cases hT : mkT 4000 m_L_law 13 0 (vr 3 0 :: List.replicate 14 un) [] (0, (fun _ => 0), (fun _ _ => nul), 300, 200000) [] with
  | none => rw [hT] at hm; cases hm
  | some s =>
    rw [hT] at hm
    obtain ⟨h1, hm⟩ := and2 hm
    obtain ⟨h2, h3⟩ := and2 hm
    obtain ⟨e1, e2, e3, e4, e5⟩ := of_decide_eq_true h1
    obtain ⟨g1, g2⟩ := opB_t h3 I
    refine mkT_sound I L (fun r _ _ _ => r = vi 1) 4000 m_L_law 13 0 (vr 3 0 :: List.replicate 14 un) [] (0, (fun _ => 0), (fun _ _ => nul), 300, 200000) [] s hT ?_
    rw [e1, e2, e3]
    have hn : s.2.2.2.1.n = 187 := by
      unfold layB at h2
      exact of_decide_eq_true (and2 (and2 h2).1).1
    refine DW_mono (fun r S' I' L' k => ?_) (h Ls xs (apI s.2.2.2.2 I) (apL s.2.2.2.2 L) hL ((g2 100001 0 (by decide)).trans hI) (fun j hj => (g2 100000 j (by decide)).trans (hx j hj)) g1 s.2.2.2.1 (layB_t h2) hn e4 e5)
    obtain ⟨b', -, hk⟩ := k
    rcases r with v | v | r
    · have hk : v = 1 := hk
      rw [hk]
    · exact hk.elim
    · exact hk.elim
