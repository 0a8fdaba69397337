/-! WHAT-IFS: begun, the reference; origin -/
theorem range_s (n : Nat) : List.range' 0 (n + 1) = List.range' 0 n ++ [n] := by
  rw [List.range'_1_concat, Nat.zero_add]
theorem PLf_s (n : Nat) : PLf 0 (n + 1) = PLf 0 n ++ [2 ^ n] := by
  unfold PLf
  rw [range_s, List.map_append]
  rfl
theorem L12_s : ∀ m i, L12 i (m + 1) = L12 i m ++ blk (i + m)
  | 0, i => by
    show blk i ++ [] = [] ++ blk (i + 0)
    rw [List.append_nil, List.nil_append, Nat.add_zero]
  | m + 1, i => by
    show blk i ++ L12 (i + 1) (m + 1) = (blk i ++ L12 (i + 1) m) ++ blk (i + (m + 1))
    rw [L12_s m (i + 1), List.append_assoc, show i + 1 + m = i + (m + 1) by omega]
/-- the sets with a bound on their bits, first and second half -/
theorem flt_le (c n : Nat) (A : List Nat) (h : (List.range' 0 (2 ^ n)).filter (fun x => decide (cntB x.testBit n ≤ c)) = A) : (List.range' 0 (2 ^ (n + 1))).filter (fun x => decide (cntB x.testBit (n + 1) ≤ c + 1)) = (List.range' 0 (2 ^ n)).filter (fun x => decide (cntB x.testBit n ≤ c + 1)) ++ A.map (fun x => 2 ^ n + x) := by
  have hx : ∀ x, x ∈ List.range' 0 (2 ^ n) → x < 2 ^ n := fun x h => by
    have := List.mem_range'_1.mp h
    omega
  rw [rng_s, List.filter_append, List.filter_map, ← h]
  congr 1
  · exact List.filter_congr (fun x h => by rw [pc_low (hx x h)])
  · congr 1
    exact List.filter_congr (fun x h => by
      show decide (cntB (2 ^ n + x).testBit (n + 1) ≤ c + 1) = _
      rw [pc_add (hx x h)]
      exact decide_eq_decide.mpr ⟨fun _ => by omega, fun _ => by omega⟩)
theorem flt_0 (n : Nat) : (List.range' 0 (2 ^ n)).filter (fun x => decide (cntB x.testBit n ≤ 0)) = [0] := by
  rw [← LsA_0 n, ← flt_s n 0]
  exact List.filter_congr (fun x _ => decide_eq_decide.mpr ⟨fun _ => by omega, fun _ => by omega⟩)
theorem flt_1 : ∀ n, (List.range' 0 (2 ^ n)).filter (fun x => decide (cntB x.testBit n ≤ 1)) = 0 :: PLf 0 n
  | 0 => rfl
  | n + 1 => by
    rw [flt_le 0 n [0] (flt_0 n), flt_1 n, PLf_s]
    rfl
theorem flt_2 : ∀ n, (List.range' 0 (2 ^ n)).filter (fun x => decide (cntB x.testBit n ≤ 2)) = 0 :: L12 0 n
  | 0 => rfl
  | n + 1 => by
    rw [flt_le 1 n (0 :: PLf 0 n) (flt_1 n), flt_2 n, L12_s, Nat.zero_add]
    rfl
theorem flt_2' (n : Nat) : (List.range' 1 (2 ^ n - 1)).filter (fun x => decide (cntB x.testBit n ≤ 2)) = L12 0 n := by
  have h := flt_2 n
  have e1 : 1 ≤ 2 ^ n := Nat.one_le_two_pow
  have e : List.range' 0 (2 ^ n) = 0 :: List.range' 1 (2 ^ n - 1) := by
    rw [show 2 ^ n = (2 ^ n - 1) + 1 by omega, List.range'_succ]
    rfl
  rw [e, List.filter_cons] at h
  have c : decide (cntB (0 : Nat).testBit n ≤ 2) = true := by
    rw [zero_bits]
    have z : ∀ n, cntB (fun _ => false) n = 0 := by
      intro n
      induction n with
      | zero => rfl
      | succ n ih =>
        show cntB (fun _ => false) n + 0 = 0
        rw [ih]
    rw [z]
    decide
  rw [if_pos c] at h
  exact (List.cons.inj h).2
theorem oc_begun : ∀ a1 a2 a3 a4 a5 : Int32, OpC m_S_begun [vi a1, vi a2, vi a3, vi a4, vi a5] (fun B => if (!decide (a5 < nM) && (inR a3 100 && (tkB B a1 a2 && inR a4 (2 ^ (B.wd a1 a2).v.n)))) = true then bgF (bgP B a1 a2 a3.toNatClampNeg a4) a5 (L12 0 (B.wd a1 a2).v.n) 0 else -nI 2) := by
  intro a1 a2 a3 a4 a5
  intro B I b L K ok hc k
  dsimp only at k
  · refine v_S_begun_0 ⟨fun g5 => ?_, fun g5 => ?_⟩
    · have g5 : a5 < nM := g5
      have kk := k b I L (fun _ _ => rfl)
      rw [decide_eq_true g5, Bool.not_true, Bool.false_and] at kk
      exact kk
    · have g5 : ¬ a5 < nM := g5
      rw [decide_eq_false g5, Bool.not_false, Bool.true_and] at k
      refine c_onDay (n := 99) (by decide) (fun g1 => ?_) (fun g1 => ?_)
      · obtain ⟨d, hd, rfl⟩ := (inR_iff (by decide)).mp g1
        rw [g1, Bool.true_and] at k
        refine ⟨fun q => absurd q (by decide), fun _ => ?_⟩
        refine c_areThere ok hc (fun g3 => ?_) (fun g3 => ?_)
        · refine ⟨fun q => absurd q (by decide), fun _ => ?_⟩
          refine c_takeW ok hc (fun g2 I1 L1 f1 W1 l0 => ?_) (fun g2 => ?_)
          · have hn := W1.vil.2.1.2
            have g4 := at_tk (a3 := a4) ok g2
            rw [g3] at g4
            rw [g2, ← g4, Bool.and_self, if_pos rfl, n_cl (by omega)] at k
            refine ⟨fun _ => ?_, fun q => absurd (by decide) q⟩
            exact c_begun ok g2 hn (by omega) l0 (fun I2 L2 f2 => k b I2 L2 (fun a ha => (f2 a (by omega)).trans (f1 a (by omega))))
          · have kk := k b I L (fun _ _ => rfl)
            rw [g2, Bool.false_and] at kk
            exact ⟨fun q => absurd rfl q, fun _ => kk⟩
        · refine ⟨fun _ => ?_, fun q => absurd rfl q⟩
          have kk := k b I L (fun _ _ => rfl)
          have e : (tkB B a1 a2 && inR a4 (2 ^ (B.wd a1 a2).v.n)) = false := by
            cases g2 : tkB B a1 a2 with
            | false => rfl
            | true => rw [← at_tk (a3 := a4) ok g2, g3]; rfl
          rw [e] at kk
          exact kk
      · refine ⟨fun _ => ?_, fun q => absurd rfl q⟩
        have kk := k b I L (fun _ _ => rfl)
        rw [g1, Bool.false_and] at kk
        exact kk
