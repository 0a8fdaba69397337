/-! WHAT-IFS: a denial on some days; a run from a later day on -/
def dnX (f : Nat → Bool) (df dt : Nat) : Wi := mkX false (fun _ => false) f df dt (fun _ => false) (fun _ => false) (fun _ => false) 0
theorem dnX_ok {f : Nat → Bool} {df dt : Nat} (h1 : df ≤ 200) (h2 : dt ≤ 200) : (dnX f df dt).ok := ⟨h2, Nat.zero_le _, h1⟩
theorem lif_dn {B : Bk} {a1 a2 : Int32} {f g : Nat → Bool} {d0 t0 df dt : Nat} {I : MI} {L : ML} {m : Int32} (hm : ∀ p, p < 32 → bt m p = g p) (h : lif B a1 a2 (dnX f d0 t0) I L) : lif B a1 a2 (dnX g df dt) (sI (sI (sI I 161 8 m) 161 9 (nI df)) 161 10 (nI dt)) L := by
  obtain ⟨g1, g2, g3⟩ := h
  refine ⟨vilC_fr (fun a q1 q2 => by rw [sI_c (by omega), sI_c (by omega), sI_c (by omega)]) g1, givP_fr (fun j hj => by rw [sI_j (by omega), sI_j (by omega), sI_j (by omega)]) (by rw [sI_c (by omega), sI_c (by omega), sI_c (by omega)]) (by rw [sI_c (by omega), sI_c (by omega), sI_c (by omega)]) rfl g2, ?_⟩
  unfold wiP at g3 ⊢
  obtain ⟨z1, z2, z3, z4, z5, z6, z7, z8⟩ := g3
  refine ⟨?_, ?_, ?_, ?_, ?_, z6, z7, ?_⟩
  · rw [sI_j (by omega), sI_j (by omega), sI_j (by omega)]
    exact z1
  · rw [sI_j (by omega), sI_j (by omega), sI_j (by omega)]
    exact z2
  · rw [sI_j (by omega), sI_j (by omega), sI_at]
    exact hm
  · intro _
    rw [sI_at, sI_j (by omega), sI_at]
    exact ⟨rfl, rfl⟩
  · rw [sI_j (by omega), sI_j (by omega), sI_j (by omega)]
    exact z5
  · rw [sI_j (by omega), sI_j (by omega), sI_j (by omega)]
    exact z8
theorem am_wi0 (t : Tel) (s d p : Nat) : amW t wi0 s d p = t.amt s d p := by
  show (if false = true then _ else t.amt s d p) + (if (s = 1 ∧ 0 ≤ d ∧ d ≤ 0) ∧ false = true then 9 else 0) = _
  rw [if_neg Bool.false_ne_true, if_neg (fun q => Bool.false_ne_true q.2), Nat.add_zero]
theorem am_dnX (t : Tel) (g : Nat → Bool) (df dt s d p : Nat) : amW t (dnX g df dt) s d p = t.amt s d p + (if (s = 1 ∧ df ≤ d ∧ d ≤ dt) ∧ g p = true then 9 else 0) := by
  show (if false = true then _ else t.amt s d p) + (if (s = 1 ∧ df ≤ d ∧ d ≤ dt) ∧ g p = true then 9 else 0) = _
  rw [if_neg Bool.false_ne_true]
theorem stp_agree {w w' : Wd} {D : Nat} (h : ∀ d, d < D → stt w' d = stt w d) : ∀ d, d ≤ D → stp w' d = stp w d
  | 0, _ => rfl
  | d + 1, hd => h d (by omega)
theorem went_sa (w : Wd) (s d k : Nat) : went w s d k = ((stt w d).sa s (w.v.fr k) && w.op d k) := by
  rw [stt_eq]
  rfl
theorem rowC_agree {w w' : Wd} {e : Nat} {I : MI} {L : ML} (hv : w'.v = w.v) (hs : stt w' e = stt w e) (ho : ∀ k, w'.op e k = w.op e k) (h : rowC w e I L) : rowC w' e I L := by
  have hw : ∀ s k, went w' s e k = went w s e k := fun s k => by rw [went_sa, went_sa, hs, hv, ho]
  obtain ⟨⟨a1, a2, a3, a4, a5⟩, ⟨c1, c2, c3, c4, c5⟩, h3, h4⟩ := h
  refine ⟨⟨?_, ?_, fun k hk => ?_, ?_, ?_⟩, ⟨?_, ?_, fun k hk => ?_, ?_, ?_⟩, ?_, h4⟩
  · rw [hv, hs]; exact a1
  · rw [hv, hs]; exact a2
  · rw [hv, hw]; exact a3 k hk
  · rw [hv, hs]; exact a4
  · rw [hv, hs]; exact a5
  · rw [hv, hs]; exact c1
  · rw [hv, hs]; exact c2
  · rw [hv, hw]; exact c3 k hk
  · rw [hv, hs]; exact c4
  · rw [hv, hs]; exact c5
  · rw [hv, hs]; exact h3
theorem dn_stt {B : Bk} {a1 a2 : Int32} {g : Nat → Bool} {df dt : Nat} : ∀ d, d < df → stt (B.wx a1 a2 (dnX g df dt)) d = stt (B.wd a1 a2) d := by
  refine stt_agree (w := B.wd a1 a2) (w' := B.wx a1 a2 (dnX g df dt)) rfl rfl (D := df) (fun d hd s p => ?_) (fun d hd t => rfl)
  show amW _ (dnX g df dt) s d p = amW _ wi0 s d p
  rw [am_dnX, am_wi0, if_neg (by omega), Nat.add_zero]
theorem dn_rows {B : Bk} {a1 a2 : Int32} {g : Nat → Bool} {df dt e : Nat} {I : MI} {L : ML} (he : e < df) : rowC (B.wx a1 a2 (dnX g df dt)) e I L ↔ rowC (B.wd a1 a2) e I L := ⟨fun h => rowC_agree (w := B.wx a1 a2 (dnX g df dt)) rfl (dn_stt e he).symm (fun _ => rfl) h, fun h => rowC_agree (w := B.wd a1 a2) (w' := B.wx a1 a2 (dnX g df dt)) rfl (dn_stt e he) (fun _ => rfl) h⟩
theorem zero_bits : (0 : Nat).testBit = fun _ => false := funext fun i => Nat.zero_testBit i
theorem dn_zero (B : Bk) (a1 a2 : Int32) (df dt : Nat) : B.wx a1 a2 (dnX (fun _ => false) df dt) = B.wd a1 a2 := by
  have e : amW (B.tlOf a2) (dnX (fun _ => false) df dt) = amW (B.tlOf a2) wi0 := by
    funext s d p
    rw [am_dnX, am_wi0, if_neg (fun q => Bool.false_ne_true q.2), Nat.add_zero]
  show (_, amW (B.tlOf a2) (dnX (fun _ => false) df dt), _, _, _) = (_, amW (B.tlOf a2) wi0, _, _, _)
  rw [e]
  rfl
theorem any_bits {x : Nat} (h1 : x < 2 ^ 32) (h0 : x ≠ 0) : anyN 32 x.testBit = true := by
  cases h : anyN 32 x.testBit with
  | true => rfl
  | false =>
    have h := anyN_no.mp h
    refine absurd ?_ h0
    rw [← bN_self h1, bN_cong (g := fun _ => false) h]
    decide +kernel
theorem bt_nI {x p : Nat} (hp : p < 32) : bt (nI x) p = x.testBit p := by
  rw [b_nI, decide_eq_true hp, Bool.true_and]
/-- the days ahead, plain -/
theorem c_days {w : Wd} {d : Nat} {b : Bool} {I : MI} {L : ML} {K : Bool → MI → ML → Prop} (W : WL w I L) (hd : d ≤ 201) (hK : ∀ I' L', (∀ a, a < 165 ∨ 181 ≤ a → I' a = I a) → (∀ a, a ≠ 169 → a ≠ 175 → a ≠ 179 → L' a = L a) → (∀ e, e < d → rowC w e I' L') → K b I' L') : CV m_Run_live [vr 14 153, vi (nI 0), vi (nI d - nI 1), vi (nI 0)] b I L K := by
  have h2 : (d = 0 ∧ nI d - nI 1 = nM) ∨ (0 < d ∧ nI d - nI 1 = nI (d - 1)) := by
    rcases Nat.eq_zero_or_pos d with e | e
    · subst e
      exact Or.inl ⟨rfl, by decide⟩
    · exact Or.inr ⟨e, n_sub e⟩
  refine c_live (w := w) (s0 := 0) (U := d) (Nat.zero_le _) hd h2 (Or.inl rfl) W (fun e he => absurd he (Nat.not_lt_zero _)) (by omega) (fun N I2 L2 f2 l2 n1 n2 rows R _ hN _ => ?_)
  have hN := hN rfl
  exact hK I2 L2 f2 l2 (fun e he => rows e (by omega))
/-- a run from a day on till its ring; whether it is clean -/
theorem c_lc {w : Wd} {s0 : Nat} {b : Bool} {I : MI} {L : ML} {K : Int32 → Bool → MI → ML → Prop} (W : WL w I L) (hs : s0 ≤ 201) (rows : ∀ e, e < s0 → rowC w e I L) (hla : s0 ≤ w.la + 1) (hK : ∀ I' L', (∀ a, a < 165 ∨ 181 ≤ a → I' a = I a) → (∀ a, a ≠ 169 → a ≠ 175 → a ≠ 179 → L' a = L a) → (∀ e, e < s0 → rowC w e I' L') → K (nI (cleanB w).toNat) b I' L') : CV m_Run_live [vr 14 153, vi (nI s0), vi (nI 200), vi (nI 1)] b I L (fun b_1 I_1 L_1 => CI m_Days_isClean [vr 11 165] b_1 I_1 L_1 K) := by
  have hn := W.vil.2.1.2
  refine c_live (w := w) (s0 := s0) (U := 201) hs (by omega) (Or.inr ⟨by omega, rfl⟩) (Or.inr rfl) W rows hla (fun N I2 L2 f2 l2 n1 n2 rows2 R _ _ hst => ?_)
  obtain ⟨s1, s2⟩ := hst rfl
  have kk := hK I2 L2 f2 l2 (fun e he => rows2 e (by omega))
  unfold cleanB at kk
  rw [rgU_stop n2 s1] at kk
  have ho : ∀ r, rgU w N = some r → r.1 + r.2 ≤ N := fun r hr => by
    have := rgU_in hr
    omega
  exact c_isClean (w := w) (M := N) (o := rgU w N) hn n2 rows2 R ho kk
theorem c_all {n : Nat} (hn : n ≤ 16) {b : Bool} {I : MI} {L : ML} {K : Int32 → Bool → MI → ML → Prop} (e : I 154 0 = nI n) (hK : K (nI (2 ^ n - 1)) b I L) : CI m_Village_all [vr 19 154] b I L K := by
  have h1 : 1 ≤ 2 ^ n := Nat.one_le_two_pow
  refine v_Village_all_0 ?_
  rw [e, show (1 : Int32) <<< (nI n &&& 31) = nI (2 ^ n) from n_shl (by omega), show nI (2 ^ n) - (1 : Int32) = nI (2 ^ n - 1) from n_sub h1]
  exact hK
