/-! TEXTS: the reference reads all lines, and keeps what is read -/
def keepT (x1 x2 : Int32) (K : Int32 → Bool → MI → ML → Prop) (b : Bool) (I : MI) (L : ML) : Prop := ((¬ x2 = (-1 : Int32) → ((¬ x2 = (-1 : Int32) → SW m_M_text 255 [vr 22 186, vi x1, un, vi x2, vi (0 : Int32)] [] b I L (kI K)) ∧ (¬ (¬ x2 = (-1 : Int32)) → (vp_in x1 5504 ∧ (vp_in x1 5504 ∧ SW m_M_text 255 [vr 22 186, vi x1, un, vi x2, vi (0 : Int32)] [] b (sI I 187 x1.toNatClampNeg ((I 187 x1.toNatClampNeg) + (1 : Int32))) L (kI K)))))) ∧ (¬ (¬ x2 = (-1 : Int32)) → (vp_in x1 5504 ∧ ((¬ x2 = (-1 : Int32) → SW m_M_text 255 [vr 22 186, vi x1, un, vi (I 187 x1.toNatClampNeg), vi (0 : Int32)] [] b I L (kI K)) ∧ (¬ (¬ x2 = (-1 : Int32)) → (vp_in x1 5504 ∧ (vp_in x1 5504 ∧ SW m_M_text 255 [vr 22 186, vi x1, un, vi (I 187 x1.toNatClampNeg), vi (0 : Int32)] [] b (sI I 187 x1.toNatClampNeg ((I 187 x1.toNatClampNeg) + (1 : Int32))) L (kI K))))))))
def endT (x1 x2 : Int32) (K : Int32 → Bool → MI → ML → Prop) (b : Bool) (I : MI) (L : ML) : Prop := (vp_in (3 : Int32) 5504 ∧ (((I 187 (((3 : Int32)).toNatClampNeg)) = 0 → keepT x1 x2 K b I L) ∧ (¬ (I 187 (((3 : Int32)).toNatClampNeg)) = 0 → K (-1 : Int32) b I L)))
def tailT (x1 x2 : Int32) (K : Int32 → Bool → MI → ML → Prop) (b : Bool) (I : MI) (L : ML) : Prop := (vp_in (3 : Int32) 5504 ∧ ((¬ (I 187 (((3 : Int32)).toNatClampNeg)) = 0 → endT x1 x2 K b I L) ∧ (¬ (¬ (I 187 (((3 : Int32)).toNatClampNeg)) = 0) → ((¬ x1 = 0 → endT x1 x2 K b I L) ∧ (¬ (¬ x1 = 0) → (vp_in (0 : Int32) 200 ∧ (((I 186 9) < (I 189 (((0 : Int32)).toNatClampNeg)) → endT x1 x2 K b I L) ∧ (¬ (I 186 9) < (I 189 (((0 : Int32)).toNatClampNeg)) → CV m_M_also [vr 22 186, vi (4 : Int32), vi (I 186 4)] b I L (fun b I L => endT x1 x2 K b I L)))))))))
theorem bf_s {S S' : Sm} {c : Nat} (h : S'.fl = S.fl) (k : S'.pl = S.pl) (hb : bf S c) : bf S' c := by
  unfold bf
  rw [h, k]
  exact hb
theorem ful_bf {i w : Nat} {S : Sm} (h : bf S w) : bf (ful i w S) (w + 1) := by
  unfold ful
  by_cases c : fulB i S = true
  · rw [if_pos c]
    exact blm_bf (bf_up h (by omega)) (by omega)
  · rw [if_neg c]
    exact bf_up h (by omega)
theorem nmL_bf {y : Nat → Nat} {n i : Nat} : ∀ f w a S, w ≤ n → S.fl ≠ 1 → bf S w → (nmL y n i f w a S).1 ≤ n ∧ bf (nmL y n i f w a S).2.2 (nmL y n i f w a S).1
  | 0, _, _, _, hw, _, h => ⟨hw, h⟩
  | f + 1, w, a, S, hw, h1, h => by
    unfold nmL
    by_cases c : kin y n w = 2 ∧ (a < needW i ∨ isKW i = true)
    · rw [if_pos c]
      obtain ⟨a1, a2, a3⟩ := adv_le (y := y) hw
      have a3 := a3 (kin_lt (by rw [c.1]; decide))
      obtain ⟨g1, g2⟩ := accW_bf (i := i) (a := a) (x := nmb y n w) h1 (bf_up h (by omega : w ≤ w + 1))
      exact nmL_bf f _ _ _ a2 g1 (bf_up g2 a3)
    · rw [if_neg c]
      exact ⟨hw, h⟩
theorem linR_bf {y : Nat → Nat} {n i : Nat} {r : Nat × Nat × Sm} (b1 : r.1 ≤ n) (n1 : r.2.2.fl ≠ 1) (b2 : bf r.2.2 r.1) : ((linR y n i r).1 = true → (linR y n i r).2.2.fl ≠ 1 ∧ bf (linR y n i r).2.2 (linR y n i r).2.1) ∧ ((linR y n i r).1 = false → (linR y n i r).2.2.fl = 1) := by
  unfold linR
  by_cases c : r.2.1 < needW i ∨ ¬ kin y n r.1 = 3
  · rw [if_pos c]
    exact ⟨fun z => absurd z Bool.false_ne_true, fun _ => rfl⟩
  · rw [if_neg c]
    refine ⟨fun _ => ⟨?_, bf_s (S := r.2.2) telW_fl.1 telW_fl.2 (bf_up b2 (adv_le b1).1)⟩, fun z => absurd z.symm Bool.false_ne_true⟩
    show (telW i _).fl ≠ 1
    rw [telW_fl.1]
    exact n1
theorem linS_bf {y : Nat → Nat} {n sort w : Nat} {S : Sm} (hw : w < n) (h1 : S.fl ≠ 1) (hb : bf S w) : ((linS y n sort w S).1 = true → (linS y n sort w S).2.2.fl ≠ 1 ∧ bf (linS y n sort w S).2.2 (linS y n sort w S).2.1) ∧ ((linS y n sort w S).1 = false → (linS y n sort w S).2.2.fl = 1) := by
  cases q : wrdS y n sort w with
  | none =>
    have e : linS y n sort w S = (false, w, sty w S) := by
      unfold linS
      rw [q]
    rw [e]
    exact ⟨fun z => absurd z Bool.false_ne_true, fun _ => rfl⟩
  | some i =>
    have e : linS y n sort w S = linR y n i (nmL y n i 600 (adv y n w) 0 (ful i w S)) := by
      unfold linS
      rw [q]
    rw [e]
    obtain ⟨a1, a2, a3⟩ := adv_le (y := y) (n := n) (w := w) (by omega)
    obtain ⟨b1, b2⟩ := nmL_bf (y := y) (i := i) 600 (adv y n w) 0 (ful i w S) a2 (ful_n1 h1) (bf_up (ful_bf hb) (a3 hw))
    exact linR_bf b1 (nmL_n1 600 _ _ _ (ful_n1 h1)) b2
theorem cm_lines {y : Nat → Nat} {n sort : Nat} (hn : n ≤ 600) (hs : sort ≤ 1) {x2 : Int32} {b : Bool} {L : ML} {K : Int32 → Bool → MI → ML → Prop} : ∀ f w S I, n - w < f → LM y n w S I → SmI S → S.fl ≠ 1 → bf S w → QR sort S I → (∀ I', lfr 9 189 I I' → LM y n (lins y n sort f w S).1 (lins y n sort f w S).2 I' → QR sort (lins y n sort f w S).2 I' → ((lins y n sort f w S).2.fl ≠ 1 → kin y n (lins y n sort f w S).1 = 0) → tailT (nI sort) x2 K b I' L) → SW m_M_text 143 [vr 22 186, vi (nI sort), vi x2, un, un] [] b I L (kI K)
  | 0, w, S, I, h, _, _, _, _, _, _ => by omega
  | f + 1, w, S, I, h, M, hS, hf, hb, Q, J => by
    have hw := M.1.2
    have q5 : (I 186 5 = (0 : Int32)) ↔ kin y n w = 0 := by
      rw [M.2.1.2.2.1, show (0 : Int32) = nI 0 from rfl, n_eq (by have := tk_le y n w; omega) (by omega), tkq_0]
    refine v_M_text_143 ⟨fun z => absurd (M.e8 hf) z, fun _ => ⟨fun z => ?_, fun z => ?_⟩⟩
    · have k0 := q5.mp z
      have e : lins y n sort (f + 1) w S = (w, S) := if_pos k0
      rw [e] at J
      exact J I lfr_0 M Q (fun _ => k0)
    · have k0 : ¬ kin y n w = 0 := fun q => z (q5.mpr q)
      have wn := kin_lt k0
      obtain ⟨g1, g2, g3⟩ := linS_I (y := y) (sort := sort) hn wn hS
      obtain ⟨g4, g5⟩ := linS_bf (y := y) (sort := sort) wn hf hb
      have go : ∀ I', lfr 9 189 I I' → LM y n (linS y n sort w S).2.1 (linS y n sort w S).2.2 I' → QR sort (linS y n sort w S).2.2 I' → SW m_M_text 143 [vr 22 186, vi (nI sort), vi x2, un, un] [] b I' L (kI K) := fun I' f1 M1 Q1 => by
        cases c : (linS y n sort w S).1 with
        | true =>
          have e : lins y n sort (f + 1) w S = lins y n sort f (linS y n sort w S).2.1 (linS y n sort w S).2.2 := (if_neg k0).trans (if_pos c)
          rw [e] at J
          have g3 := g3 c
          obtain ⟨g6, g7⟩ := g4 c
          exact cm_lines hn hs f _ _ I' (by omega) M1 g1 g6 g7 Q1 (fun I2 f2 => J I2 (f1.trans f2))
        | false =>
          have e : lins y n sort (f + 1) w S = (linS y n sort w S).2 := (if_neg k0).trans (if_neg (by rw [c]; exact Bool.false_ne_true))
          rw [e] at J
          have g5 := g5 c
          exact v_M_text_143 ⟨fun _ => J I' f1 M1 Q1 (fun z => absurd g5 z), fun z => absurd (show ¬ I' 186 8 = 0 by rw [M1.w8 g5]; decide) z⟩
      rcases (by omega : sort = 0 ∨ sort = 1) with rfl | rfl
      · exact ⟨fun z => absurd rfl z, fun _ => cm_villageLine M hS hf hb Q go⟩
      · exact ⟨fun _ => cm_tellingLine M hS hf hb Q go, fun z => absurd (by decide) z⟩
/-! what is read is kept -/
def plT (s k : Nat) : Nat := if s = 0 then 610 + 200 * k else 1010 + 122 * k
def szT (s : Nat) : Nat := if s = 0 then 200 else 122
theorem cm_cp0 {k : Nat} (hk : k < 2) (I0 : MI) {K : Int32 → Bool → MI → ML → Prop} {b : Bool} {L : ML} (hK : ∀ I', (∀ a, a ≠ 187 → I' a = I0 a) → (∀ j, I' 187 j = if 610 + 200 * k ≤ j ∧ j < 610 + 200 * k + 200 then I0 189 (j - (610 + 200 * k)) else I0 187 j) → K (nI k) b I' L) : ∀ m i, i + m = 200 → ∀ I, (∀ a, a ≠ 187 → I a = I0 a) → (∀ j, I 187 j = if 610 + 200 * k ≤ j ∧ j < 610 + 200 * k + i then I0 189 (j - (610 + 200 * k)) else I0 187 j) → SW m_M_text 255 [vr 22 186, vi (nI 0), un, vi (nI k), vi (nI i)] [] b I L (kI K) := by
  intro m
  induction m with
  | zero =>
    intro i hi I h1 h2
    obtain rfl : i = 200 := by omega
    exact v_M_text_255 ⟨fun z => absurd rfl z, fun _ => ⟨fun _ => hK I h1 h2, fun z => absurd (by decide) z⟩⟩
  | succ m ih =>
    intro i hi I h1 h2
    refine v_M_text_255 ⟨fun z => absurd rfl z, fun _ => ⟨fun z => ?_, fun _ => v_M_placeOf_0 ⟨fun z => absurd rfl z, fun _ => ?_⟩⟩⟩
    · rw [show (200 : Int32) = nI 200 from rfl, n_le (by omega) (by omega)] at z
      omega
    · rw [show (610 : Int32) = nI 610 from rfl, show (200 : Int32) = nI 200 from rfl, n_mul, n_add, n_add, n_cl (by omega), n_cl (by omega), show nI i + (1 : Int32) = nI (i + 1) from n_add i 1]
      refine ⟨vpN (by omega) (by omega), vpN (by omega) (by omega), ih (i + 1) (by omega) _ (fun a ha => ?_) (fun j => ?_)⟩
      · rw [sI_c ha, h1 a ha]
      · by_cases e : j = 610 + 200 * k + i
        · subst e
          rw [sI_at, if_pos (by omega), h1 189 (by omega), show 610 + 200 * k + i - (610 + 200 * k) = i by omega]
        · rw [sI_j e, h2]
          by_cases c : 610 + 200 * k ≤ j ∧ j < 610 + 200 * k + i
          · rw [if_pos c, if_pos (by omega)]
          · rw [if_neg c, if_neg (by omega)]
theorem cm_cp1 {k : Nat} (hk : k < 3) (I0 : MI) {K : Int32 → Bool → MI → ML → Prop} {b : Bool} {L : ML} (hK : ∀ I', (∀ a, a ≠ 187 → I' a = I0 a) → (∀ j, I' 187 j = if 1010 + 122 * k ≤ j ∧ j < 1010 + 122 * k + 122 then I0 189 (j - (1010 + 122 * k)) else I0 187 j) → K (nI k) b I' L) : ∀ m i, i + m = 122 → ∀ I, (∀ a, a ≠ 187 → I a = I0 a) → (∀ j, I 187 j = if 1010 + 122 * k ≤ j ∧ j < 1010 + 122 * k + i then I0 189 (j - (1010 + 122 * k)) else I0 187 j) → SW m_M_text 255 [vr 22 186, vi (nI 1), un, vi (nI k), vi (nI i)] [] b I L (kI K) := by
  intro m
  induction m with
  | zero =>
    intro i hi I h1 h2
    obtain rfl : i = 122 := by omega
    exact v_M_text_255 ⟨fun _ => ⟨fun _ => hK I h1 h2, fun z => absurd (by decide) z⟩, fun z => absurd (by decide) z⟩
  | succ m ih =>
    intro i hi I h1 h2
    refine v_M_text_255 ⟨fun _ => ⟨fun z => ?_, fun _ => v_M_placeOf_0 ⟨fun _ => ?_, fun z => absurd (by decide) z⟩⟩, fun z => absurd (by decide) z⟩
    · rw [show (122 : Int32) = nI 122 from rfl, n_le (by omega) (by omega)] at z
      omega
    · rw [show (1010 : Int32) = nI 1010 from rfl, show (122 : Int32) = nI 122 from rfl, n_mul, n_add, n_add, n_cl (by omega), n_cl (by omega), show nI i + (1 : Int32) = nI (i + 1) from n_add i 1]
      refine ⟨vpN (by omega) (by omega), vpN (by omega) (by omega), ih (i + 1) (by omega) _ (fun a ha => ?_) (fun j => ?_)⟩
      · rw [sI_c ha, h1 a ha]
      · by_cases e : j = 1010 + 122 * k + i
        · subst e
          rw [sI_at, if_pos (by omega), h1 189 (by omega), show 1010 + 122 * k + i - (1010 + 122 * k) = i by omega]
        · rw [sI_j e, h2]
          by_cases c : 1010 + 122 * k ≤ j ∧ j < 1010 + 122 * k + i
          · rw [if_pos c, if_pos (by omega)]
          · rw [if_neg c, if_neg (by omega)]
theorem cm_cp {s k : Nat} (hs : s ≤ 1) (hk : k < 2 + s) {I : MI} {K : Int32 → Bool → MI → ML → Prop} {b : Bool} {L : ML} (hK : ∀ I', (∀ a, a ≠ 187 → I' a = I a) → (∀ j, I' 187 j = if plT s k ≤ j ∧ j < plT s k + szT s then I 189 (j - plT s k) else I 187 j) → K (nI k) b I' L) : SW m_M_text 255 [vr 22 186, vi (nI s), un, vi (nI k), vi (0 : Int32)] [] b I L (kI K) := by
  rcases (by omega : s = 0 ∨ s = 1) with rfl | rfl
  · exact cm_cp0 hk I hK 200 0 (by omega) I (fun _ _ => rfl) (fun j => by rw [if_neg (by omega)])
  · exact cm_cp1 hk I hK 122 0 (by omega) I (fun _ _ => rfl) (fun j => by rw [if_neg (by omega)])
theorem cm_keepT {s k n : Nat} {x2 : Int32} (hs : s ≤ 1) {I : MI} {b : Bool} {L : ML} {K : Int32 → Bool → MI → ML → Prop} (e : I 187 s = nI n) (hn : n ≤ 2 + s) (hfit : x2 = nM ∧ k = n ∧ k < 2 + s ∨ x2 = nI k ∧ k < n) (hK : ∀ I', (∀ a, a ≠ 187 → I' a = I a) → (∀ j, I' 187 j = if plT s k ≤ j ∧ j < plT s k + szT s then I 189 (j - plT s k) else if j = s then nI (if k = n then n + 1 else n) else I 187 j) → K (nI k) b I' L) : keepT (nI s) x2 K b I L := by
  have vs : vp_in (nI s) 5504 := vpN (by omega) (by omega)
  have es : (nI s).toNatClampNeg = s := n_cl (by omega)
  unfold keepT
  rw [es]
  rcases hfit with ⟨rfl, rfl, hk⟩ | ⟨rfl, hk⟩
  · refine ⟨fun z => absurd rfl z, fun _ => ⟨vs, fun z => absurd rfl z, fun _ => ⟨vs, vs, ?_⟩⟩⟩
    rw [e, show nI k + (1 : Int32) = nI (k + 1) from n_add k 1]
    refine cm_cp hs hk (fun I' f1 p1 => hK I' (fun a ha => (f1 a ha).trans (sI_c ha)) (fun j => ?_))
    rw [p1 j, sI_c (by omega)]
    by_cases c : plT s k ≤ j ∧ j < plT s k + szT s
    · rw [if_pos c, if_pos c]
    · rw [if_neg c, if_neg c, if_pos rfl]
      by_cases q : j = s
      · rw [if_pos q, q, sI_at]
      · rw [if_neg q, sI_j q]
  · have hm : ¬ nI k = (-1 : Int32) := fun z => by
      have := n_eqm (a := k) (by omega)
      rw [show (-1 : Int32) = nM from rfl, this] at z
      exact z
    refine ⟨fun _ => ⟨fun _ => ?_, fun z => absurd hm z⟩, fun z => absurd hm z⟩
    refine cm_cp hs (by omega) (fun I' f1 p1 => hK I' f1 (fun j => ?_))
    rw [p1 j]
    by_cases c : plT s k ≤ j ∧ j < plT s k + szT s
    · rw [if_pos c, if_pos c]
    · rw [if_neg c, if_neg c, if_neg (by omega : ¬ k = n)]
      by_cases q : j = s
      · rw [if_pos q, q, e]
      · rw [if_neg q]
theorem endT_0 {x1 x2 : Int32} {K : Int32 → Bool → MI → ML → Prop} {b : Bool} {I : MI} {L : ML} (e : I 187 3 = nI 0) (h : keepT x1 x2 K b I L) : endT x1 x2 K b I L := by
  unfold endT
  rw [cl3, e]
  exact ⟨vp3A, fun _ => h, fun z => absurd rfl z⟩
theorem endT_1 {x1 x2 : Int32} {K : Int32 → Bool → MI → ML → Prop} {b : Bool} {I : MI} {L : ML} {q : Nat} (e : I 187 3 = nI q) (hq : q ≠ 0) (hq2 : q ≤ 4) (h : K nM b I L) : endT x1 x2 K b I L := by
  unfold endT
  rw [cl3, e, show (0 : Int32) = nI 0 from rfl, n_eq (by omega) (by omega)]
  exact ⟨vp3A, fun z => absurd z hq, fun _ => h⟩
