/-! TEXTS: class and reference -/
/-! the class's text -/
theorem c_fits {B : Bk} {a1 a2 : Int32} {I : MI} {L : ML} (ok : B.ok) (hc : bkC 1 B I) {b : Bool} {K : Int32 → Bool → MI → ML → Prop} (hy : (∃ s k, Fit B a1 a2 s k) → K (nI 1) b I L) (hf : (¬ ∃ s k, Fit B a1 a2 s k) → K (nI 0) b I L) : CI m_Book_fits [vr 10 1, vi a1, vi a2] b I L K := by
  obtain ⟨⟨k1, k2, k3, k4, k5⟩, k6, k7, k8⟩ := id hc
  obtain ⟨⟨o1, o2, o3, o4⟩, o5, o6, o7⟩ := id ok
  refine v_Book_fits_0 ⟨fun h0 => ⟨fun h1 => ⟨Or.inl rfl, hf (fun ⟨s, k, z, e, _⟩ => ?_)⟩, fun h1 => ?_⟩, fun h0 => ?_⟩
  · rcases (by omega : s = 0 ∨ s = 1) with rfl | rfl
    · exact h0 e
    · exact h1 e
  · have h1 : a1 = nI 1 := Decidable.not_not.mp h1
    have un : ∀ s k, Fit B a1 a2 s k → s = 1 := fun s k F => by
      have e := F.2.1
      have := F.1
      rw [h1, n_eq (by omega) (by omega)] at e
      exact e.symm
    refine ⟨fun z => ?_, fun z => ?_⟩
    · by_cases q : ∃ k, k < B.nt ∧ a2 = nI k
      · obtain ⟨k, hk, rfl⟩ := q
        exact c_hasT_y k2 (by omega) hk ⟨Or.inr rfl, hy ⟨1, k, by omega, h1, Or.inr ⟨rfl, hk⟩⟩⟩
      · refine c_hasT_n k2 (by omega) q ⟨Or.inl rfl, hf (fun ⟨s, k, F⟩ => ?_)⟩
        obtain rfl := un s k F
        rcases F.2.2 with w | w
        · exact z w.1
        · exact q ⟨k, w.2, w.1⟩
    · have z : a2 = nM := Decidable.not_not.mp z
      rw [k2, show (3 : Int32) = nI 3 from rfl, n_le (by omega) (by omega)]
      refine ⟨fun c => ⟨Or.inl rfl, hf (fun ⟨s, k, F⟩ => ?_)⟩, fun c => ⟨Or.inr rfl, hy ⟨1, B.nt, by omega, h1, Or.inl ⟨z, rfl, by omega⟩⟩⟩⟩
      obtain rfl := un s k F
      have cn : cnS B 1 = B.nt := rfl
      have := F.2.2
      rw [cn] at this
      rcases this with w | w
      · omega
      · have q := n_eqm (a := k) (by omega)
        rw [← w.1, z] at q
        exact q.mp rfl
  · have h1 : a1 = nI 0 := Decidable.not_not.mp h0
    have un : ∀ s k, Fit B a1 a2 s k → s = 0 := fun s k F => by
      have e := F.2.1
      have := F.1
      rw [h1, n_eq (by omega) (by omega)] at e
      exact e.symm
    refine ⟨fun z => ?_, fun z => ?_⟩
    · by_cases q : ∃ k, k < B.nv ∧ a2 = nI k
      · obtain ⟨k, hk, rfl⟩ := q
        exact c_hasV_y k1 (by omega) hk ⟨Or.inr rfl, hy ⟨0, k, by omega, h1, Or.inr ⟨rfl, hk⟩⟩⟩
      · refine c_hasV_n k1 (by omega) q ⟨Or.inl rfl, hf (fun ⟨s, k, F⟩ => ?_)⟩
        obtain rfl := un s k F
        rcases F.2.2 with w | w
        · exact z w.1
        · exact q ⟨k, w.2, w.1⟩
    · have z : a2 = nM := Decidable.not_not.mp z
      rw [k1, show (2 : Int32) = nI 2 from rfl, n_le (by omega) (by omega)]
      refine ⟨fun c => ⟨Or.inl rfl, hf (fun ⟨s, k, F⟩ => ?_)⟩, fun c => ⟨Or.inr rfl, hy ⟨0, B.nv, by omega, h1, Or.inl ⟨z, rfl, by omega⟩⟩⟩⟩
      obtain rfl := un s k F
      have cn : cnS B 0 = B.nv := rfl
      have := F.2.2
      rw [cn] at this
      rcases this with w | w
      · omega
      · have q := n_eqm (a := k) (by omega)
        rw [← w.1, z] at q
        exact q.mp rfl
theorem c_keepV {k n : Nat} {a2 : Int32} {I : MI} {L : ML} (e : I 1 3 = nI n) (hn : n ≤ 2) (hfit : a2 = nM ∧ k = n ∧ k < 2 ∨ a2 = nI k ∧ k < n) {b : Bool} {K : Int32 → Bool → MI → ML → Prop} (hK : ∀ I', (∀ a, a ≠ 1 → (a < 6 + 7 * k ∨ 13 + 7 * k ≤ a) → I' a = I a) → (∀ j, j ≠ 3 → I' 1 j = I 1 j) → I' 1 3 = nI (if k = n then n + 1 else n) → (∀ v : Vil, v.m ≤ 40 → vilC 140 v I → vilC (6 + 7 * k) v I') → K (nI k) b I' L) : CI m_Book_keep [vr 10 1, vr 19 140, vi a2] b I L K := by
  refine v_Book_keep_0 ?_
  simp only [Nat.reduceAdd]
  rcases hfit with ⟨rfl, rfl, hk⟩ | ⟨rfl, hk⟩
  · refine ⟨fun z => absurd rfl z, fun _ => ?_⟩
    rw [e, n_cl (by omega), show nI k + (1 : Int32) = nI (k + 1) from n_add k 1]
    refine ⟨vpN (by omega) (by omega), c_Village_copy (by omega) (fun I' f1 p1 => hK I' (fun a h1 h2 => (f1 a (by omega)).trans (sI_c h1)) (fun j hj => by rw [f1 1 (by omega), sI_j hj]) (by rw [f1 1 (by omega), sI_at, if_pos rfl]) (fun v hv q => cpV_vil (by omega) p1 (vilC_fr (fun a h1 h2 => sI_c (by omega)) q)))⟩
  · have hm1 : ¬ nI k = (-1 : Int32) := fun z => by
      have := n_eqm (a := k) (by omega)
      rw [show (-1 : Int32) = nM from rfl, this] at z
      exact z
    refine ⟨fun _ => ?_, fun z => absurd hm1 z⟩
    rw [n_cl (by omega)]
    exact ⟨vpN (by omega) (by omega), c_Village_copy (by omega) (fun I' f1 p1 => hK I' (fun a h1 h2 => f1 a (by omega)) (fun j hj => by rw [f1 1 (by omega)]) (by rw [f1 1 (by omega), if_neg (by omega)]; exact e) (fun v hv q => cpV_vil (by omega) p1 q))⟩
theorem c_keepT {k n : Nat} {a2 : Int32} {I : MI} {L : ML} (e : I 1 4 = nI n) (hn : n ≤ 3) (hfit : a2 = nM ∧ k = n ∧ k < 3 ∨ a2 = nI k ∧ k < n) {b : Bool} {K : Int32 → Bool → MI → ML → Prop} (hK : ∀ I', (∀ a, a ≠ 1 → (a < 20 + 5 * k ∨ 25 + 5 * k ≤ a) → I' a = I a) → (∀ j, j ≠ 4 → I' 1 j = I 1 j) → I' 1 4 = nI (if k = n then n + 1 else n) → (∀ v : Tel, v.n ≤ 30 → telC 147 v I → telC (20 + 5 * k) v I') → K (nI k) b I' L) : CI m_Book_keep_2 [vr 10 1, vr 18 147, vi a2] b I L K := by
  refine v_Book_keep_2_0 ?_
  simp only [Nat.reduceAdd]
  rcases hfit with ⟨rfl, rfl, hk⟩ | ⟨rfl, hk⟩
  · refine ⟨fun z => absurd rfl z, fun _ => ?_⟩
    rw [e, n_cl (by omega), show nI k + (1 : Int32) = nI (k + 1) from n_add k 1]
    refine ⟨vpN (by omega) (by omega), c_Telling_copy (by omega) (fun I' f1 p1 => hK I' (fun a h1 h2 => (f1 a (by omega)).trans (sI_c h1)) (fun j hj => by rw [f1 1 (by omega), sI_j hj]) (by rw [f1 1 (by omega), sI_at, if_pos rfl]) (fun v hv q => cpT_tel hv p1 (telC_fr (fun a h1 h2 => sI_c (by omega)) q)))⟩
  · have hm1 : ¬ nI k = (-1 : Int32) := fun z => by
      have := n_eqm (a := k) (by omega)
      rw [show (-1 : Int32) = nM from rfl, this] at z
      exact z
    refine ⟨fun _ => ?_, fun z => absurd hm1 z⟩
    rw [n_cl (by omega)]
    exact ⟨vpN (by omega) (by omega), c_Telling_copy (by omega) (fun I' f1 p1 => hK I' (fun a h1 h2 => f1 a (by omega)) (fun j hj => by rw [f1 1 (by omega)]) (by rw [f1 1 (by omega), if_neg (by omega)]; exact e) (fun v hv q => cpT_tel hv p1 q))⟩
theorem bkC_hd {B : Bk} {fl : Nat} {fa : Int32} {I I' : MI} (ok : B.ok) (h : ∀ a, a ≠ 1 → a ≠ 4 → a < 36 → I' a = I a) (h1 : ∀ j, j ≠ 5 → j ≠ 6 → I' 1 j = I 1 j) (h5 : I' 1 5 = nI fl) (h6 : I' 1 6 = fa) (h4 : I' 4 1 = nI 0) (k : bkC 1 B I) : bkC 1 (mkB B.nv B.nt 0 fl fa B.yt B.vl B.tl) I' := by
  obtain ⟨⟨k1, k2, k3, k4, k5⟩, k6, k7, k8⟩ := k
  obtain ⟨⟨o1, o2, o3, o4⟩, o5, o6, o7⟩ := ok
  refine ⟨⟨(h1 3 (by omega) (by omega)).trans k1, (h1 4 (by omega) (by omega)).trans k2, h5, h6, h4⟩, fun j hj => absurd hj (Nat.not_lt_zero _), fun j hj => ?_, fun j hj => ?_⟩
  · have hj : j < B.nv := hj
    exact vilC_fr (fun a h1 h2 => h a (by omega) (by omega) (by omega)) (k7 j hj)
  · have hj : j < B.nt := hj
    exact telC_fr (fun a h1 h2 => h a (by omega) (by omega) (by omega)) (k8 j hj)
theorem c_textN {B : Bk} {a1 a2 : Int32} {I : MI} {L : ML} (ok : B.ok) (hc : bkC 1 B I) (F : ¬ ∃ s k, Fit B a1 a2 s k) {b : Bool} {K : Int32 → Bool → MI → ML → Prop} (hK : ∀ I', (∀ a, 36 ≤ a → a < 139 ∨ 153 ≤ a → I' a = I a) → bkC 1 (mkB B.nv B.nt 0 0 nM B.yt B.vl B.tl) I' → K (-2 : Int32) b I' L) : CI m_S_text [vr 21 0, vi a1, vi a2] b I L K := by
  refine v_S_text_0 (c_fits ok hc (fun z => absurd z F) (fun _ => ?_))
  refine ⟨fun _ => ⟨fun _ => ⟨fun _ => ⟨fun z => absurd rfl z, fun _ => ?_⟩, fun z => absurd rfl z⟩, fun z => absurd rfl z⟩, fun z => absurd rfl z⟩
  refine hK _ (fun a h1 h2 => by rw [sI_c (by omega), sI_c (by omega), sI_c (by omega)]) (bkC_hd ok (fun a h1 h2 h3 => by rw [sI_c h1, sI_c h1, sI_c h2]) (fun j h5 h6 => by rw [sI_j h6, sI_j h5, sI_c (by omega)]) ?_ ?_ ?_ hc)
  · rw [sI_j (by omega), sI_at]
    rfl
  · rw [sI_at]
    rfl
  · rw [sI_c (by omega), sI_c (by omega), sI_at]
    rfl
theorem c_textF {B : Bk} {a1 a2 : Int32} {s k : Nat} {I : MI} {L : ML} (ok : B.ok) (hc : bkC 1 B I) (F : Fit B a1 a2 s k) {b : Bool} {K : Int32 → Bool → MI → ML → Prop} (hK : ∀ b' I', (∀ a, 36 ≤ a → a < 139 ∨ 153 ≤ a → I' a = I a) → bkC 1 (txB B s k (parS B.yt B.ln s)) I' → K (if (parS B.yt B.ln s).fl = 0 then nI k else nM) b' I' L) : CI m_S_text [vr 21 0, vi a1, vi a2] b I L K := by
  obtain ⟨⟨k1, k2, k3, k4, k5⟩, k6, k7, k8⟩ := id hc
  obtain ⟨⟨o1, o2, o3, o4⟩, o5, o6, o7⟩ := id ok
  obtain ⟨hs, rfl, hfit⟩ := id F
  refine v_S_text_0 (c_fits ok hc (fun _ => ?_) (fun z => absurd ⟨s, k, F⟩ z))
  obtain ⟨p1, p2⟩ := parS_ok (y := B.yt) (sort := s) o3
  refine ⟨fun z => absurd z (by decide), fun _ => ?_⟩
  refine c_read hs ⟨⟨k5, o3⟩, k6, o5⟩ (fun I1 f1 R1 => ?_)
  generalize parS B.yt B.ln s = S at R1 p1 p2 hK
  refine ⟨fun z => absurd z (by decide), fun _ => ⟨fun z => absurd z (by decide), fun _ => ⟨fun _ => ?_, fun z => absurd (by decide) z⟩⟩⟩
  have e2 := R1.1.1
  have e3 := R1.1.2
  have hn2 : ∀ a, a ≠ 1 → a ≠ 4 → (sI (sI (sI I1 4 1 (0 : Int32)) 1 5 (I1 139 2)) 1 6 (I1 139 3)) a = I1 a := fun a h1 h4 => by rw [sI_c h1, sI_c h1, sI_c h4]
  have h1j : ∀ j, j ≠ 5 → j ≠ 6 → (sI (sI (sI I1 4 1 (0 : Int32)) 1 5 (I1 139 2)) 1 6 (I1 139 3)) 1 j = I 1 j := fun j h5 h6 => by rw [sI_j h6, sI_j h5, sI_c (by omega), f1 1 (by omega)]
  have h15 : (sI (sI (sI I1 4 1 (0 : Int32)) 1 5 (I1 139 2)) 1 6 (I1 139 3)) 1 5 = nI S.fl := by rw [sI_j (by omega), sI_at, e2]
  have h16 : (sI (sI (sI I1 4 1 (0 : Int32)) 1 5 (I1 139 2)) 1 6 (I1 139 3)) 1 6 = if S.fl = 0 then nM else nI S.pl := by rw [sI_at, e3]
  have h41 : (sI (sI (sI I1 4 1 (0 : Int32)) 1 5 (I1 139 2)) 1 6 (I1 139 3)) 4 1 = nI 0 := by
    rw [sI_c (by omega), sI_c (by omega), sI_at]
    rfl
  unfold txB at hK
  generalize (sI (sI (sI I1 4 1 (0 : Int32)) 1 5 (I1 139 2)) 1 6 (I1 139 3)) = I2 at hn2 h1j h15 h16 h41
  rw [e2, show (0 : Int32) = nI 0 from rfl, n_eq (by omega) (by omega)]
  have fa : ∀ a, 36 ≤ a → a < 139 ∨ 153 ≤ a → I2 a = I a := fun a h1 h2 => (hn2 a (by omega) (by omega)).trans (f1 a (by omega))
  refine ⟨fun h0 => ?_, fun h0 => ?_⟩
  · rw [if_pos h0, if_pos h0] at hK
    rw [if_pos h0] at h16
    obtain ⟨p3, p4⟩ := p2 h0
    obtain ⟨r1, r2, r3, r4⟩ := R1.2 h0
    rcases (by omega : s = 0 ∨ s = 1) with rfl | rfl
    · rw [if_pos rfl] at hK
      have hfit : a2 = nM ∧ k = B.nv ∧ k < 2 ∨ a2 = nI k ∧ k < B.nv := hfit
      have hk2 : k < 2 ∧ k ≤ B.nv := by omega
      refine ⟨fun z => absurd rfl z, fun _ => c_keepV ((h1j 3 (by omega) (by omega)).trans k1) o1 hfit (fun I3 f3 g3 q3 v3 => ?_)⟩
      refine hK _ I3 (fun a h1 h2 => (f3 a (by omega) (by omega)).trans (fa a h1 h2)) ⟨⟨q3, ?_, ?_, ?_, ?_⟩, fun j hj => absurd hj (Nat.not_lt_zero _), fun j hj => ?_, fun j hj => ?_⟩
      · rw [g3 4 (by omega), h1j 4 (by omega) (by omega)]
        exact k2
      · rw [g3 5 (by omega), h15, h0]
        rfl
      · rw [g3 6 (by omega), h16]
        rfl
      · rw [f3 4 (by omega) (by omega), h41]
        rfl
      · have hj : j < (if k = B.nv then B.nv + 1 else B.nv) := hj
        show vilC (1 + 5 + 7 * j) (if j = k then S.vv else B.vl j) I3
        simp only [Nat.reduceAdd]
        by_cases e : j = k
        · rw [if_pos e, e]
          exact v3 _ (p4 rfl).2.1 (vilC_fr (fun a h1 h2 => hn2 a (by omega) (by omega)) r2)
        · rw [if_neg e]
          have hj2 : j < B.nv := by
            split at hj <;> omega
          have := k7 j hj2
          simp only [Nat.reduceAdd] at this
          exact vilC_fr (fun a h1 h2 => by rw [f3 a (by omega) (by omega), hn2 a (by omega) (by omega), f1 a (by omega)]) this
      · have hj : j < B.nt := hj
        exact telC_fr (fun a h1 h2 => by rw [f3 a (by omega) (by omega), hn2 a (by omega) (by omega), f1 a (by omega)]) (k8 j hj)
    · rw [if_neg (by decide)] at hK
      have hfit : a2 = nM ∧ k = B.nt ∧ k < 3 ∨ a2 = nI k ∧ k < B.nt := hfit
      have hk2 : k < 3 ∧ k ≤ B.nt := by omega
      refine ⟨fun _ => c_keepT ((h1j 4 (by omega) (by omega)).trans k2) o2 hfit (fun I3 f3 g3 q3 v3 => ?_), fun z => absurd (by decide) z⟩
      refine hK _ I3 (fun a h1 h2 => (f3 a (by omega) (by omega)).trans (fa a h1 h2)) ⟨⟨?_, q3, ?_, ?_, ?_⟩, fun j hj => absurd hj (Nat.not_lt_zero _), fun j hj => ?_, fun j hj => ?_⟩
      · rw [g3 3 (by omega), h1j 3 (by omega) (by omega)]
        exact k1
      · rw [g3 5 (by omega), h15, h0]
        rfl
      · rw [g3 6 (by omega), h16]
        rfl
      · rw [f3 4 (by omega) (by omega), h41]
        rfl
      · have hj : j < B.nv := hj
        exact vilC_fr (fun a h1 h2 => by rw [f3 a (by omega) (by omega), hn2 a (by omega) (by omega), f1 a (by omega)]) (k7 j hj)
      · have hj : j < (if k = B.nt then B.nt + 1 else B.nt) := hj
        show telC (1 + 19 + 5 * j) (if j = k then S.tt else B.tl j) I3
        simp only [Nat.reduceAdd]
        by_cases e : j = k
        · rw [if_pos e, e]
          exact v3 _ p3.1 (telC_fr (fun a h1 h2 => hn2 a (by omega) (by omega)) r3)
        · rw [if_neg e]
          have hj2 : j < B.nt := by
            split at hj <;> omega
          have := k8 j hj2
          simp only [Nat.reduceAdd] at this
          exact telC_fr (fun a h1 h2 => by rw [f3 a (by omega) (by omega), hn2 a (by omega) (by omega), f1 a (by omega)]) this
  · rw [if_neg h0, if_neg h0] at hK
    rw [if_neg h0] at h16
    exact hK _ I2 fa (bkC_hd ok (fun a h1 h2 h3 => (hn2 a h1 h2).trans (f1 a (by omega))) h1j h15 h16 h41 hc)
