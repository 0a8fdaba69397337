/-! one instruction: fields and arrays of numbers -/
theorem vw_at : ∀ z, z < 12 → vwCl[z]? = some (cN z, cT z, cF z) := by
  intro z h
  match z, h with
  | 0, _ => rfl
  | 1, _ => rfl
  | 2, _ => rfl
  | 3, _ => rfl
  | 4, _ => rfl
  | 5, _ => rfl
  | 6, _ => rfl
  | 7, _ => rfl
  | 8, _ => rfl
  | 9, _ => rfl
  | 10, _ => rfl
  | 11, _ => rfl
  | n + 12, h => exact absurd h (by omega)
def cTy (z : Nat) : Nat → FieldType := nth (fun _ => .int) [tyX0, tyX1, tyX2, tyX3, tyX4, tyX5, tyX6, tyX7, tyX8, tyX9, tyX10, tyX11] z
theorem cTy_ok : ∀ z, z < 12 → ∀ k, k < cF z → parseFieldDescriptor (cT z k).2.2.1 = some (cTy z k) := by
  intro z h
  match z, h with
  | 0, _ => exact tyX0_ok
  | 1, _ => exact tyX1_ok
  | 2, _ => exact tyX2_ok
  | 3, _ => exact tyX3_ok
  | 4, _ => exact tyX4_ok
  | 5, _ => exact tyX5_ok
  | 6, _ => exact tyX6_ok
  | 7, _ => exact tyX7_ok
  | 8, _ => exact tyX8_ok
  | 9, _ => exact tyX9_ok
  | 10, _ => exact tyX10_ok
  | 11, _ => exact tyX11_ok
  | n + 12, h => exact absurd h (by omega)
theorem cNm_ok : ∀ z, z < 12 → ∀ a, a < cF z → ∀ b, b < cF z → a ≠ b → (cT z a).2.1 ≠ (cT z b).2.1 := by
  intro z h
  match z, h with
  | 0, _ => exact nmX0
  | 1, _ => exact nmX1
  | 2, _ => exact nmX2
  | 3, _ => exact nmX3
  | 4, _ => exact nmX4
  | 5, _ => exact nmX5
  | 6, _ => exact nmX6
  | 7, _ => exact nmX7
  | 8, _ => exact nmX8
  | 9, _ => exact nmX9
  | 10, _ => exact nmX10
  | 11, _ => exact nmX11
  | n + 12, h => exact absurd h (by omega)
/-- the words of the fields of our classes -/
def LayW : Prop := ∀ z, z < 12 → ∀ w ∈ u_ws (cN z) (cT z) (cF z), w ∈ lw_tbl ∧ goodWord w = true
theorem ok_ref {S : DS} {t k : Nat} (h : okV S (.inr (.inr (t, k)))) (ht : 6 ≤ t) : S.kd k = t ∧ k < S.n := by
  rcases h with h | h | h | h | h | h
  · omega
  · omega
  · omega
  · exact h.2
  · omega
  · omega
theorem ok_4 {S : DS} {k : Nat} (h : okV S (.inr (.inr (4, k)))) : tS (S.kd k) = 6 ∧ k < S.n := by
  rcases h with h | h | h | h | h | h
  · omega
  · omega
  · omega
  · omega
  · exact h.2
  · omega
theorem tS_lt {t : Nat} (h : tS t < 7) : 100 ≤ t := by
  unfold tS at h
  cases hb : Nat.ble 100 t with
  | true => exact Nat.le_of_ble_eq_true hb
  | false => rw [hb] at h; exact absurd h (Nat.lt_irrefl 7)
theorem ble_100 {t : Nat} (h : 100 ≤ t) : Nat.ble 100 t = true := Nat.ble_eq_true_of_le h
theorem ble_13 {z : Nat} (h : z < 12) : Nat.ble 100 (10 + z) = false := by
  cases hb : Nat.ble 100 (10 + z) with
  | false => rfl
  | true => exact absurd (Nat.le_of_ble_eq_true hb) (by omega)
theorem map_set {α : Type} (n x : Nat) (g : Nat → α) (v : α) : ((List.range n).map g).set x v = (List.range n).map (fun j => if j = x then v else g j) := by
  apply List.ext_getElem?
  intro i
  by_cases hi : i < n
  · rw [List.getElem?_map, List.getElem?_range hi]
    by_cases hx : i = x
    · subst hx
      rw [List.getElem?_set_self (by simp; exact hi)]
      simp
    · rw [List.getElem?_set_ne (Ne.symm hx), List.getElem?_map, List.getElem?_range hi]
      simp [hx]
  · rw [List.getElem?_eq_none (by simp; omega), List.getElem?_eq_none (by simp; omega)]
section WSO
variable {ad : Nat → Nat} {b : Nat} {adK : Nat → Nat} {cA : Nat → ClassId} {S : DS} {I : MI} {L : ML}
theorem ws_at {k : Nat} (h : k < S.n) : (wsO ad b adK cA S I L)[k]? = some (ad k, ent ad b adK cA S I L k) := by
  unfold wsO
  rw [List.getElem?_map, List.getElem?_range h]
  rfl
theorem ws_in {k : Nat} {q : Nat × va_E} (h : (wsO ad b adK cA S I L)[k]? = some q) : k < S.n ∧ q = (ad k, ent ad b adK cA S I L k) := by
  have hl := (List.getElem?_eq_some_iff.mp h).1
  have hk : k < S.n := by
    have : (wsO ad b adK cA S I L).length = S.n := by unfold wsO; simp
    omega
  rw [ws_at hk] at h
  exact ⟨hk, (Option.some.inj h).symm⟩
theorem ws_set {I' : MI} {L' : ML} {k : Nat} {e : va_E} (he : ent ad b adK cA S I' L' k = e) (ho : ∀ j, j ≠ k → ent ad b adK cA S I' L' j = ent ad b adK cA S I L j) : (wsO ad b adK cA S I L).set k (ad k, e) = wsO ad b adK cA S I' L' := by
  unfold wsO
  rw [map_set]
  apply List.map_congr_left
  intro j _
  by_cases hj : j = k
  · subst hj
    rw [if_pos rfl, he]
  · rw [if_neg hj, ho j hj]
theorem ent_obj {k z : Nat} (h : S.kd k = 10 + z) (hz : z < 12) : ent ad b adK cA S I L k = .inr (z, (List.range (cF z)).map (ofv ad b adK S I L k)) := by
  unfold ent
  rw [h, ble_13 hz]
  rw [show 10 + z - 10 = z by omega]
theorem ent_i {k t : Nat} (h : S.kd k = t) (ht : tS t = 0) : ent ad b adK cA S I L k = .inl (cA 0, tN t, .inl (I k)) := by
  unfold ent
  rw [h, ble_100 (tS_lt (by omega)), ht]
  try rfl
theorem ent_z {k t : Nat} (h : S.kd k = t) (ht : tS t = 1) : ent ad b adK cA S I L k = .inl (cA 1, tN t, .inl (I k)) := by
  unfold ent
  rw [h, ble_100 (tS_lt (by omega)), ht]
  try rfl
theorem ent_l {k t : Nat} (h : S.kd k = t) (ht : tS t = 2) : ent ad b adK cA S I L k = .inl (cA 2, tN t, .inr (.inl (L k))) := by
  unfold ent
  rw [h, ble_100 (tS_lt (by omega)), ht]
  try rfl
theorem ent_d {k t : Nat} (h : S.kd k = t) (ht : tS t = 6) : ent ad b adK cA S I L k = .inl (cA 0, tN t, .inl (I k)) := by
  unfold ent
  rw [h, ble_100 (tS_lt (by omega)), ht]
  try rfl
theorem ent_I {I' : MI} {j : Nat} (h : I' j = I j) : ent ad b adK cA S I' L j = ent ad b adK cA S I L j := by
  have e : ofv ad b adK S I' L j = ofv ad b adK S I L j := by
    funext i
    unfold ofv
    rw [h]
  unfold ent
  rw [h, e]
theorem ent_L {L' : ML} {j : Nat} (h : L' j = L j) : ent ad b adK cA S I L' j = ent ad b adK cA S I L j := by
  have e : ofv ad b adK S I L' j = ofv ad b adK S I L j := by
    funext i
    unfold ofv
    rw [h]
  unfold ent
  rw [h, e]
end WSO
theorem sI_o {I : MI} {k j a : Nat} {v : Int32} (h : a ≠ k) : sI I k j v a = I a := by
  funext b
  unfold sI
  rw [if_neg h]
theorem sL_o {L : ML} {k j a : Nat} {v : Int64} (h : a ≠ k) : sL L k j v a = L a := by
  funext b
  unfold sL
  rw [if_neg h]
theorem sI_k {I : MI} {k j : Nat} {v : Int32} : sI I k j v k = upd (I k) j v := by
  funext b
  unfold sI upd
  rw [if_pos rfl]
theorem sL_k {L : ML} {k j : Nat} {v : Int64} : sL L k j v k = vp_updL (L k) j v := by
  funext b
  unfold sL vp_updL
  rw [if_pos rfl]
theorem aI_o {I : MI} {k a : Nat} {f : Nat → Int32} (h : a ≠ k) : aI I k f a = I a := by
  unfold aI
  rw [if_neg h]
theorem aI_k {I : MI} {k : Nat} {f : Nat → Int32} : aI I k f k = f := by
  unfold aI
  rw [if_pos rfl]
theorem aL_o {L : ML} {k a : Nat} {f : Nat → Int64} (h : a ≠ k) : aL L k f a = L a := by
  unfold aL
  rw [if_neg h]
section RHS
variable {ad : Nat → Nat} {D : va_G} {cA : Nat → ClassId} {base b Ls : Nat} {xs : Nat → Int32} {adK adV : Nat → Nat} {T : Nat} {S : DS} {I : MI} {L : ML} {H : Heap}
theorem RH.lt (h : RH D cA base b Ls xs adK T ad S I L H) : S.n < 100000 := by
  obtain ⟨-, -, -, -, -, -, h1, h2⟩ := h
  omega
/-- another memory over the same cells -/
theorem RH.to {I' : MI} {L' : ML} {H' : Heap} (h : RH D cA base b Ls xs adK T ad S I L H) (hP : va_P D vwCl (wsO ad b adK cA S I' L') H') (hD : va_D (AO base) (wsO ad b adK cA S I' L')) (hI : ∀ a, S.n ≤ a → I' a = I a) : RH D cA base b Ls xs adK T ad S I' L' H' := by
  have hn := h.lt
  obtain ⟨-, h2, h3, h4, h5, h6, h7, h8⟩ := h
  exact ⟨hP, hD, h3, fun k hk => ⟨(h4 k hk).1, fun q => by rw [hI _ (by omega)]; exact (h4 k hk).2 q⟩, by rw [hI _ (by omega)]; exact h5, fun j hj => by rw [hI _ (by omega)]; exact h6 j hj, h7, h8⟩
end RHS
