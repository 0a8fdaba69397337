/-! WHAT-IFS: worst, against the reference -/
theorem WM_26 {v : Vil} {t : Tel} {x : Wi} {o : Nat} {w : Wd} {I I' : MI} {L L' : ML} (h : WM v t x o w I L) (h1 : ∀ j, j < 27 → j ≠ 26 → I' 186 j = I 186 j) (h2 : I' 187 = I 187) (h3 : L' 186 = L 186) : WM v t x o w (sI I' 186 26 (nI x.al.toNat)) L' := by
  have e := h.2.2.2.1.1
  refine h.fr (fun j hj => ?_) ((sI_c (by omega)).trans h2) h3
  by_cases c : j = 26
  · subst c
    rw [sI_at, e]
  · rw [sI_j c, h1 j hj c]
theorem WM_b1 {v : Vil} {t : Tel} {f g : Nat → Bool} {o : Nat} {w : Wd} {I : MI} {L : ML} {m : Int32} (hm : ∀ p, p < 32 → bt m p = g p) (h : WM v t (bgX f) o w I L) : WM v t (bgX g) o (mkW w.v v.m t (bgX g)) (sI I 186 25 m) L :=
  WM_bg hm (Or.inr ⟨f, rfl⟩) h.2.2.2.1.1 (WM_26 h (fun _ _ _ => rfl) rfl rfl)
theorem WM_b0 {v : Vil} {t : Tel} {o : Nat} {w : Wd} {I : MI} {L : ML} (h : WM v t wi0 o w I L) : WM v t (bgX (fun p => bt (I 186 25) p)) o (mkW w.v v.m t (bgX (fun p => bt (I 186 25) p))) (sI I 186 26 (nI 1)) L := by
  have W := WM_bg (I := sI I 186 26 (nI 1)) (m := I 186 25) (g := fun p => bt (I 186 25) p) (fun p _ => rfl) (Or.inl rfl) (sI_at _ _ _ _) (WM_26 (I' := sI I 186 26 (nI 1)) (L' := L) h (fun j _ hj => sI_j hj) (sI_c (by omega)) rfl)
  refine W.fr (fun j hj => ?_) (by rw [sI_c (by omega), sI_c (by omega), sI_c (by omega)]) rfl
  by_cases c : j = 25
  · subst c
    rw [sI_at, sI_j (by omega)]
  · rw [sI_j (I := sI I 186 26 (nI 1)) c]
def woE (B : Bk) (a1 a2 : Int32) (q p : Nat) : Nat := if q ≤ 1 then woA B a1 a2 p else woL B a1 a2 p
