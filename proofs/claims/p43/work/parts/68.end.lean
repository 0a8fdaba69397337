/-! WHAT-IFS: how many hold in the end; a person silent -/
def rdN : Option (Nat × Nat) → Nat
  | none => 200
  | some r => r.1
def endN (w : Wd) : Nat := hdN w (rdN (rgU w 201))
theorem rd_le {w : Wd} : rdN (rgU w 201) ≤ 200 := by
  cases e : rgU w 201 with
  | none => exact Nat.le_refl 200
  | some r =>
    have := rgU_in e
    show r.1 ≤ 200
    omega
theorem endN_le (w : Wd) : endN w ≤ w.v.n := hdN_le _ _
def siX (f : Nat → Bool) : Wi := mkX false (fun _ => false) (fun _ => false) 0 0 f (fun _ => false) (fun _ => false) 0
theorem siX_ok (f : Nat → Bool) : (siX f).ok := wi0_ok
theorem siX_0 : siX (fun _ => false) = wi0 := rfl
/-- a village and a telling in the class's cells, under a what-if -/
def lif (B : Bk) (a1 a2 : Int32) (x : Wi) (I : MI) (L : ML) : Prop := lifeP (B.vl a1.toNatClampNeg) (B.vl a1.toNatClampNeg).m (B.tlOf a2) x I L
def Bk.wx (B : Bk) (a1 a2 : Int32) (x : Wi) : Wd := mkW (B.vl a1.toNatClampNeg) (B.vl a1.toNatClampNeg).m (B.tlOf a2) x
theorem lif_W {B : Bk} {a1 a2 : Int32} {x : Wi} {I : MI} {L : ML} (ok : B.ok) (g : tkB B a1 a2 = true) (hx : x.ok) (h : lif B a1 a2 x I L) : WL (B.wx a1 a2 x) I L := by
  obtain ⟨k, hk, rfl, ek, hv, ht⟩ := tk_in ok g
  unfold lif at h
  unfold Bk.wx
  rw [ek] at h ⊢
  exact ⟨_, _, _, _, rfl, ok41 hv, ht, hx, h⟩
theorem givP_fr {m0 : Nat} {t : Tel} {I I' : MI} {L L' : ML} (h1 : ∀ j, j < 6 → I' 161 j = I 161 j) (h2 : I' 162 = I 162) (h3 : I' 163 = I 163) (h4 : L' 164 = L 164) (h : givP m0 t I L) : givP m0 t I' L' := by
  unfold givP at h ⊢
  rw [h1 3 (by omega), h1 4 (by omega), h1 5 (by omega), h2, h3, h4]
  exact h
theorem lif_fr {B : Bk} {a1 a2 : Int32} {x : Wi} {I I' : MI} {L L' : ML} (h1 : ∀ a, 154 ≤ a → a < 165 → I' a = I a) (h2 : ∀ a, a = 161 ∨ a = 164 → L' a = L a) (h : lif B a1 a2 x I L) : lif B a1 a2 x I' L' := by
  obtain ⟨g1, g2, g3⟩ := h
  refine ⟨vilC_fr (fun a q1 q2 => h1 a (by omega) (by omega)) g1, givP_fr (fun j _ => by rw [h1 161 (by omega) (by omega)]) (h1 162 (by omega) (by omega)) (h1 163 (by omega) (by omega)) (h2 164 (by omega)) g2, ?_⟩
  unfold wiP at g3 ⊢
  rw [h1 161 (by omega) (by omega), h2 161 (by omega)]
  exact g3
theorem lif_si {B : Bk} {a1 a2 : Int32} {f g : Nat → Bool} {I : MI} {L : ML} {m : Int32} (hm : ∀ p, p < 32 → bt m p = g p) (h : lif B a1 a2 (siX f) I L) : lif B a1 a2 (siX g) (sI I 161 11 m) L := by
  obtain ⟨g1, g2, g3⟩ := h
  refine ⟨vilC_fr (fun a q1 q2 => sI_c (by omega)) g1, givP_fr (fun j hj => sI_j (by omega)) (sI_c (by omega)) (sI_c (by omega)) rfl g2, ?_⟩
  unfold wiP at g3 ⊢
  obtain ⟨z1, z2, z3, z4, z5, z6, z7, z8⟩ := g3
  refine ⟨?_, ?_, ?_, ?_, ?_, z6, z7, ?_⟩
  · rw [sI_j (by omega)]
    exact z1
  · rw [sI_j (by omega)]
    exact z2
  · rw [sI_j (by omega)]
    exact z3
  · rw [sI_j (by omega), sI_j (by omega)]
    exact z4
  · rw [sI_at]
    exact hm
  · rw [sI_j (by omega)]
    exact z8
