/-! SIMPLE QUESTIONS: act, end -/
def qAct (t : Tel) (j : Nat) (a : Int32) : Int32 := if a = nI 0 then nI (t.so j) else if a = nI 1 then nI (t.a j) else if a = nI 2 then nI (t.b j) else if a = nI 3 then t.ci j else -nI 2
theorem n_negM : nM < nI 0 := by decide
/-- the tape's length alone is another one -/
theorem bkC_ln {B : Bk} {I I' : MI} {n : Nat} (hn : n ≤ B.ln) (h : ∀ a, a ≠ 4 → a < 36 → I' a = I a) (h1 : I' 4 1 = nI n) (ok : B.ok) (k : bkC 1 B I) : bkC 1 (mkB B.nv B.nt n B.fl B.fa B.yt B.vl B.tl) I' := by
  obtain ⟨⟨k1, k2, k3, k4, k5⟩, k6, k7, k8⟩ := k
  obtain ⟨⟨o1, o2, o3, o4⟩, o5, o6, o7⟩ := ok
  refine ⟨⟨?_, ?_, ?_, ?_, h1⟩, fun j hj => ?_, fun j hj => ?_, fun j hj => ?_⟩
  · rw [h 1 (by decide) (by decide)]; exact k1
  · rw [h 1 (by decide) (by decide)]; exact k2
  · rw [h 1 (by decide) (by decide)]; exact k3
  · rw [h 1 (by decide) (by decide)]; exact k4
  · have hj : j < n := hj
    rw [h 5 (by decide) (by decide)]
    exact k6 j (by omega)
  · have hj : j < B.nv := hj
    exact vilC_fr (fun a h1 h2 => h a (by omega) (by omega)) (k7 j hj)
  · have hj : j < B.nt := hj
    exact telC_fr (fun a h1 h2 => h a (by omega) (by omega)) (k8 j hj)
