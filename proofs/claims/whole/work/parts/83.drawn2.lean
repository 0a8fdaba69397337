/-! WHAT-IFS: drawn worlds, the class: holders, clean -/
def drW (B : Bk) (a1 a2 x : Int32) : Wd := B.wx a1 a2 (wi0.wdd (drB (B.wd a1 a2).v x))
theorem c_drawnHolders {B : Bk} {a1 a2 x : Int32} {f : Nat → Bool} {d : Nat} {I : MI} {L : ML} (ok : B.ok) (g2 : tkB B a1 a2 = true) (hv : (B.wd a1 a2).v.ok 41) (hd : d ≤ 200) (l0 : lif B a1 a2 (wi0.wdd f) I L) {b : Bool} {K : Int32 → Bool → MI → ML → Prop} (hK : ∀ I' L', (∀ a, a < 154 ∨ 186 ≤ a → I' a = I a) → lif B a1 a2 (wi0.wdd (drB (B.wd a1 a2).v x)) I' L' → K (hdI (drW B a1 a2 x) d) b I' L') : CI m_Search_drawnHolders [vr 15 181, vi x, vi (nI d)] b I L K := by
  have hn := hv.1.2
  refine v_Search_drawnHolders_0 (c_drawnDead (v := (B.wd a1 a2).v) hv l0.1 (fun y hy => v_Given_kill_0 ?_))
  have l2 : lif B a1 a2 (wi0.wdd (drB (B.wd a1 a2).v x)) I (sL L 161 12 y) := lif_dd (x := wi0.wdd f) (g := drB (B.wd a1 a2).v x) hy l0
  have W2 := lif_W ok g2 (wdd_ok wi0_ok _) l2
  refine c_live (w := drW B a1 a2 x) (s0 := 0) (U := d + 1) (by omega) (by omega) (Or.inr ⟨by omega, rfl⟩) (Or.inl rfl) W2 (fun e he => absurd he (Nat.not_lt_zero _)) (by omega) (fun N I2 L2 f2 m2 n1 n2 rows R _ hN _ => ?_)
  have hN := hN rfl
  have l3 := lif_fr (I' := I2) (L' := L2) (fun a q1 q2 => f2 a (by omega)) (fun a ha => m2 a (by omega) (by omega) (by omega)) l2
  have kk := hK I2 L2 (fun a ha => f2 a (by omega)) l3
  exact c_holdersOn (w := drW B a1 a2 x) hd hn (rows d (by omega)) kk
theorem c_isDrawnClean {B : Bk} {a1 a2 x : Int32} {f : Nat → Bool} {I : MI} {L : ML} (ok : B.ok) (g2 : tkB B a1 a2 = true) (hv : (B.wd a1 a2).v.ok 41) (l0 : lif B a1 a2 (wi0.wdd f) I L) {b : Bool} {K : Int32 → Bool → MI → ML → Prop} (hK : ∀ I' L', (∀ a, a < 154 ∨ 186 ≤ a → I' a = I a) → lif B a1 a2 (wi0.wdd (drB (B.wd a1 a2).v x)) I' L' → K (nI (cleanB (drW B a1 a2 x)).toNat) b I' L') : CI m_Search_isDrawnClean [vr 15 181, vi x] b I L K := by
  have hn := hv.1.2
  refine v_Search_isDrawnClean_0 (c_drawnDead (v := (B.wd a1 a2).v) hv l0.1 (fun y hy => v_Given_kill_0 ?_))
  have l2 : lif B a1 a2 (wi0.wdd (drB (B.wd a1 a2).v x)) I (sL L 161 12 y) := lif_dd (x := wi0.wdd f) (g := drB (B.wd a1 a2).v x) hy l0
  have W2 := lif_W ok g2 (wdd_ok wi0_ok _) l2
  refine c_live (w := drW B a1 a2 x) (s0 := 0) (U := 201) (by omega) (by omega) (Or.inr ⟨by omega, rfl⟩) (Or.inr rfl) W2 (fun e he => absurd he (Nat.not_lt_zero _)) (by omega) (fun N I2 L2 f2 m2 n1 n2 rows R _ _ hs => ?_)
  obtain ⟨s1, s2⟩ := hs rfl
  have l3 := lif_fr (I' := I2) (L' := L2) (fun a q1 q2 => f2 a (by omega)) (fun a ha => m2 a (by omega) (by omega) (by omega)) l2
  have kk := hK I2 L2 (fun a ha => f2 a (by omega)) l3
  unfold cleanB at kk
  rw [rgU_stop n2 s1] at kk
  have ho : ∀ r, rgU (drW B a1 a2 x) N = some r → r.1 + r.2 ≤ N := fun r hr => by
    have := rgU_in hr
    omega
  refine c_isClean (w := drW B a1 a2 x) (M := N) (o := rgU (drW B a1 a2 x) N) hn n2 rows R ho ⟨?_, kk⟩
  cases clO (drW B a1 a2 x) (rgU (drW B a1 a2 x) N)
  · exact Or.inl rfl
  · exact Or.inr rfl
