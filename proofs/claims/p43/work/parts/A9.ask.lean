/-! THE LAW'S QUESTIONS, of what it has told -/
def qF (I I' : MI) : Prop := ∀ a, a < 139 ∨ 186 ≤ a → I' a = I a
theorem qF.lw {I I' : MI} (h : qF I I') : lwF I I' := fun a ha => h a (by omega)
theorem qF.trans {I J K : MI} (h : qF I J) (g : qF J K) : qF I K := fun a ha => (g a ha).trans (h a ha)
theorem LwS.qf {B : Bk} {I I' : MI} (h : LwS B I) (f : qF I I') : LwS B I' := h.fr (fun a ha => f a (by omega))
/-- a run of the law's first village by a telling of its own -/
def wJ (B : Bk) (j : Nat) : Wd := mkW (B.vl 0) (B.vl 0).m (B.tl j) wi0
def wX (B : Bk) (j : Nat) (x : Wi) : Wd := mkW (B.vl 0) (B.vl 0).m (B.tl j) x
theorem nI_cl0 {j : Nat} (h : j < 1000) : (nI j).toNatClampNeg = j := n_cl (by omega)
theorem q_tk {B : Bk} {j : Nat} (ok : B.ok) (h0 : 0 < B.nv) (hj : j < B.nt) : tkB B (nI 0) (nI j) = true := (tkB_iff ok).mpr ⟨⟨0, h0, rfl⟩, Or.inr ⟨j, hj, rfl⟩⟩
theorem q_tl {B : Bk} {j : Nat} (hj : j < 1000) : B.tlOf (nI j) = B.tl j := by
  unfold Bk.tlOf
  rw [if_neg (show ¬ nI j = nM by rw [n_eqm (by omega)]; exact not_false), nI_cl0 hj]
theorem q_wd {B : Bk} {j : Nat} (hj : j < 1000) : B.wd (nI 0) (nI j) = wJ B j := by
  unfold Bk.wd wJ
  rw [q_tl hj, nI_cl0 (by decide)]
theorem q_wx {B : Bk} {j : Nat} (hj : j < 1000) (x : Wi) : B.wx (nI 0) (nI j) x = wX B j x := by
  unfold Bk.wx wX
  rw [q_tl hj, nI_cl0 (by decide)]
theorem q_inR {k n : Nat} (h : k < n) (hn : n ≤ 100000) : inR (nI k) n = true := (inR_iff hn).mpr ⟨k, h, rfl⟩
section QS
variable {B : Bk} {j : Nat} {b : Bool} {I : MI} {L : ML} {K : Int32 → Bool → MI → ML → Prop}
theorem q_hp (h0 : 0 < B.nv) (hv : B.nv ≤ 2) {p : Nat} (hp : p < (B.vl 0).n) (hn : (B.vl 0).n ≤ 16) : hpB B (nI 0) (nI p) = true := by
  unfold hpB
  rw [q_inR h0 (by omega), nI_cl0 (by decide), q_inR hp (by omega)]
  rfl
theorem q_run (ok : B.ok) (hc : bkC 1 B I) (h0 : 0 < B.nv) (hj : j < B.nt) (a : Int32) (hK : ∀ b' I' L', qF I I' → K (qRun (wJ B j) a) b' I' L') : CI m_S_run [vr 21 0, vi (nI 0), vi (nI j), vi a] b I L K := by
  have h3 := ok.1.2.1
  refine oc_run (nI 0) (nI j) a B I b L K ok hc (fun b' I' L' f => ?_)
  dsimp only
  rw [q_tk ok h0 hj, if_pos rfl, q_wd (by omega)]
  exact hK b' I' L' f
theorem q_holders (ok : B.ok) (hc : bkC 1 B I) (h0 : 0 < B.nv) (hj : j < B.nt) {d s : Nat} (hd : d ≤ 200) (hs : s < 2) (hK : ∀ b' I' L', qF I I' → K (if s = 0 then hdI (wJ B j) d else dnI (wJ B j) d) b' I' L') : CI m_S_holders [vr 21 0, vi (nI 0), vi (nI j), vi (nI d), vi (nI s)] b I L K := by
  have h3 := ok.1.2.1
  refine oc_holders (nI 0) (nI j) (nI d) (nI s) (by rcases (by omega : s = 0 ∨ s = 1) with rfl | rfl; exact Or.inl rfl; exact Or.inr rfl) B I b L K ok hc (fun b' I' L' f => ?_)
  have hK := hK b' I' L' f
  dsimp only
  rw [q_tk ok h0 hj, q_inR (show d < 201 by omega) (by omega), q_wd (by omega), nI_cl0 (by omega)]
  rcases (by omega : s = 0 ∨ s = 1) with rfl | rfl
  · exact hK
  · exact hK
theorem q_held (ok : B.ok) (hc : bkC 1 B I) (h0 : 0 < B.nv) (hj : j < B.nt) {p m : Nat} (hp : p < (B.vl 0).n) (hm : m ≤ 200) (hK : ∀ b' I' L', qF I I' → K (nI (heldN (wJ B j) p (m + 1))) b' I' L') : CI m_S_held [vr 21 0, vi (nI 0), vi (nI j), vi (nI p), vi (nI m)] b I L K := by
  have h3 := ok.1.2.1
  have hn := (ok.2.2.1 0 h0).1.2
  refine oc_held (nI 0) (nI j) (nI p) (nI m) B I b L K ok hc (fun b' I' L' f => ?_)
  have hK := hK b' I' L' f
  dsimp only
  rw [q_tk ok h0 hj, q_inR (show m < 201 by omega) (by omega), q_hp h0 ok.1.1 hp hn, q_wd (by omega), nI_cl0 (show p < 1000 by omega), nI_cl0 (show m < 1000 by omega)]
  exact hK
theorem q_heard (ok : B.ok) (hc : bkC 1 B I) (h0 : 0 < B.nv) (hj : j < B.nt) {p : Nat} (hp : p < (B.vl 0).n) (hK : ∀ b' I' L', qF I I' → K (qHea (wJ B j) p 0 0) b' I' L') : CI m_S_heard [vr 21 0, vi (nI 0), vi (nI j), vi (nI p), vi (nI 0), vi (nI 0)] b I L K := by
  have h3 := ok.1.2.1
  have hn := (ok.2.2.1 0 h0).1.2
  refine oc_heard (nI 0) (nI j) (nI p) 0 0 (by decide) (by decide) B I b L K ok hc (fun b' I' L' f => ?_)
  have hK := hK b' I' L' f
  dsimp only
  rw [q_tk ok h0 hj, q_hp h0 ok.1.1 hp hn, q_wd (by omega), nI_cl0 (show p < 1000 by omega)]
  exact hK
theorem q_chain (ok : B.ok) (hc : bkC 1 B I) (h0 : 0 < B.nv) (hj : j < B.nt) {p : Nat} (hp : p < (B.vl 0).n) (hK : ∀ b' I' L' k, qF I I' → k < 1000 → K (nI k) b' I' L') : CI m_S_chain [vr 21 0, vi (nI 0), vi (nI j), vi (nI p), vi nM] b I L K := by
  have h3 := ok.1.2.1
  have hn := (ok.2.2.1 0 h0).1.2
  refine oc_chain (nI 0) (nI j) (nI p) nM B I b L K ok hc (fun b' I' L' f => ?_)
  have e : (wJ B j).v.n = (B.vl 0).n := rfl
  obtain ⟨k, k1, k2⟩ := chS_n (wJ B j) ((wJ B j).v.n + 1) (fun q => decide (q = p)) 0 (nxO (wJ B j) p) (by omega)
  dsimp only
  rw [if_neg (show ¬ nM < nM by decide), q_tk ok h0 hj, q_hp h0 ok.1.1 hp hn, q_wd (by omega), nI_cl0 (show p < 1000 by omega)]
  rw [Bool.and_true, if_pos rfl, k2]
  exact hK b' I' L' k f k1
theorem q_ever (ok : B.ok) (hc : bkC 1 B I) (h0 : 0 < B.nv) (hj : j < B.nt) (hK : ∀ b' I' L', qF I I' → K (evI (wJ B j) 201) b' I' L') : CI m_S_whole [vr 21 0, vi (nI 0), vi (nI j), vi (nI 0)] b I L K := by
  have h3 := ok.1.2.1
  refine oc_whole (nI 0) (nI j) (nI 0) B I b L K ok hc (fun b' I' L' f => ?_)
  have hK := hK b' I' L' f
  dsimp only
  rw [q_tk ok h0 hj, if_pos rfl, q_wd (by omega)]
  exact hK
def cuW (B : Bk) (j d x : Nat) : Bool := cleanB (wX B j (dnX x.testBit d d))
theorem q_cuP {B : Bk} {j d : Nat} (hj : j < 1000) : cuP B (nI 0) (nI j) d = cuW B j d := by
  funext x
  unfold cuP cuW
  rw [q_wx hj]
theorem q_cure (ok : B.ok) (hc : bkC 1 B I) (h0 : 0 < B.nv) (hj : j < B.nt) {d n : Nat} (hd : d ≤ 99) (hn : n ≤ 3) (hK : ∀ b' I' L', qF I I' → K (optI (szF (cuW B j d) (B.vl 0).n (n + 1) 0)) b' I' L') : CI m_S_cure [vr 21 0, vi (nI 0), vi (nI j), vi (nI d), vi (nI n)] b I L K := by
  have h3 := ok.1.2.1
  refine oc_cure (nI 0) (nI j) (nI d) (nI n) B I b L K ok hc (fun b' I' L' f => ?_)
  have hK := hK b' I' L' f
  dsimp only
  rw [q_tk ok h0 hj, q_inR (show d < 100 by omega) (by omega), q_inR (show n < 4 by omega) (by omega), q_wd (by omega), nI_cl0 (show d < 1000 by omega), nI_cl0 (show n < 1000 by omega), q_cuP (by omega)]
  exact hK
theorem q_cures (ok : B.ok) (hc : bkC 1 B I) (h0 : 0 < B.nv) (hj : j < B.nt) {d n : Nat} (hd : d ≤ 99) (hn : n ≤ 2) (hK : ∀ b' I' L', qF I I' → K (nI (cntL (cuW B j d) (LsA (B.vl 0).n n))) b' I' L') : CI m_S_cures [vr 21 0, vi (nI 0), vi (nI j), vi (nI d), vi (nI n)] b I L K := by
  have h3 := ok.1.2.1
  refine oc_cures (nI 0) (nI j) (nI d) (nI n) B I b L K ok hc (fun b' I' L' f => ?_)
  have hK := hK b' I' L' f
  dsimp only
  rw [q_tk ok h0 hj, q_inR (show d < 100 by omega) (by omega), q_inR (show n < 3 by omega) (by omega), q_wd (by omega), nI_cl0 (show d < 1000 by omega), nI_cl0 (show n < 1000 by omega), q_cuP (by omega)]
  exact hK
def bgQ (B : Bk) (j d : Nat) (h : Int32) (x : Nat) : Bool := decide (hdI (wX B j (bgX x.testBit)) d = h)
theorem q_bgP {B : Bk} {j d : Nat} {h : Int32} (hj : j < 1000) : bgP B (nI 0) (nI j) d h = bgQ B j d h := by
  funext x
  unfold bgP bgQ bgW
  rw [q_wx hj]
theorem q_begun (ok : B.ok) (hc : bkC 1 B I) (h0 : 0 < B.nv) (hj : j < B.nt) {d : Nat} {h a : Int32} (hd : d ≤ 99) (hh : inR h (2 ^ (B.vl 0).n) = true) (ha : ¬ a < nM) (hK : ∀ b' I' L', qF I I' → K (bgF (bgQ B j d h) a (L12 0 (B.vl 0).n) 0) b' I' L') : CI m_S_begun [vr 21 0, vi (nI 0), vi (nI j), vi (nI d), vi h, vi a] b I L K := by
  have h3 := ok.1.2.1
  refine oc_begun (nI 0) (nI j) (nI d) h a B I b L K ok hc (fun b' I' L' f => ?_)
  have hK := hK b' I' L' f
  have hh' : inR h (2 ^ (wJ B j).v.n) = true := hh
  dsimp only
  rw [q_tk ok h0 hj, q_inR (show d < 100 by omega) (by omega), q_wd (by omega), nI_cl0 (show d < 1000 by omega), q_bgP (by omega), hh', decide_eq_false ha]
  exact hK
theorem q_origin (ok : B.ok) (hc : bkC 1 B I) (h0 : 0 < B.nv) (hj : j < B.nt) {d : Nat} {h : Int32} (hd : d ≤ 99) (hh : inR h (2 ^ (B.vl 0).n) = true) (hK : ∀ b' I' L', qF I I' → K (nI (lsV (fun p => cntB (fun q => hold (wX B j (bgX (2 ^ p).testBit)) d q ^^ bt h q) (B.vl 0).n) (lsN (fun p => cntB (fun q => hold (wX B j (bgX (2 ^ p).testBit)) d q ^^ bt h q) (B.vl 0).n) (B.vl 0).n))) b' I' L') : CI m_S_origin [vr 21 0, vi (nI 0), vi (nI j), vi (nI d), vi h, vi (nI 1)] b I L K := by
  have h3 := ok.1.2.1
  refine oc_origin (nI 0) (nI j) (nI d) h (nI 1) (Or.inr rfl) B I b L K ok hc (fun b' I' L' f => ?_)
  have hK := hK b' I' L' f
  have hh' : inR h (2 ^ (wJ B j).v.n) = true := hh
  have e : orE B (nI 0) (nI j) d h = fun p => cntB (fun q => hold (wX B j (bgX (2 ^ p).testBit)) d q ^^ bt h q) (B.vl 0).n := by
    funext p
    unfold orE bgW
    rw [q_wx (by omega), q_wd (by omega)]
    rfl
  dsimp only
  rw [q_tk ok h0 hj, q_inR (show d < 100 by omega) (by omega), q_wd (by omega), nI_cl0 (show d < 1000 by omega), hh', e]
  exact hK
end QS
section QW
variable {B : Bk} {i p q : Nat} {b : Bool} {I : MI} {L : ML}
theorem q_two (ok : B.ok) (hi : i < B.nv) (hp : p < (B.vl i).n) (hq : q < (B.vl i).n) (hne : p ≠ q) : twB B (nI i) (nI p) (nI q) = true := by
  have hv := ok.1.1
  have hn := (ok.2.2.1 i hi).1.2
  unfold twB hpB
  rw [q_inR hi (by omega), nI_cl0 (by omega), q_inR hp (by omega), q_inR hq (by omega), decide_eq_false (show ¬ nI p = nI q by rw [n_eq (by omega) (by omega)]; exact hne)]
  rfl
theorem q_apart {K : Int32 → Bool → MI → ML → Prop} (ok : B.ok) (hc : bkC 1 B I) (hi : i < B.nv) (hp : p < (B.vl i).n) (hq : q < (B.vl i).n) (hne : p ≠ q) (hK : ∀ b' I' L', qF I I' → K (optI (apO (B.vl i) p q)) b' I' L') : CI m_S_apart [vr 21 0, vi (nI i), vi (nI p), vi (nI q)] b I L K := by
  have hv := ok.1.1
  have hn := (ok.2.2.1 i hi).1.2
  refine oc_apart (nI i) (nI p) (nI q) B I b L K ok hc (fun b' I' L' f => ?_)
  have hK := hK b' I' L' f
  dsimp only
  rw [q_two ok hi hp hq hne, if_pos rfl, nI_cl0 (show i < 1000 by omega), nI_cl0 (show p < 1000 by omega), nI_cl0 (show q < 1000 by omega)]
  exact hK
theorem q_self {K : Int32 → Bool → MI → ML → Prop} (ok : B.ok) (hc : bkC 1 B I) (hK : ∀ b' I' L', qF I I' → K nM b' I' L') : CI m_S_apart [vr 21 0, vi (nI i), vi (nI p), vi (nI p)] b I L K := by
  refine oc_apart (nI i) (nI p) (nI p) B I b L K ok hc (fun b' I' L' f => ?_)
  have hK := hK b' I' L' f
  have e : twB B (nI i) (nI p) (nI p) = false := by
    unfold twB
    rw [decide_eq_true rfl]
    simp
  dsimp only
  rw [e, if_neg Bool.false_ne_true]
  exact hK
theorem q_cut {K : Int64 → Bool → MI → ML → Prop} (ok : B.ok) (hc : bkC 1 B I) (hi : i < B.nv) (hp : p < (B.vl i).n) (hq : q < (B.vl i).n) (hne : p ≠ q) (hK : ∀ b' I' L', qF I I' → K (lI (cuB (B.vl i) p q)) b' I' L') : CL m_S_cut [vr 21 0, vi (nI i), vi (nI p), vi (nI q)] b I L K := by
  have hv := ok.1.1
  have hn := (ok.2.2.1 i hi).1.2
  refine oc_cut (nI i) (nI p) (nI q) B I b L K ok hc (fun b' I' L' f => ?_)
  have hK := hK b' I' L' f
  dsimp only
  rw [q_two ok hi hp hq hne, if_pos rfl, nI_cl0 (show i < 1000 by omega), nI_cl0 (show p < 1000 by omega), nI_cl0 (show q < 1000 by omega)]
  exact hK
theorem q_soon {K : Int32 → Bool → MI → ML → Prop} {s : Nat} (hs : s < 2) (ok : B.ok) (hc : bkC 1 B I) (hi : i < B.nv) (hp : p < (B.vl i).n) (hq : q < (B.vl i).n) (hne : p ≠ q) (hK : ∀ b' I' L' c, qF I I' → c ≤ 3 → K (optI (rnd (B.vl i) c p 16 q)) b' I' L') : CI m_S_soon [vr 21 0, vi (nI i), vi (nI p), vi (nI q), vi (nI s)] b I L K := by
  have hv := ok.1.1
  have hn := (ok.2.2.1 i hi).1.2
  refine oc_soon (nI i) (nI p) (nI q) (nI s) (by rcases (by omega : s = 0 ∨ s = 1) with rfl | rfl; exact Or.inl rfl; exact Or.inr rfl) B I b L K ok hc (fun b' I' L' f => ?_)
  have hsl := (ok.2.2.1 i hi).2.2.1
  have hK := hK b' I' L' (if nI s = nI 0 then 0 else (B.vl i).sl) f (by split <;> omega)
  dsimp only
  rw [q_two ok hi hp hq hne, if_pos rfl, nI_cl0 (show i < 1000 by omega), nI_cl0 (show p < 1000 by omega), nI_cl0 (show q < 1000 by omega)]
  exact hK
theorem q_reach {K : Int32 → Bool → MI → ML → Prop} (ok : B.ok) (hc : bkC 1 B I) (hi : i < B.nv) (hp : p < (B.vl i).n) (hK : ∀ b' I' L', qF I I' → K (bI (B.vl i).n (spF (B.vl i) noT p).1) b' I' L') : CI m_S_reach [vr 21 0, vi (nI i), vi (nI p), vi (nI 0)] b I L K := by
  have hv := ok.1.1
  have hn := (ok.2.2.1 i hi).1.2
  refine oc_reach (nI i) (nI p) (nI 0) B I b L K ok hc (fun b' I' L' f => ?_)
  have hK := hK b' I' L' f
  have e : hpB B (nI i) (nI p) = true := by
    unfold hpB
    rw [q_inR hi (by omega), nI_cl0 (by omega), q_inR hp (by omega)]
    rfl
  dsimp only
  rw [e, q_inR (show 0 < 3 by decide) (by decide), nI_cl0 (show i < 1000 by omega), nI_cl0 (show p < 1000 by omega)]
  exact hK
end QW
