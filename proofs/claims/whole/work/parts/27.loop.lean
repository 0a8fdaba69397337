/-! THE LAW'S LOOP, out of the forty operations (written by wip/whole/genloop.py) -/
def H_feed : Prop := ∀ a1 a2 a3 a4 a5 : Int32, Op2 m_S_feed m_M_feed [vi a1, vi a2, vi a3, vi a4, vi a5]
def H_end : Prop := ∀ a1 : Int32, Op2 m_S_end m_M_end [vi a1]
def H_text : Prop := ∀ a1 a2 : Int32, Op2 m_S_text m_M_text [vi a1, vi a2]
def H_fault : Prop := ∀ a1 : Int32, Op2 m_S_fault m_M_fault [vi a1]
def H_village : Prop := ∀ a1 a2 : Int32, Op2 m_S_village m_M_village [vi a1, vi a2]
def H_tie : Prop := ∀ a1 a2 a3 : Int32, Op2 m_S_tie m_M_tie [vi a1, vi a2, vi a3]
def H_act : Prop := ∀ a1 a2 a3 : Int32, Op2 m_S_act m_M_act [vi a1, vi a2, vi a3]
def H_person : Prop := ∀ a1 a2 a3 a4 a5 : Int32, Op2 m_S_person m_M_person [vi a1, vi a2, vi a3, vi a4, vi a5]
def H_holders : Prop := ∀ a1 a2 a3 a4 : Int32, (a4 = 0 ∨ a4 = 1) → Op2 m_S_holders m_M_holders [vi a1, vi a2, vi a3, vi a4]
def H_run : Prop := ∀ a1 a2 a3 : Int32, Op2 m_S_run m_M_run [vi a1, vi a2, vi a3]
def H_held : Prop := ∀ a1 a2 a3 a4 : Int32, Op2 m_S_held m_M_held [vi a1, vi a2, vi a3, vi a4]
def H_heard : Prop := ∀ a1 a2 a3 a4 a5 : Int32, (a4 = 0 ∨ a4 = 1) → (a5 = 0 ∨ a5 = 1) → Op2 m_S_heard m_M_heard [vi a1, vi a2, vi a3, vi a4, vi a5]
def H_cure : Prop := ∀ a1 a2 a3 a4 : Int32, Op2 m_S_cure m_M_cure [vi a1, vi a2, vi a3, vi a4]
def H_late : Prop := ∀ a1 a2 a3 : Int32, Op2 m_S_late m_M_late [vi a1, vi a2, vi a3]
def H_begun : Prop := ∀ a1 a2 a3 a4 a5 : Int32, Op2 m_S_begun m_M_begun [vi a1, vi a2, vi a3, vi a4, vi a5]
def H_origin : Prop := ∀ a1 a2 a3 a4 a5 : Int32, (a5 = 0 ∨ a5 = 1) → Op2 m_S_origin m_M_origin [vi a1, vi a2, vi a3, vi a4, vi a5]
def H_matters : Prop := ∀ a1 a2 a3 : Int32, Op2 m_S_matters m_M_matters [vi a1, vi a2, vi a3]
def H_key : Prop := ∀ a1 a2 a3 : Int32, (a3 = 0 ∨ a3 = 1) → Op2 m_S_key m_M_key [vi a1, vi a2, vi a3]
def H_apart : Prop := ∀ a1 a2 a3 : Int32, Op2 m_S_apart m_M_apart [vi a1, vi a2, vi a3]
def H_cut : Prop := ∀ a1 a2 a3 : Int32, Op2L m_S_cut m_M_cut [vi a1, vi a2, vi a3]
def H_soon : Prop := ∀ a1 a2 a3 a4 : Int32, (a4 = 0 ∨ a4 = 1) → Op2 m_S_soon m_M_soon [vi a1, vi a2, vi a3, vi a4]
def H_reach : Prop := ∀ a1 a2 a3 : Int32, Op2 m_S_reach m_M_reach [vi a1, vi a2, vi a3]
def H_loud : Prop := ∀ a1 : Int32, Op2 m_S_loud m_M_loud [vi a1]
def H_drawn : Prop := ∀ a1 a2 a3 a4 a5 : Int32, Op2 m_S_drawn m_M_drawn_2 [vi a1, vi a2, vi a3, vi a4, vi a5]
def H_worlds : Prop := ∀ a1 a2 a3 a4 a5 a6 : Int32, (a6 = 0 ∨ a6 = 1) → Op2 m_S_worlds m_M_worlds [vi a1, vi a2, vi a3, vi a4, vi a5, vi a6]
def H_barred : Prop := ∀ a1 a2 a3 a4 : Int32, Op2L m_S_barred m_M_barred [vi a1, vi a2, vi a3, vi a4]
def H_join : Prop := ∀ a1 a2 a3 : Int32, (a3 = 0 ∨ a3 = 1) → Op2 m_S_join m_M_join [vi a1, vi a2, vi a3]
def H_unlike : Prop := ∀ a1 a2 a3 : Int32, Op2 m_S_unlike m_M_unlike [vi a1, vi a2, vi a3]
def H_whole : Prop := ∀ a1 a2 a3 : Int32, Op2 m_S_whole m_M_whole [vi a1, vi a2, vi a3]
def H_wavers : Prop := ∀ a1 a2 a3 : Int32, Op2 m_S_wavers m_M_wavers [vi a1, vi a2, vi a3]
def H_often : Prop := ∀ a1 a2 a3 a4 : Int32, Op2 m_S_often m_M_often [vi a1, vi a2, vi a3, vi a4]
def H_cures : Prop := ∀ a1 a2 a3 a4 : Int32, Op2 m_S_cures m_M_cures [vi a1, vi a2, vi a3, vi a4]
def H_shield : Prop := ∀ a1 a2 a3 a4 : Int32, Op2 m_S_shield m_M_shield [vi a1, vi a2, vi a3, vi a4]
def H_worst : Prop := ∀ a1 a2 a3 : Int32, Op2 m_S_worst m_M_worst [vi a1, vi a2, vi a3]
def H_deaf : Prop := ∀ a1 a2 a3 : Int32, Op2 m_S_deaf m_M_deaf [vi a1, vi a2, vi a3]
def H_turn : Prop := ∀ a1 a2 a3 a4 : Int32, (a4 = 0 ∨ a4 = 1) → Op2 m_S_turn m_M_turn [vi a1, vi a2, vi a3, vi a4]
def H_chain : Prop := ∀ a1 a2 a3 a4 : Int32, Op2 m_S_chain m_M_chain [vi a1, vi a2, vi a3, vi a4]
def H_count : Prop := ∀ a1 : Int32, Op2 m_S_count m_M_count [vi a1]
def H_image : Prop := ∀ a1 : Int32, Op2 m_S_image m_M_image [vi a1]
def H_again : Prop := ∀ a1 : Int32, Op2 m_S_again m_M_again [vi a1]
def HAll : Prop := H_feed ∧ H_end ∧ H_text ∧ H_fault ∧ H_village ∧ H_tie ∧ H_act ∧ H_person ∧ H_holders ∧ H_run ∧ H_held ∧ H_heard ∧ H_cure ∧ H_late ∧ H_begun ∧ H_origin ∧ H_matters ∧ H_key ∧ H_apart ∧ H_cut ∧ H_soon ∧ H_reach ∧ H_loud ∧ H_drawn ∧ H_worlds ∧ H_barred ∧ H_join ∧ H_unlike ∧ H_whole ∧ H_wavers ∧ H_often ∧ H_cures ∧ H_shield ∧ H_worst ∧ H_deaf ∧ H_turn ∧ H_chain ∧ H_count ∧ H_image ∧ H_again
theorem lg_cmp_self (v : Int64) : lg_cmp v v = 0 := by
  unfold lg_cmp
  rw [if_neg (by show ¬ v < v; exact Int64.lt_irrefl), if_pos rfl]
theorem lp_in {I : MI} {Ls i : Nat} (hI : I 100001 0 = nI Ls) (hL : Ls ≤ 3584) (h : i + 7 ≤ Ls) : ∀ j, j < 7 → vp_in (nI i + nI j) (I 100001 0).toNatClampNeg := by
  intro j hj
  rw [hI, n_cl (by omega), n_add, n_in (by omega)]
  omega
theorem lp_in0 {I : MI} {Ls i : Nat} (hI : I 100001 0 = nI Ls) (hL : Ls ≤ 3584) (h : i + 7 ≤ Ls) : vp_in (nI i) (I 100001 0).toNatClampNeg := by
  rw [hI, n_cl (by omega), n_in (by omega)]
  omega
theorem lp_end {Ls i : Nat} (hL : Ls ≤ 3584) (hi : i ≤ 3600) : (nI Ls - nI 7 < nI i) = (Ls < i + 7) := by
  apply propext
  rw [Int32.lt_iff_toInt_lt, pk_sub_toInt (by omega) (by omega), nI_toInt (by omega)]
  omega
set_option maxHeartbeats 4000000 in
theorem law_step (hA : HAll) {Ls i : Nat} {b : Bool} {I : MI} {L : ML} (hL : Ls ≤ 3584) (hI : I 100001 0 = nI Ls) (h : i + 7 ≤ Ls) (hR : Rel I) (ih : ∀ I L b, Rel I → I 100001 0 = nI Ls → SW m_L_law 18 [vr 3 0, vr 21 0, vr 22 186, vi (nI i + nI 7)] [] b I L (kI (fun r _ _ _ => r = 1))) : SW m_L_law 18 [vr 3 0, vr 21 0, vr 22 186, vi (nI i)] [] b I L (kI (fun r _ _ _ => r = 1)) := by
  obtain ⟨hfeed, hend, htext, hfault, hvillage, htie, hact, hperson, hholders, hrun, hheld, hheard, hcure, hlate, hbegun, horigin, hmatters, hkey, hapart, hcut, hsoon, hreach, hloud, hdrawn, hworlds, hbarred, hjoin, hunlike, hwhole, hwavers, hoften, hcures, hshield, hworst, hdeaf, hturn, hchain, hcount, himage, hagain⟩ := hA
  have hp := lp_in hI hL h
  refine vL_law_18 ⟨fun q => ⟨Or.inr rfl, rfl⟩, fun _ => ⟨lp_in0 hI hL h, ?_⟩⟩
  refine ⟨fun _ => ?_, fun _ => ?_⟩
  · refine ⟨hp 1 (by decide), ?_⟩
    refine ⟨hp 2 (by decide), ?_⟩
    refine ⟨hp 3 (by decide), ?_⟩
    refine ⟨hp 4 (by decide), ?_⟩
    refine ⟨hp 5 (by decide), ?_⟩
    obtain ⟨M, hS, hM⟩ := hfeed (I 100000 (nI i + nI 1).toNatClampNeg) (I 100000 (nI i + nI 2).toNatClampNeg) (I 100000 (nI i + nI 3).toNatClampNeg) (I 100000 (nI i + nI 4).toNatClampNeg) (I 100000 (nI i + nI 5).toNatClampNeg) I hR
    refine hS b L _ (fun v b1 I1 L1 hv hf => ?_)
    have e0 := hf 100000 (by decide)
    have e1 := hf 100001 (by decide)
    rw [e0, e1]
    refine ⟨hp 1 (by decide), ?_⟩
    refine ⟨hp 2 (by decide), ?_⟩
    refine ⟨hp 3 (by decide), ?_⟩
    refine ⟨hp 4 (by decide), ?_⟩
    refine ⟨hp 5 (by decide), ?_⟩
    refine hM v I1 hv b1 L1 _ (fun b2 I2 L2 hR2 hf2 => ?_)
    exact ⟨fun _ => ih I2 L2 b2 hR2 ((congrFun (hf2 100001 (by decide)) 0).trans ((congrFun e1 0).trans hI)), fun c => absurd rfl c⟩
  refine ⟨fun _ => ?_, fun _ => ?_⟩
  · refine ⟨hp 1 (by decide), ?_⟩
    obtain ⟨M, hS, hM⟩ := hend (I 100000 (nI i + nI 1).toNatClampNeg) I hR
    refine hS b L _ (fun v b1 I1 L1 hv hf => ?_)
    have e0 := hf 100000 (by decide)
    have e1 := hf 100001 (by decide)
    rw [e0, e1]
    refine ⟨hp 1 (by decide), ?_⟩
    refine hM v I1 hv b1 L1 _ (fun b2 I2 L2 hR2 hf2 => ?_)
    exact ⟨fun _ => ih I2 L2 b2 hR2 ((congrFun (hf2 100001 (by decide)) 0).trans ((congrFun e1 0).trans hI)), fun c => absurd rfl c⟩
  refine ⟨fun _ => ?_, fun _ => ?_⟩
  · refine ⟨hp 1 (by decide), ?_⟩
    refine ⟨hp 2 (by decide), ?_⟩
    obtain ⟨M, hS, hM⟩ := htext (I 100000 (nI i + nI 1).toNatClampNeg) (I 100000 (nI i + nI 2).toNatClampNeg) I hR
    refine hS b L _ (fun v b1 I1 L1 hv hf => ?_)
    have e0 := hf 100000 (by decide)
    have e1 := hf 100001 (by decide)
    rw [e0, e1]
    refine ⟨hp 1 (by decide), ?_⟩
    refine ⟨hp 2 (by decide), ?_⟩
    refine hM v I1 hv b1 L1 _ (fun b2 I2 L2 hR2 hf2 => ?_)
    exact ⟨fun _ => ih I2 L2 b2 hR2 ((congrFun (hf2 100001 (by decide)) 0).trans ((congrFun e1 0).trans hI)), fun c => absurd rfl c⟩
  refine ⟨fun _ => ?_, fun _ => ?_⟩
  · refine ⟨hp 1 (by decide), ?_⟩
    obtain ⟨M, hS, hM⟩ := hfault (I 100000 (nI i + nI 1).toNatClampNeg) I hR
    refine hS b L _ (fun v b1 I1 L1 hv hf => ?_)
    have e0 := hf 100000 (by decide)
    have e1 := hf 100001 (by decide)
    rw [e0, e1]
    refine ⟨hp 1 (by decide), ?_⟩
    refine hM v I1 hv b1 L1 _ (fun b2 I2 L2 hR2 hf2 => ?_)
    exact ⟨fun _ => ih I2 L2 b2 hR2 ((congrFun (hf2 100001 (by decide)) 0).trans ((congrFun e1 0).trans hI)), fun c => absurd rfl c⟩
  refine ⟨fun _ => ?_, fun _ => ?_⟩
  · refine ⟨hp 1 (by decide), ?_⟩
    refine ⟨hp 2 (by decide), ?_⟩
    obtain ⟨M, hS, hM⟩ := hvillage (I 100000 (nI i + nI 1).toNatClampNeg) (I 100000 (nI i + nI 2).toNatClampNeg) I hR
    refine hS b L _ (fun v b1 I1 L1 hv hf => ?_)
    have e0 := hf 100000 (by decide)
    have e1 := hf 100001 (by decide)
    rw [e0, e1]
    refine ⟨hp 1 (by decide), ?_⟩
    refine ⟨hp 2 (by decide), ?_⟩
    refine hM v I1 hv b1 L1 _ (fun b2 I2 L2 hR2 hf2 => ?_)
    exact ⟨fun _ => ih I2 L2 b2 hR2 ((congrFun (hf2 100001 (by decide)) 0).trans ((congrFun e1 0).trans hI)), fun c => absurd rfl c⟩
  refine ⟨fun _ => ?_, fun _ => ?_⟩
  · refine ⟨hp 1 (by decide), ?_⟩
    refine ⟨hp 2 (by decide), ?_⟩
    refine ⟨hp 3 (by decide), ?_⟩
    obtain ⟨M, hS, hM⟩ := htie (I 100000 (nI i + nI 1).toNatClampNeg) (I 100000 (nI i + nI 2).toNatClampNeg) (I 100000 (nI i + nI 3).toNatClampNeg) I hR
    refine hS b L _ (fun v b1 I1 L1 hv hf => ?_)
    have e0 := hf 100000 (by decide)
    have e1 := hf 100001 (by decide)
    rw [e0, e1]
    refine ⟨hp 1 (by decide), ?_⟩
    refine ⟨hp 2 (by decide), ?_⟩
    refine ⟨hp 3 (by decide), ?_⟩
    refine hM v I1 hv b1 L1 _ (fun b2 I2 L2 hR2 hf2 => ?_)
    exact ⟨fun _ => ih I2 L2 b2 hR2 ((congrFun (hf2 100001 (by decide)) 0).trans ((congrFun e1 0).trans hI)), fun c => absurd rfl c⟩
  refine ⟨fun _ => ?_, fun _ => ?_⟩
  · refine ⟨hp 1 (by decide), ?_⟩
    refine ⟨hp 2 (by decide), ?_⟩
    refine ⟨hp 3 (by decide), ?_⟩
    obtain ⟨M, hS, hM⟩ := hact (I 100000 (nI i + nI 1).toNatClampNeg) (I 100000 (nI i + nI 2).toNatClampNeg) (I 100000 (nI i + nI 3).toNatClampNeg) I hR
    refine hS b L _ (fun v b1 I1 L1 hv hf => ?_)
    have e0 := hf 100000 (by decide)
    have e1 := hf 100001 (by decide)
    rw [e0, e1]
    refine ⟨hp 1 (by decide), ?_⟩
    refine ⟨hp 2 (by decide), ?_⟩
    refine ⟨hp 3 (by decide), ?_⟩
    refine hM v I1 hv b1 L1 _ (fun b2 I2 L2 hR2 hf2 => ?_)
    exact ⟨fun _ => ih I2 L2 b2 hR2 ((congrFun (hf2 100001 (by decide)) 0).trans ((congrFun e1 0).trans hI)), fun c => absurd rfl c⟩
  refine ⟨fun _ => ?_, fun _ => ?_⟩
  · refine ⟨hp 1 (by decide), ?_⟩
    refine ⟨hp 2 (by decide), ?_⟩
    refine ⟨hp 3 (by decide), ?_⟩
    refine ⟨hp 4 (by decide), ?_⟩
    refine ⟨hp 5 (by decide), ?_⟩
    obtain ⟨M, hS, hM⟩ := hperson (I 100000 (nI i + nI 1).toNatClampNeg) (I 100000 (nI i + nI 2).toNatClampNeg) (I 100000 (nI i + nI 3).toNatClampNeg) (I 100000 (nI i + nI 4).toNatClampNeg) (I 100000 (nI i + nI 5).toNatClampNeg) I hR
    refine hS b L _ (fun v b1 I1 L1 hv hf => ?_)
    have e0 := hf 100000 (by decide)
    have e1 := hf 100001 (by decide)
    rw [e0, e1]
    refine ⟨hp 1 (by decide), ?_⟩
    refine ⟨hp 2 (by decide), ?_⟩
    refine ⟨hp 3 (by decide), ?_⟩
    refine ⟨hp 4 (by decide), ?_⟩
    refine ⟨hp 5 (by decide), ?_⟩
    refine hM v I1 hv b1 L1 _ (fun b2 I2 L2 hR2 hf2 => ?_)
    exact ⟨fun _ => ih I2 L2 b2 hR2 ((congrFun (hf2 100001 (by decide)) 0).trans ((congrFun e1 0).trans hI)), fun c => absurd rfl c⟩
  refine ⟨fun _ => ?_, fun _ => ?_⟩
  · refine ⟨hp 1 (by decide), ?_⟩
    refine ⟨hp 2 (by decide), ?_⟩
    refine ⟨hp 3 (by decide), ?_⟩
    refine ⟨hp 4 (by decide), ?_⟩
    refine ⟨fun c0 => ?_, fun c0 => ?_⟩
    · obtain ⟨M, hS, hM⟩ := hholders (I 100000 (nI i + nI 1).toNatClampNeg) (I 100000 (nI i + nI 2).toNatClampNeg) (I 100000 (nI i + nI 3).toNatClampNeg) 0 (by decide) I hR
      refine hS b L _ (fun v b1 I1 L1 hv hf => ?_)
      have e0 := hf 100000 (by decide)
      have e1 := hf 100001 (by decide)
      rw [e0, e1]
      refine ⟨hp 1 (by decide), ?_⟩
      refine ⟨hp 2 (by decide), ?_⟩
      refine ⟨hp 3 (by decide), ?_⟩
      refine ⟨hp 4 (by decide), ?_⟩
      refine ⟨fun _ => ?_, fun q => absurd c0 q⟩
      refine hM v I1 hv b1 L1 _ (fun b2 I2 L2 hR2 hf2 => ?_)
      exact ⟨fun _ => ih I2 L2 b2 hR2 ((congrFun (hf2 100001 (by decide)) 0).trans ((congrFun e1 0).trans hI)), fun c => absurd rfl c⟩
    · obtain ⟨M, hS, hM⟩ := hholders (I 100000 (nI i + nI 1).toNatClampNeg) (I 100000 (nI i + nI 2).toNatClampNeg) (I 100000 (nI i + nI 3).toNatClampNeg) 1 (by decide) I hR
      refine hS b L _ (fun v b1 I1 L1 hv hf => ?_)
      have e0 := hf 100000 (by decide)
      have e1 := hf 100001 (by decide)
      rw [e0, e1]
      refine ⟨hp 1 (by decide), ?_⟩
      refine ⟨hp 2 (by decide), ?_⟩
      refine ⟨hp 3 (by decide), ?_⟩
      refine ⟨hp 4 (by decide), ?_⟩
      refine ⟨fun q => absurd q c0, fun _ => ?_⟩
      refine hM v I1 hv b1 L1 _ (fun b2 I2 L2 hR2 hf2 => ?_)
      exact ⟨fun _ => ih I2 L2 b2 hR2 ((congrFun (hf2 100001 (by decide)) 0).trans ((congrFun e1 0).trans hI)), fun c => absurd rfl c⟩
  refine ⟨fun _ => ?_, fun _ => ?_⟩
  · refine ⟨hp 1 (by decide), ?_⟩
    refine ⟨hp 2 (by decide), ?_⟩
    refine ⟨hp 3 (by decide), ?_⟩
    obtain ⟨M, hS, hM⟩ := hrun (I 100000 (nI i + nI 1).toNatClampNeg) (I 100000 (nI i + nI 2).toNatClampNeg) (I 100000 (nI i + nI 3).toNatClampNeg) I hR
    refine hS b L _ (fun v b1 I1 L1 hv hf => ?_)
    have e0 := hf 100000 (by decide)
    have e1 := hf 100001 (by decide)
    rw [e0, e1]
    refine ⟨hp 1 (by decide), ?_⟩
    refine ⟨hp 2 (by decide), ?_⟩
    refine ⟨hp 3 (by decide), ?_⟩
    refine hM v I1 hv b1 L1 _ (fun b2 I2 L2 hR2 hf2 => ?_)
    exact ⟨fun _ => ih I2 L2 b2 hR2 ((congrFun (hf2 100001 (by decide)) 0).trans ((congrFun e1 0).trans hI)), fun c => absurd rfl c⟩
  refine ⟨fun _ => ?_, fun _ => ?_⟩
  · refine ⟨hp 1 (by decide), ?_⟩
    refine ⟨hp 2 (by decide), ?_⟩
    refine ⟨hp 3 (by decide), ?_⟩
    refine ⟨hp 4 (by decide), ?_⟩
    obtain ⟨M, hS, hM⟩ := hheld (I 100000 (nI i + nI 1).toNatClampNeg) (I 100000 (nI i + nI 2).toNatClampNeg) (I 100000 (nI i + nI 3).toNatClampNeg) (I 100000 (nI i + nI 4).toNatClampNeg) I hR
    refine hS b L _ (fun v b1 I1 L1 hv hf => ?_)
    have e0 := hf 100000 (by decide)
    have e1 := hf 100001 (by decide)
    rw [e0, e1]
    refine ⟨hp 1 (by decide), ?_⟩
    refine ⟨hp 2 (by decide), ?_⟩
    refine ⟨hp 3 (by decide), ?_⟩
    refine ⟨hp 4 (by decide), ?_⟩
    refine hM v I1 hv b1 L1 _ (fun b2 I2 L2 hR2 hf2 => ?_)
    exact ⟨fun _ => ih I2 L2 b2 hR2 ((congrFun (hf2 100001 (by decide)) 0).trans ((congrFun e1 0).trans hI)), fun c => absurd rfl c⟩
  refine ⟨fun _ => ?_, fun _ => ?_⟩
  · refine ⟨hp 1 (by decide), ?_⟩
    refine ⟨hp 2 (by decide), ?_⟩
    refine ⟨hp 3 (by decide), ?_⟩
    refine ⟨hp 4 (by decide), ?_⟩
    refine ⟨fun c0 => ?_, fun c0 => ?_⟩
    · refine ⟨hp 5 (by decide), ?_⟩
      refine ⟨fun c1 => ?_, fun c1 => ?_⟩
      · obtain ⟨M, hS, hM⟩ := hheard (I 100000 (nI i + nI 1).toNatClampNeg) (I 100000 (nI i + nI 2).toNatClampNeg) (I 100000 (nI i + nI 3).toNatClampNeg) 0 0 (by decide) (by decide) I hR
        refine hS b L _ (fun v b1 I1 L1 hv hf => ?_)
        have e0 := hf 100000 (by decide)
        have e1 := hf 100001 (by decide)
        rw [e0, e1]
        refine ⟨hp 1 (by decide), ?_⟩
        refine ⟨hp 2 (by decide), ?_⟩
        refine ⟨hp 3 (by decide), ?_⟩
        refine ⟨hp 4 (by decide), ?_⟩
        refine ⟨fun _ => ?_, fun q => absurd c0 q⟩
        refine ⟨hp 5 (by decide), ?_⟩
        refine ⟨fun _ => ?_, fun q => absurd c1 q⟩
        refine hM v I1 hv b1 L1 _ (fun b2 I2 L2 hR2 hf2 => ?_)
        exact ⟨fun _ => ih I2 L2 b2 hR2 ((congrFun (hf2 100001 (by decide)) 0).trans ((congrFun e1 0).trans hI)), fun c => absurd rfl c⟩
      · obtain ⟨M, hS, hM⟩ := hheard (I 100000 (nI i + nI 1).toNatClampNeg) (I 100000 (nI i + nI 2).toNatClampNeg) (I 100000 (nI i + nI 3).toNatClampNeg) 0 1 (by decide) (by decide) I hR
        refine hS b L _ (fun v b1 I1 L1 hv hf => ?_)
        have e0 := hf 100000 (by decide)
        have e1 := hf 100001 (by decide)
        rw [e0, e1]
        refine ⟨hp 1 (by decide), ?_⟩
        refine ⟨hp 2 (by decide), ?_⟩
        refine ⟨hp 3 (by decide), ?_⟩
        refine ⟨hp 4 (by decide), ?_⟩
        refine ⟨fun _ => ?_, fun q => absurd c0 q⟩
        refine ⟨hp 5 (by decide), ?_⟩
        refine ⟨fun q => absurd q c1, fun _ => ?_⟩
        refine hM v I1 hv b1 L1 _ (fun b2 I2 L2 hR2 hf2 => ?_)
        exact ⟨fun _ => ih I2 L2 b2 hR2 ((congrFun (hf2 100001 (by decide)) 0).trans ((congrFun e1 0).trans hI)), fun c => absurd rfl c⟩
    · refine ⟨hp 5 (by decide), ?_⟩
      refine ⟨fun c1 => ?_, fun c1 => ?_⟩
      · obtain ⟨M, hS, hM⟩ := hheard (I 100000 (nI i + nI 1).toNatClampNeg) (I 100000 (nI i + nI 2).toNatClampNeg) (I 100000 (nI i + nI 3).toNatClampNeg) 1 0 (by decide) (by decide) I hR
        refine hS b L _ (fun v b1 I1 L1 hv hf => ?_)
        have e0 := hf 100000 (by decide)
        have e1 := hf 100001 (by decide)
        rw [e0, e1]
        refine ⟨hp 1 (by decide), ?_⟩
        refine ⟨hp 2 (by decide), ?_⟩
        refine ⟨hp 3 (by decide), ?_⟩
        refine ⟨hp 4 (by decide), ?_⟩
        refine ⟨fun q => absurd q c0, fun _ => ?_⟩
        refine ⟨hp 5 (by decide), ?_⟩
        refine ⟨fun _ => ?_, fun q => absurd c1 q⟩
        refine hM v I1 hv b1 L1 _ (fun b2 I2 L2 hR2 hf2 => ?_)
        exact ⟨fun _ => ih I2 L2 b2 hR2 ((congrFun (hf2 100001 (by decide)) 0).trans ((congrFun e1 0).trans hI)), fun c => absurd rfl c⟩
      · obtain ⟨M, hS, hM⟩ := hheard (I 100000 (nI i + nI 1).toNatClampNeg) (I 100000 (nI i + nI 2).toNatClampNeg) (I 100000 (nI i + nI 3).toNatClampNeg) 1 1 (by decide) (by decide) I hR
        refine hS b L _ (fun v b1 I1 L1 hv hf => ?_)
        have e0 := hf 100000 (by decide)
        have e1 := hf 100001 (by decide)
        rw [e0, e1]
        refine ⟨hp 1 (by decide), ?_⟩
        refine ⟨hp 2 (by decide), ?_⟩
        refine ⟨hp 3 (by decide), ?_⟩
        refine ⟨hp 4 (by decide), ?_⟩
        refine ⟨fun q => absurd q c0, fun _ => ?_⟩
        refine ⟨hp 5 (by decide), ?_⟩
        refine ⟨fun q => absurd q c1, fun _ => ?_⟩
        refine hM v I1 hv b1 L1 _ (fun b2 I2 L2 hR2 hf2 => ?_)
        exact ⟨fun _ => ih I2 L2 b2 hR2 ((congrFun (hf2 100001 (by decide)) 0).trans ((congrFun e1 0).trans hI)), fun c => absurd rfl c⟩
  refine ⟨fun _ => ?_, fun _ => ?_⟩
  · refine ⟨hp 1 (by decide), ?_⟩
    refine ⟨hp 2 (by decide), ?_⟩
    refine ⟨hp 3 (by decide), ?_⟩
    refine ⟨hp 4 (by decide), ?_⟩
    obtain ⟨M, hS, hM⟩ := hcure (I 100000 (nI i + nI 1).toNatClampNeg) (I 100000 (nI i + nI 2).toNatClampNeg) (I 100000 (nI i + nI 3).toNatClampNeg) (I 100000 (nI i + nI 4).toNatClampNeg) I hR
    refine hS b L _ (fun v b1 I1 L1 hv hf => ?_)
    have e0 := hf 100000 (by decide)
    have e1 := hf 100001 (by decide)
    rw [e0, e1]
    refine ⟨hp 1 (by decide), ?_⟩
    refine ⟨hp 2 (by decide), ?_⟩
    refine ⟨hp 3 (by decide), ?_⟩
    refine ⟨hp 4 (by decide), ?_⟩
    refine hM v I1 hv b1 L1 _ (fun b2 I2 L2 hR2 hf2 => ?_)
    exact ⟨fun _ => ih I2 L2 b2 hR2 ((congrFun (hf2 100001 (by decide)) 0).trans ((congrFun e1 0).trans hI)), fun c => absurd rfl c⟩
  refine ⟨fun _ => ?_, fun _ => ?_⟩
  · refine ⟨hp 1 (by decide), ?_⟩
    refine ⟨hp 2 (by decide), ?_⟩
    refine ⟨hp 3 (by decide), ?_⟩
    obtain ⟨M, hS, hM⟩ := hlate (I 100000 (nI i + nI 1).toNatClampNeg) (I 100000 (nI i + nI 2).toNatClampNeg) (I 100000 (nI i + nI 3).toNatClampNeg) I hR
    refine hS b L _ (fun v b1 I1 L1 hv hf => ?_)
    have e0 := hf 100000 (by decide)
    have e1 := hf 100001 (by decide)
    rw [e0, e1]
    refine ⟨hp 1 (by decide), ?_⟩
    refine ⟨hp 2 (by decide), ?_⟩
    refine ⟨hp 3 (by decide), ?_⟩
    refine hM v I1 hv b1 L1 _ (fun b2 I2 L2 hR2 hf2 => ?_)
    exact ⟨fun _ => ih I2 L2 b2 hR2 ((congrFun (hf2 100001 (by decide)) 0).trans ((congrFun e1 0).trans hI)), fun c => absurd rfl c⟩
  refine ⟨fun _ => ?_, fun _ => ?_⟩
  · refine ⟨hp 1 (by decide), ?_⟩
    refine ⟨hp 2 (by decide), ?_⟩
    refine ⟨hp 3 (by decide), ?_⟩
    refine ⟨hp 4 (by decide), ?_⟩
    refine ⟨hp 5 (by decide), ?_⟩
    obtain ⟨M, hS, hM⟩ := hbegun (I 100000 (nI i + nI 1).toNatClampNeg) (I 100000 (nI i + nI 2).toNatClampNeg) (I 100000 (nI i + nI 3).toNatClampNeg) (I 100000 (nI i + nI 4).toNatClampNeg) (I 100000 (nI i + nI 5).toNatClampNeg) I hR
    refine hS b L _ (fun v b1 I1 L1 hv hf => ?_)
    have e0 := hf 100000 (by decide)
    have e1 := hf 100001 (by decide)
    rw [e0, e1]
    refine ⟨hp 1 (by decide), ?_⟩
    refine ⟨hp 2 (by decide), ?_⟩
    refine ⟨hp 3 (by decide), ?_⟩
    refine ⟨hp 4 (by decide), ?_⟩
    refine ⟨hp 5 (by decide), ?_⟩
    refine hM v I1 hv b1 L1 _ (fun b2 I2 L2 hR2 hf2 => ?_)
    exact ⟨fun _ => ih I2 L2 b2 hR2 ((congrFun (hf2 100001 (by decide)) 0).trans ((congrFun e1 0).trans hI)), fun c => absurd rfl c⟩
  refine ⟨fun _ => ?_, fun _ => ?_⟩
  · refine ⟨hp 1 (by decide), ?_⟩
    refine ⟨hp 2 (by decide), ?_⟩
    refine ⟨hp 3 (by decide), ?_⟩
    refine ⟨hp 4 (by decide), ?_⟩
    refine ⟨hp 5 (by decide), ?_⟩
    refine ⟨fun c0 => ?_, fun c0 => ?_⟩
    · obtain ⟨M, hS, hM⟩ := horigin (I 100000 (nI i + nI 1).toNatClampNeg) (I 100000 (nI i + nI 2).toNatClampNeg) (I 100000 (nI i + nI 3).toNatClampNeg) (I 100000 (nI i + nI 4).toNatClampNeg) 0 (by decide) I hR
      refine hS b L _ (fun v b1 I1 L1 hv hf => ?_)
      have e0 := hf 100000 (by decide)
      have e1 := hf 100001 (by decide)
      rw [e0, e1]
      refine ⟨hp 1 (by decide), ?_⟩
      refine ⟨hp 2 (by decide), ?_⟩
      refine ⟨hp 3 (by decide), ?_⟩
      refine ⟨hp 4 (by decide), ?_⟩
      refine ⟨hp 5 (by decide), ?_⟩
      refine ⟨fun _ => ?_, fun q => absurd c0 q⟩
      refine hM v I1 hv b1 L1 _ (fun b2 I2 L2 hR2 hf2 => ?_)
      exact ⟨fun _ => ih I2 L2 b2 hR2 ((congrFun (hf2 100001 (by decide)) 0).trans ((congrFun e1 0).trans hI)), fun c => absurd rfl c⟩
    · obtain ⟨M, hS, hM⟩ := horigin (I 100000 (nI i + nI 1).toNatClampNeg) (I 100000 (nI i + nI 2).toNatClampNeg) (I 100000 (nI i + nI 3).toNatClampNeg) (I 100000 (nI i + nI 4).toNatClampNeg) 1 (by decide) I hR
      refine hS b L _ (fun v b1 I1 L1 hv hf => ?_)
      have e0 := hf 100000 (by decide)
      have e1 := hf 100001 (by decide)
      rw [e0, e1]
      refine ⟨hp 1 (by decide), ?_⟩
      refine ⟨hp 2 (by decide), ?_⟩
      refine ⟨hp 3 (by decide), ?_⟩
      refine ⟨hp 4 (by decide), ?_⟩
      refine ⟨hp 5 (by decide), ?_⟩
      refine ⟨fun q => absurd q c0, fun _ => ?_⟩
      refine hM v I1 hv b1 L1 _ (fun b2 I2 L2 hR2 hf2 => ?_)
      exact ⟨fun _ => ih I2 L2 b2 hR2 ((congrFun (hf2 100001 (by decide)) 0).trans ((congrFun e1 0).trans hI)), fun c => absurd rfl c⟩
  refine ⟨fun _ => ?_, fun _ => ?_⟩
  · refine ⟨hp 1 (by decide), ?_⟩
    refine ⟨hp 2 (by decide), ?_⟩
    refine ⟨hp 3 (by decide), ?_⟩
    obtain ⟨M, hS, hM⟩ := hmatters (I 100000 (nI i + nI 1).toNatClampNeg) (I 100000 (nI i + nI 2).toNatClampNeg) (I 100000 (nI i + nI 3).toNatClampNeg) I hR
    refine hS b L _ (fun v b1 I1 L1 hv hf => ?_)
    have e0 := hf 100000 (by decide)
    have e1 := hf 100001 (by decide)
    rw [e0, e1]
    refine ⟨hp 1 (by decide), ?_⟩
    refine ⟨hp 2 (by decide), ?_⟩
    refine ⟨hp 3 (by decide), ?_⟩
    refine hM v I1 hv b1 L1 _ (fun b2 I2 L2 hR2 hf2 => ?_)
    exact ⟨fun _ => ih I2 L2 b2 hR2 ((congrFun (hf2 100001 (by decide)) 0).trans ((congrFun e1 0).trans hI)), fun c => absurd rfl c⟩
  refine ⟨fun _ => ?_, fun _ => ?_⟩
  · refine ⟨hp 1 (by decide), ?_⟩
    refine ⟨hp 2 (by decide), ?_⟩
    refine ⟨hp 3 (by decide), ?_⟩
    refine ⟨fun c0 => ?_, fun c0 => ?_⟩
    · obtain ⟨M, hS, hM⟩ := hkey (I 100000 (nI i + nI 1).toNatClampNeg) (I 100000 (nI i + nI 2).toNatClampNeg) 0 (by decide) I hR
      refine hS b L _ (fun v b1 I1 L1 hv hf => ?_)
      have e0 := hf 100000 (by decide)
      have e1 := hf 100001 (by decide)
      rw [e0, e1]
      refine ⟨hp 1 (by decide), ?_⟩
      refine ⟨hp 2 (by decide), ?_⟩
      refine ⟨hp 3 (by decide), ?_⟩
      refine ⟨fun _ => ?_, fun q => absurd c0 q⟩
      refine hM v I1 hv b1 L1 _ (fun b2 I2 L2 hR2 hf2 => ?_)
      exact ⟨fun _ => ih I2 L2 b2 hR2 ((congrFun (hf2 100001 (by decide)) 0).trans ((congrFun e1 0).trans hI)), fun c => absurd rfl c⟩
    · obtain ⟨M, hS, hM⟩ := hkey (I 100000 (nI i + nI 1).toNatClampNeg) (I 100000 (nI i + nI 2).toNatClampNeg) 1 (by decide) I hR
      refine hS b L _ (fun v b1 I1 L1 hv hf => ?_)
      have e0 := hf 100000 (by decide)
      have e1 := hf 100001 (by decide)
      rw [e0, e1]
      refine ⟨hp 1 (by decide), ?_⟩
      refine ⟨hp 2 (by decide), ?_⟩
      refine ⟨hp 3 (by decide), ?_⟩
      refine ⟨fun q => absurd q c0, fun _ => ?_⟩
      refine hM v I1 hv b1 L1 _ (fun b2 I2 L2 hR2 hf2 => ?_)
      exact ⟨fun _ => ih I2 L2 b2 hR2 ((congrFun (hf2 100001 (by decide)) 0).trans ((congrFun e1 0).trans hI)), fun c => absurd rfl c⟩
  refine ⟨fun _ => ?_, fun _ => ?_⟩
  · refine ⟨hp 1 (by decide), ?_⟩
    refine ⟨hp 2 (by decide), ?_⟩
    refine ⟨hp 3 (by decide), ?_⟩
    obtain ⟨M, hS, hM⟩ := hapart (I 100000 (nI i + nI 1).toNatClampNeg) (I 100000 (nI i + nI 2).toNatClampNeg) (I 100000 (nI i + nI 3).toNatClampNeg) I hR
    refine hS b L _ (fun v b1 I1 L1 hv hf => ?_)
    have e0 := hf 100000 (by decide)
    have e1 := hf 100001 (by decide)
    rw [e0, e1]
    refine ⟨hp 1 (by decide), ?_⟩
    refine ⟨hp 2 (by decide), ?_⟩
    refine ⟨hp 3 (by decide), ?_⟩
    refine hM v I1 hv b1 L1 _ (fun b2 I2 L2 hR2 hf2 => ?_)
    exact ⟨fun _ => ih I2 L2 b2 hR2 ((congrFun (hf2 100001 (by decide)) 0).trans ((congrFun e1 0).trans hI)), fun c => absurd rfl c⟩
  refine ⟨fun _ => ?_, fun _ => ?_⟩
  · refine ⟨hp 1 (by decide), ?_⟩
    refine ⟨hp 2 (by decide), ?_⟩
    refine ⟨hp 3 (by decide), ?_⟩
    obtain ⟨M, hS, hM⟩ := hcut (I 100000 (nI i + nI 1).toNatClampNeg) (I 100000 (nI i + nI 2).toNatClampNeg) (I 100000 (nI i + nI 3).toNatClampNeg) I hR
    refine hS b L _ (fun v b1 I1 L1 hv hf => ?_)
    have e0 := hf 100000 (by decide)
    have e1 := hf 100001 (by decide)
    rw [e0, e1]
    refine ⟨hp 1 (by decide), ?_⟩
    refine ⟨hp 2 (by decide), ?_⟩
    refine ⟨hp 3 (by decide), ?_⟩
    refine hM v I1 hv b1 L1 _ (fun b2 I2 L2 hR2 hf2 => ?_)
    exact ⟨fun _ => ih I2 L2 b2 hR2 ((congrFun (hf2 100001 (by decide)) 0).trans ((congrFun e1 0).trans hI)), fun c => absurd (lg_cmp_self v) c⟩
  refine ⟨fun _ => ?_, fun _ => ?_⟩
  · refine ⟨hp 1 (by decide), ?_⟩
    refine ⟨hp 2 (by decide), ?_⟩
    refine ⟨hp 3 (by decide), ?_⟩
    refine ⟨hp 4 (by decide), ?_⟩
    refine ⟨fun c0 => ?_, fun c0 => ?_⟩
    · obtain ⟨M, hS, hM⟩ := hsoon (I 100000 (nI i + nI 1).toNatClampNeg) (I 100000 (nI i + nI 2).toNatClampNeg) (I 100000 (nI i + nI 3).toNatClampNeg) 0 (by decide) I hR
      refine hS b L _ (fun v b1 I1 L1 hv hf => ?_)
      have e0 := hf 100000 (by decide)
      have e1 := hf 100001 (by decide)
      rw [e0, e1]
      refine ⟨hp 1 (by decide), ?_⟩
      refine ⟨hp 2 (by decide), ?_⟩
      refine ⟨hp 3 (by decide), ?_⟩
      refine ⟨hp 4 (by decide), ?_⟩
      refine ⟨fun _ => ?_, fun q => absurd c0 q⟩
      refine hM v I1 hv b1 L1 _ (fun b2 I2 L2 hR2 hf2 => ?_)
      exact ⟨fun _ => ih I2 L2 b2 hR2 ((congrFun (hf2 100001 (by decide)) 0).trans ((congrFun e1 0).trans hI)), fun c => absurd rfl c⟩
    · obtain ⟨M, hS, hM⟩ := hsoon (I 100000 (nI i + nI 1).toNatClampNeg) (I 100000 (nI i + nI 2).toNatClampNeg) (I 100000 (nI i + nI 3).toNatClampNeg) 1 (by decide) I hR
      refine hS b L _ (fun v b1 I1 L1 hv hf => ?_)
      have e0 := hf 100000 (by decide)
      have e1 := hf 100001 (by decide)
      rw [e0, e1]
      refine ⟨hp 1 (by decide), ?_⟩
      refine ⟨hp 2 (by decide), ?_⟩
      refine ⟨hp 3 (by decide), ?_⟩
      refine ⟨hp 4 (by decide), ?_⟩
      refine ⟨fun q => absurd q c0, fun _ => ?_⟩
      refine hM v I1 hv b1 L1 _ (fun b2 I2 L2 hR2 hf2 => ?_)
      exact ⟨fun _ => ih I2 L2 b2 hR2 ((congrFun (hf2 100001 (by decide)) 0).trans ((congrFun e1 0).trans hI)), fun c => absurd rfl c⟩
  refine ⟨fun _ => ?_, fun _ => ?_⟩
  · refine ⟨hp 1 (by decide), ?_⟩
    refine ⟨hp 2 (by decide), ?_⟩
    refine ⟨hp 3 (by decide), ?_⟩
    obtain ⟨M, hS, hM⟩ := hreach (I 100000 (nI i + nI 1).toNatClampNeg) (I 100000 (nI i + nI 2).toNatClampNeg) (I 100000 (nI i + nI 3).toNatClampNeg) I hR
    refine hS b L _ (fun v b1 I1 L1 hv hf => ?_)
    have e0 := hf 100000 (by decide)
    have e1 := hf 100001 (by decide)
    rw [e0, e1]
    refine ⟨hp 1 (by decide), ?_⟩
    refine ⟨hp 2 (by decide), ?_⟩
    refine ⟨hp 3 (by decide), ?_⟩
    refine hM v I1 hv b1 L1 _ (fun b2 I2 L2 hR2 hf2 => ?_)
    exact ⟨fun _ => ih I2 L2 b2 hR2 ((congrFun (hf2 100001 (by decide)) 0).trans ((congrFun e1 0).trans hI)), fun c => absurd rfl c⟩
  refine ⟨fun _ => ?_, fun _ => ?_⟩
  · refine ⟨hp 1 (by decide), ?_⟩
    obtain ⟨M, hS, hM⟩ := hloud (I 100000 (nI i + nI 1).toNatClampNeg) I hR
    refine hS b L _ (fun v b1 I1 L1 hv hf => ?_)
    have e0 := hf 100000 (by decide)
    have e1 := hf 100001 (by decide)
    rw [e0, e1]
    refine ⟨hp 1 (by decide), ?_⟩
    refine hM v I1 hv b1 L1 _ (fun b2 I2 L2 hR2 hf2 => ?_)
    exact ⟨fun _ => ih I2 L2 b2 hR2 ((congrFun (hf2 100001 (by decide)) 0).trans ((congrFun e1 0).trans hI)), fun c => absurd rfl c⟩
  refine ⟨fun _ => ?_, fun _ => ?_⟩
  · refine ⟨hp 1 (by decide), ?_⟩
    refine ⟨hp 2 (by decide), ?_⟩
    refine ⟨hp 3 (by decide), ?_⟩
    refine ⟨hp 4 (by decide), ?_⟩
    refine ⟨hp 5 (by decide), ?_⟩
    obtain ⟨M, hS, hM⟩ := hdrawn (I 100000 (nI i + nI 1).toNatClampNeg) (I 100000 (nI i + nI 2).toNatClampNeg) (I 100000 (nI i + nI 3).toNatClampNeg) (I 100000 (nI i + nI 4).toNatClampNeg) (I 100000 (nI i + nI 5).toNatClampNeg) I hR
    refine hS b L _ (fun v b1 I1 L1 hv hf => ?_)
    have e0 := hf 100000 (by decide)
    have e1 := hf 100001 (by decide)
    rw [e0, e1]
    refine ⟨hp 1 (by decide), ?_⟩
    refine ⟨hp 2 (by decide), ?_⟩
    refine ⟨hp 3 (by decide), ?_⟩
    refine ⟨hp 4 (by decide), ?_⟩
    refine ⟨hp 5 (by decide), ?_⟩
    refine hM v I1 hv b1 L1 _ (fun b2 I2 L2 hR2 hf2 => ?_)
    exact ⟨fun _ => ih I2 L2 b2 hR2 ((congrFun (hf2 100001 (by decide)) 0).trans ((congrFun e1 0).trans hI)), fun c => absurd rfl c⟩
  refine ⟨fun _ => ?_, fun _ => ?_⟩
  · refine ⟨hp 1 (by decide), ?_⟩
    refine ⟨hp 2 (by decide), ?_⟩
    refine ⟨hp 3 (by decide), ?_⟩
    refine ⟨hp 4 (by decide), ?_⟩
    refine ⟨hp 5 (by decide), ?_⟩
    refine ⟨hp 6 (by decide), ?_⟩
    refine ⟨fun c0 => ?_, fun c0 => ?_⟩
    · obtain ⟨M, hS, hM⟩ := hworlds (I 100000 (nI i + nI 1).toNatClampNeg) (I 100000 (nI i + nI 2).toNatClampNeg) (I 100000 (nI i + nI 3).toNatClampNeg) (I 100000 (nI i + nI 4).toNatClampNeg) (I 100000 (nI i + nI 5).toNatClampNeg) 0 (by decide) I hR
      refine hS b L _ (fun v b1 I1 L1 hv hf => ?_)
      have e0 := hf 100000 (by decide)
      have e1 := hf 100001 (by decide)
      rw [e0, e1]
      refine ⟨hp 1 (by decide), ?_⟩
      refine ⟨hp 2 (by decide), ?_⟩
      refine ⟨hp 3 (by decide), ?_⟩
      refine ⟨hp 4 (by decide), ?_⟩
      refine ⟨hp 5 (by decide), ?_⟩
      refine ⟨hp 6 (by decide), ?_⟩
      refine ⟨fun _ => ?_, fun q => absurd c0 q⟩
      refine hM v I1 hv b1 L1 _ (fun b2 I2 L2 hR2 hf2 => ?_)
      exact ⟨fun _ => ih I2 L2 b2 hR2 ((congrFun (hf2 100001 (by decide)) 0).trans ((congrFun e1 0).trans hI)), fun c => absurd rfl c⟩
    · obtain ⟨M, hS, hM⟩ := hworlds (I 100000 (nI i + nI 1).toNatClampNeg) (I 100000 (nI i + nI 2).toNatClampNeg) (I 100000 (nI i + nI 3).toNatClampNeg) (I 100000 (nI i + nI 4).toNatClampNeg) (I 100000 (nI i + nI 5).toNatClampNeg) 1 (by decide) I hR
      refine hS b L _ (fun v b1 I1 L1 hv hf => ?_)
      have e0 := hf 100000 (by decide)
      have e1 := hf 100001 (by decide)
      rw [e0, e1]
      refine ⟨hp 1 (by decide), ?_⟩
      refine ⟨hp 2 (by decide), ?_⟩
      refine ⟨hp 3 (by decide), ?_⟩
      refine ⟨hp 4 (by decide), ?_⟩
      refine ⟨hp 5 (by decide), ?_⟩
      refine ⟨hp 6 (by decide), ?_⟩
      refine ⟨fun q => absurd q c0, fun _ => ?_⟩
      refine hM v I1 hv b1 L1 _ (fun b2 I2 L2 hR2 hf2 => ?_)
      exact ⟨fun _ => ih I2 L2 b2 hR2 ((congrFun (hf2 100001 (by decide)) 0).trans ((congrFun e1 0).trans hI)), fun c => absurd rfl c⟩
  refine ⟨fun _ => ?_, fun _ => ?_⟩
  · refine ⟨hp 1 (by decide), ?_⟩
    refine ⟨hp 2 (by decide), ?_⟩
    refine ⟨hp 3 (by decide), ?_⟩
    refine ⟨hp 4 (by decide), ?_⟩
    obtain ⟨M, hS, hM⟩ := hbarred (I 100000 (nI i + nI 1).toNatClampNeg) (I 100000 (nI i + nI 2).toNatClampNeg) (I 100000 (nI i + nI 3).toNatClampNeg) (I 100000 (nI i + nI 4).toNatClampNeg) I hR
    refine hS b L _ (fun v b1 I1 L1 hv hf => ?_)
    have e0 := hf 100000 (by decide)
    have e1 := hf 100001 (by decide)
    rw [e0, e1]
    refine ⟨hp 1 (by decide), ?_⟩
    refine ⟨hp 2 (by decide), ?_⟩
    refine ⟨hp 3 (by decide), ?_⟩
    refine ⟨hp 4 (by decide), ?_⟩
    refine hM v I1 hv b1 L1 _ (fun b2 I2 L2 hR2 hf2 => ?_)
    exact ⟨fun _ => ih I2 L2 b2 hR2 ((congrFun (hf2 100001 (by decide)) 0).trans ((congrFun e1 0).trans hI)), fun c => absurd (lg_cmp_self v) c⟩
  refine ⟨fun _ => ?_, fun _ => ?_⟩
  · refine ⟨hp 1 (by decide), ?_⟩
    refine ⟨hp 2 (by decide), ?_⟩
    refine ⟨hp 3 (by decide), ?_⟩
    refine ⟨fun c0 => ?_, fun c0 => ?_⟩
    · obtain ⟨M, hS, hM⟩ := hjoin (I 100000 (nI i + nI 1).toNatClampNeg) (I 100000 (nI i + nI 2).toNatClampNeg) 0 (by decide) I hR
      refine hS b L _ (fun v b1 I1 L1 hv hf => ?_)
      have e0 := hf 100000 (by decide)
      have e1 := hf 100001 (by decide)
      rw [e0, e1]
      refine ⟨hp 1 (by decide), ?_⟩
      refine ⟨hp 2 (by decide), ?_⟩
      refine ⟨hp 3 (by decide), ?_⟩
      refine ⟨fun _ => ?_, fun q => absurd c0 q⟩
      refine hM v I1 hv b1 L1 _ (fun b2 I2 L2 hR2 hf2 => ?_)
      exact ⟨fun _ => ih I2 L2 b2 hR2 ((congrFun (hf2 100001 (by decide)) 0).trans ((congrFun e1 0).trans hI)), fun c => absurd rfl c⟩
    · obtain ⟨M, hS, hM⟩ := hjoin (I 100000 (nI i + nI 1).toNatClampNeg) (I 100000 (nI i + nI 2).toNatClampNeg) 1 (by decide) I hR
      refine hS b L _ (fun v b1 I1 L1 hv hf => ?_)
      have e0 := hf 100000 (by decide)
      have e1 := hf 100001 (by decide)
      rw [e0, e1]
      refine ⟨hp 1 (by decide), ?_⟩
      refine ⟨hp 2 (by decide), ?_⟩
      refine ⟨hp 3 (by decide), ?_⟩
      refine ⟨fun q => absurd q c0, fun _ => ?_⟩
      refine hM v I1 hv b1 L1 _ (fun b2 I2 L2 hR2 hf2 => ?_)
      exact ⟨fun _ => ih I2 L2 b2 hR2 ((congrFun (hf2 100001 (by decide)) 0).trans ((congrFun e1 0).trans hI)), fun c => absurd rfl c⟩
  refine ⟨fun _ => ?_, fun _ => ?_⟩
  · refine ⟨hp 1 (by decide), ?_⟩
    refine ⟨hp 2 (by decide), ?_⟩
    refine ⟨hp 3 (by decide), ?_⟩
    obtain ⟨M, hS, hM⟩ := hunlike (I 100000 (nI i + nI 1).toNatClampNeg) (I 100000 (nI i + nI 2).toNatClampNeg) (I 100000 (nI i + nI 3).toNatClampNeg) I hR
    refine hS b L _ (fun v b1 I1 L1 hv hf => ?_)
    have e0 := hf 100000 (by decide)
    have e1 := hf 100001 (by decide)
    rw [e0, e1]
    refine ⟨hp 1 (by decide), ?_⟩
    refine ⟨hp 2 (by decide), ?_⟩
    refine ⟨hp 3 (by decide), ?_⟩
    refine hM v I1 hv b1 L1 _ (fun b2 I2 L2 hR2 hf2 => ?_)
    exact ⟨fun _ => ih I2 L2 b2 hR2 ((congrFun (hf2 100001 (by decide)) 0).trans ((congrFun e1 0).trans hI)), fun c => absurd rfl c⟩
  refine ⟨fun _ => ?_, fun _ => ?_⟩
  · refine ⟨hp 1 (by decide), ?_⟩
    refine ⟨hp 2 (by decide), ?_⟩
    refine ⟨hp 3 (by decide), ?_⟩
    obtain ⟨M, hS, hM⟩ := hwhole (I 100000 (nI i + nI 1).toNatClampNeg) (I 100000 (nI i + nI 2).toNatClampNeg) (I 100000 (nI i + nI 3).toNatClampNeg) I hR
    refine hS b L _ (fun v b1 I1 L1 hv hf => ?_)
    have e0 := hf 100000 (by decide)
    have e1 := hf 100001 (by decide)
    rw [e0, e1]
    refine ⟨hp 1 (by decide), ?_⟩
    refine ⟨hp 2 (by decide), ?_⟩
    refine ⟨hp 3 (by decide), ?_⟩
    refine hM v I1 hv b1 L1 _ (fun b2 I2 L2 hR2 hf2 => ?_)
    exact ⟨fun _ => ih I2 L2 b2 hR2 ((congrFun (hf2 100001 (by decide)) 0).trans ((congrFun e1 0).trans hI)), fun c => absurd rfl c⟩
  refine ⟨fun _ => ?_, fun _ => ?_⟩
  · refine ⟨hp 1 (by decide), ?_⟩
    refine ⟨hp 2 (by decide), ?_⟩
    refine ⟨hp 3 (by decide), ?_⟩
    obtain ⟨M, hS, hM⟩ := hwavers (I 100000 (nI i + nI 1).toNatClampNeg) (I 100000 (nI i + nI 2).toNatClampNeg) (I 100000 (nI i + nI 3).toNatClampNeg) I hR
    refine hS b L _ (fun v b1 I1 L1 hv hf => ?_)
    have e0 := hf 100000 (by decide)
    have e1 := hf 100001 (by decide)
    rw [e0, e1]
    refine ⟨hp 1 (by decide), ?_⟩
    refine ⟨hp 2 (by decide), ?_⟩
    refine ⟨hp 3 (by decide), ?_⟩
    refine hM v I1 hv b1 L1 _ (fun b2 I2 L2 hR2 hf2 => ?_)
    exact ⟨fun _ => ih I2 L2 b2 hR2 ((congrFun (hf2 100001 (by decide)) 0).trans ((congrFun e1 0).trans hI)), fun c => absurd rfl c⟩
  refine ⟨fun _ => ?_, fun _ => ?_⟩
  · refine ⟨hp 1 (by decide), ?_⟩
    refine ⟨hp 2 (by decide), ?_⟩
    refine ⟨hp 3 (by decide), ?_⟩
    refine ⟨hp 4 (by decide), ?_⟩
    obtain ⟨M, hS, hM⟩ := hoften (I 100000 (nI i + nI 1).toNatClampNeg) (I 100000 (nI i + nI 2).toNatClampNeg) (I 100000 (nI i + nI 3).toNatClampNeg) (I 100000 (nI i + nI 4).toNatClampNeg) I hR
    refine hS b L _ (fun v b1 I1 L1 hv hf => ?_)
    have e0 := hf 100000 (by decide)
    have e1 := hf 100001 (by decide)
    rw [e0, e1]
    refine ⟨hp 1 (by decide), ?_⟩
    refine ⟨hp 2 (by decide), ?_⟩
    refine ⟨hp 3 (by decide), ?_⟩
    refine ⟨hp 4 (by decide), ?_⟩
    refine hM v I1 hv b1 L1 _ (fun b2 I2 L2 hR2 hf2 => ?_)
    exact ⟨fun _ => ih I2 L2 b2 hR2 ((congrFun (hf2 100001 (by decide)) 0).trans ((congrFun e1 0).trans hI)), fun c => absurd rfl c⟩
  refine ⟨fun _ => ?_, fun _ => ?_⟩
  · refine ⟨hp 1 (by decide), ?_⟩
    refine ⟨hp 2 (by decide), ?_⟩
    refine ⟨hp 3 (by decide), ?_⟩
    refine ⟨hp 4 (by decide), ?_⟩
    obtain ⟨M, hS, hM⟩ := hcures (I 100000 (nI i + nI 1).toNatClampNeg) (I 100000 (nI i + nI 2).toNatClampNeg) (I 100000 (nI i + nI 3).toNatClampNeg) (I 100000 (nI i + nI 4).toNatClampNeg) I hR
    refine hS b L _ (fun v b1 I1 L1 hv hf => ?_)
    have e0 := hf 100000 (by decide)
    have e1 := hf 100001 (by decide)
    rw [e0, e1]
    refine ⟨hp 1 (by decide), ?_⟩
    refine ⟨hp 2 (by decide), ?_⟩
    refine ⟨hp 3 (by decide), ?_⟩
    refine ⟨hp 4 (by decide), ?_⟩
    refine hM v I1 hv b1 L1 _ (fun b2 I2 L2 hR2 hf2 => ?_)
    exact ⟨fun _ => ih I2 L2 b2 hR2 ((congrFun (hf2 100001 (by decide)) 0).trans ((congrFun e1 0).trans hI)), fun c => absurd rfl c⟩
  refine ⟨fun _ => ?_, fun _ => ?_⟩
  · refine ⟨hp 1 (by decide), ?_⟩
    refine ⟨hp 2 (by decide), ?_⟩
    refine ⟨hp 3 (by decide), ?_⟩
    refine ⟨hp 4 (by decide), ?_⟩
    obtain ⟨M, hS, hM⟩ := hshield (I 100000 (nI i + nI 1).toNatClampNeg) (I 100000 (nI i + nI 2).toNatClampNeg) (I 100000 (nI i + nI 3).toNatClampNeg) (I 100000 (nI i + nI 4).toNatClampNeg) I hR
    refine hS b L _ (fun v b1 I1 L1 hv hf => ?_)
    have e0 := hf 100000 (by decide)
    have e1 := hf 100001 (by decide)
    rw [e0, e1]
    refine ⟨hp 1 (by decide), ?_⟩
    refine ⟨hp 2 (by decide), ?_⟩
    refine ⟨hp 3 (by decide), ?_⟩
    refine ⟨hp 4 (by decide), ?_⟩
    refine hM v I1 hv b1 L1 _ (fun b2 I2 L2 hR2 hf2 => ?_)
    exact ⟨fun _ => ih I2 L2 b2 hR2 ((congrFun (hf2 100001 (by decide)) 0).trans ((congrFun e1 0).trans hI)), fun c => absurd rfl c⟩
  refine ⟨fun _ => ?_, fun _ => ?_⟩
  · refine ⟨hp 1 (by decide), ?_⟩
    refine ⟨hp 2 (by decide), ?_⟩
    refine ⟨hp 3 (by decide), ?_⟩
    obtain ⟨M, hS, hM⟩ := hworst (I 100000 (nI i + nI 1).toNatClampNeg) (I 100000 (nI i + nI 2).toNatClampNeg) (I 100000 (nI i + nI 3).toNatClampNeg) I hR
    refine hS b L _ (fun v b1 I1 L1 hv hf => ?_)
    have e0 := hf 100000 (by decide)
    have e1 := hf 100001 (by decide)
    rw [e0, e1]
    refine ⟨hp 1 (by decide), ?_⟩
    refine ⟨hp 2 (by decide), ?_⟩
    refine ⟨hp 3 (by decide), ?_⟩
    refine hM v I1 hv b1 L1 _ (fun b2 I2 L2 hR2 hf2 => ?_)
    exact ⟨fun _ => ih I2 L2 b2 hR2 ((congrFun (hf2 100001 (by decide)) 0).trans ((congrFun e1 0).trans hI)), fun c => absurd rfl c⟩
  refine ⟨fun _ => ?_, fun _ => ?_⟩
  · refine ⟨hp 1 (by decide), ?_⟩
    refine ⟨hp 2 (by decide), ?_⟩
    refine ⟨hp 3 (by decide), ?_⟩
    obtain ⟨M, hS, hM⟩ := hdeaf (I 100000 (nI i + nI 1).toNatClampNeg) (I 100000 (nI i + nI 2).toNatClampNeg) (I 100000 (nI i + nI 3).toNatClampNeg) I hR
    refine hS b L _ (fun v b1 I1 L1 hv hf => ?_)
    have e0 := hf 100000 (by decide)
    have e1 := hf 100001 (by decide)
    rw [e0, e1]
    refine ⟨hp 1 (by decide), ?_⟩
    refine ⟨hp 2 (by decide), ?_⟩
    refine ⟨hp 3 (by decide), ?_⟩
    refine hM v I1 hv b1 L1 _ (fun b2 I2 L2 hR2 hf2 => ?_)
    exact ⟨fun _ => ih I2 L2 b2 hR2 ((congrFun (hf2 100001 (by decide)) 0).trans ((congrFun e1 0).trans hI)), fun c => absurd rfl c⟩
  refine ⟨fun _ => ?_, fun _ => ?_⟩
  · refine ⟨hp 1 (by decide), ?_⟩
    refine ⟨hp 2 (by decide), ?_⟩
    refine ⟨hp 3 (by decide), ?_⟩
    refine ⟨hp 4 (by decide), ?_⟩
    refine ⟨fun c0 => ?_, fun c0 => ?_⟩
    · obtain ⟨M, hS, hM⟩ := hturn (I 100000 (nI i + nI 1).toNatClampNeg) (I 100000 (nI i + nI 2).toNatClampNeg) (I 100000 (nI i + nI 3).toNatClampNeg) 0 (by decide) I hR
      refine hS b L _ (fun v b1 I1 L1 hv hf => ?_)
      have e0 := hf 100000 (by decide)
      have e1 := hf 100001 (by decide)
      rw [e0, e1]
      refine ⟨hp 1 (by decide), ?_⟩
      refine ⟨hp 2 (by decide), ?_⟩
      refine ⟨hp 3 (by decide), ?_⟩
      refine ⟨hp 4 (by decide), ?_⟩
      refine ⟨fun _ => ?_, fun q => absurd c0 q⟩
      refine hM v I1 hv b1 L1 _ (fun b2 I2 L2 hR2 hf2 => ?_)
      exact ⟨fun _ => ih I2 L2 b2 hR2 ((congrFun (hf2 100001 (by decide)) 0).trans ((congrFun e1 0).trans hI)), fun c => absurd rfl c⟩
    · obtain ⟨M, hS, hM⟩ := hturn (I 100000 (nI i + nI 1).toNatClampNeg) (I 100000 (nI i + nI 2).toNatClampNeg) (I 100000 (nI i + nI 3).toNatClampNeg) 1 (by decide) I hR
      refine hS b L _ (fun v b1 I1 L1 hv hf => ?_)
      have e0 := hf 100000 (by decide)
      have e1 := hf 100001 (by decide)
      rw [e0, e1]
      refine ⟨hp 1 (by decide), ?_⟩
      refine ⟨hp 2 (by decide), ?_⟩
      refine ⟨hp 3 (by decide), ?_⟩
      refine ⟨hp 4 (by decide), ?_⟩
      refine ⟨fun q => absurd q c0, fun _ => ?_⟩
      refine hM v I1 hv b1 L1 _ (fun b2 I2 L2 hR2 hf2 => ?_)
      exact ⟨fun _ => ih I2 L2 b2 hR2 ((congrFun (hf2 100001 (by decide)) 0).trans ((congrFun e1 0).trans hI)), fun c => absurd rfl c⟩
  refine ⟨fun _ => ?_, fun _ => ?_⟩
  · refine ⟨hp 1 (by decide), ?_⟩
    refine ⟨hp 2 (by decide), ?_⟩
    refine ⟨hp 3 (by decide), ?_⟩
    refine ⟨hp 4 (by decide), ?_⟩
    obtain ⟨M, hS, hM⟩ := hchain (I 100000 (nI i + nI 1).toNatClampNeg) (I 100000 (nI i + nI 2).toNatClampNeg) (I 100000 (nI i + nI 3).toNatClampNeg) (I 100000 (nI i + nI 4).toNatClampNeg) I hR
    refine hS b L _ (fun v b1 I1 L1 hv hf => ?_)
    have e0 := hf 100000 (by decide)
    have e1 := hf 100001 (by decide)
    rw [e0, e1]
    refine ⟨hp 1 (by decide), ?_⟩
    refine ⟨hp 2 (by decide), ?_⟩
    refine ⟨hp 3 (by decide), ?_⟩
    refine ⟨hp 4 (by decide), ?_⟩
    refine hM v I1 hv b1 L1 _ (fun b2 I2 L2 hR2 hf2 => ?_)
    exact ⟨fun _ => ih I2 L2 b2 hR2 ((congrFun (hf2 100001 (by decide)) 0).trans ((congrFun e1 0).trans hI)), fun c => absurd rfl c⟩
  refine ⟨fun _ => ?_, fun _ => ?_⟩
  · refine ⟨hp 1 (by decide), ?_⟩
    obtain ⟨M, hS, hM⟩ := hcount (I 100000 (nI i + nI 1).toNatClampNeg) I hR
    refine hS b L _ (fun v b1 I1 L1 hv hf => ?_)
    have e0 := hf 100000 (by decide)
    have e1 := hf 100001 (by decide)
    rw [e0, e1]
    refine ⟨hp 1 (by decide), ?_⟩
    refine hM v I1 hv b1 L1 _ (fun b2 I2 L2 hR2 hf2 => ?_)
    exact ⟨fun _ => ih I2 L2 b2 hR2 ((congrFun (hf2 100001 (by decide)) 0).trans ((congrFun e1 0).trans hI)), fun c => absurd rfl c⟩
  refine ⟨fun _ => ?_, fun _ => ?_⟩
  · refine ⟨hp 1 (by decide), ?_⟩
    obtain ⟨M, hS, hM⟩ := himage (I 100000 (nI i + nI 1).toNatClampNeg) I hR
    refine hS b L _ (fun v b1 I1 L1 hv hf => ?_)
    have e0 := hf 100000 (by decide)
    have e1 := hf 100001 (by decide)
    rw [e0, e1]
    refine ⟨hp 1 (by decide), ?_⟩
    refine hM v I1 hv b1 L1 _ (fun b2 I2 L2 hR2 hf2 => ?_)
    exact ⟨fun _ => ih I2 L2 b2 hR2 ((congrFun (hf2 100001 (by decide)) 0).trans ((congrFun e1 0).trans hI)), fun c => absurd rfl c⟩
  refine ⟨fun _ => ?_, fun _ => ?_⟩
  · refine ⟨hp 1 (by decide), ?_⟩
    obtain ⟨M, hS, hM⟩ := hagain (I 100000 (nI i + nI 1).toNatClampNeg) I hR
    refine hS b L _ (fun v b1 I1 L1 hv hf => ?_)
    have e0 := hf 100000 (by decide)
    have e1 := hf 100001 (by decide)
    rw [e0, e1]
    refine ⟨hp 1 (by decide), ?_⟩
    refine hM v I1 hv b1 L1 _ (fun b2 I2 L2 hR2 hf2 => ?_)
    exact ⟨fun _ => ih I2 L2 b2 hR2 ((congrFun (hf2 100001 (by decide)) 0).trans ((congrFun e1 0).trans hI)), fun c => absurd rfl c⟩
  exact ih I L b hR hI
theorem law_all (hA : HAll) {Ls : Nat} (hL : Ls ≤ 3584) : ∀ (n i : Nat), Ls < i + n → i ≤ 3591 → ∀ (I : MI) (L : ML) (b : Bool), Rel I → I 100001 0 = nI Ls → SW m_L_law 18 [vr 3 0, vr 21 0, vr 22 186, vi (nI i)] [] b I L (kI (fun r _ _ _ => r = 1)) := by
  intro n
  induction n with
  | zero =>
    intro i h1 h2 I L b hR hI
    refine vL_law_18 ⟨fun _ => ⟨Or.inr rfl, rfl⟩, fun q => ?_⟩
    rw [hI] at q
    exact absurd ((lp_end hL (by omega)).mpr (by omega)) q
  | succ n ih =>
    intro i h1 h2 I L b hR hI
    by_cases h : i + 7 ≤ Ls
    · refine law_step hA hL hI h hR (fun I L b hR hI => ?_)
      rw [n_add]
      exact ih (i + 7) (by omega) (by omega) I L b hR hI
    · refine vL_law_18 ⟨fun _ => ⟨Or.inr rfl, rfl⟩, fun q => ?_⟩
      rw [hI] at q
      exact absurd ((lp_end hL (by omega)).mpr (by omega)) q
theorem loop_ok (hA : HAll) : LoopOK := by
  intro Ls xs I L hL hI _ hini
  exact law_all hA hL (Ls + 1) 0 (by omega) (by omega) I L false (rel_ini hini) hI
