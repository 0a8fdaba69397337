/-! calls; String.length and String.charAt of our text constants (begun by wip/whole/genjdk.py) -/
def TG : List Cond := lw_tbl.filter goodWord
theorem tg_in {w : Cond} (h1 : w ∈ lw_tbl) (h2 : goodWord w = true) : w ∈ TG := List.mem_filter.mpr ⟨h1, h2⟩
theorem tg_good {ws : List Cond} (h : ∀ w ∈ ws, w ∈ TG) : GoodIn TG ws := fun w hw => ⟨h w hw, good_of_word (List.mem_filter.mp (h w hw)).2⟩
theorem tb_tg (k i : Nat) {w : Cond} (h : (tb k)[i]? = some w) (hg : goodWord w = true) : w ∈ TG := tg_in (tb_in k w (List.mem_of_getElem? h)) hg
section RUNG
variable {p : Program} {l : Launch} {e : Env} {R : Room} {s : State} {m : MethodId} {args : Array Value} {below : List Frame} {meth : Method} {c : Code} {H : Heap} {locs : List Loc} {cells slots : Nat} {Q : State → Prop} {pc : Nat} {ls : Array Slot} {rest st0 : List Value} {mc ms : Nat} {free : Addr → Prop} {Qa : State → Outcome → State → Prop}
/-- behind a call, whatever it answers -/
theorem run_go (hr : va_Run p l e R s m args below meth c H locs cells slots mc ms (F0 m pc ls st0) rest Qa free) (kk : ∀ (v : Option Value) (u t : State) (L : List Loc), u.heap = H → Qa u (.returned v) t → (∀ q ∈ L, free q.base) → W p l e R s m args below meth c t.heap (locs ++ L) (cells + mc) (slots + ms) Q (F0 m (pc + 3) ls (v.toList ++ rest))) : W p l e R s m args below meth c H locs cells slots Q (F0 m pc ls st0) := by
  intro T hT X
  obtain ⟨v, st₀, t, T', L, h0, X', hL, e1, e2, hq, st⟩ := hr T hT X
  obtain ⟨t2, a1, b1⟩ := kk v st₀ t L h0 hq hL T' e1 X'
  exact ⟨t2, st t2 a1, b1⟩
/-- behind a call that only answers an int -/
theorem run_i {post : Int32 → Prop} (hr : va_Run p l e R s m args below meth c H locs cells slots 0 0 (F0 m pc ls st0) rest (fun st o t => ∃ r : Int32, o = .returned (some (.int r)) ∧ post r ∧ t.heap = st.heap) (fun _ => False)) (kk : ∀ r, post r → W p l e R s m args below meth c H locs cells slots Q (F0 m (pc + 3) ls (.int r :: rest))) : W p l e R s m args below meth c H locs cells slots Q (F0 m pc ls st0) := by
  refine run_go hr (fun v u t L h0 hq hL => ?_)
  obtain ⟨r, hv, hp, ht⟩ := hq
  cases hv
  have hL0 : L = [] := by
    cases L with
    | nil => rfl
    | cons a L => exact (hL a List.mem_cons_self).elim
  subst hL0
  rw [ht, h0, List.append_nil]
  exact kk r hp
theorem run_v (hr : va_Run p l e R s m args below meth c H locs cells slots 0 0 (F0 m pc ls st0) rest (fun st o t => o = .returned none ∧ t.heap = st.heap) (fun _ => False)) (kk : W p l e R s m args below meth c H locs cells slots Q (F0 m (pc + 3) ls rest)) : W p l e R s m args below meth c H locs cells slots Q (F0 m pc ls st0) := by
  refine run_go hr (fun v u t L h0 hq hL => ?_)
  obtain ⟨hv, ht⟩ := hq
  cases hv
  have hL0 : L = [] := by
    cases L with
    | nil => rfl
    | cons a L => exact (hL a List.mem_cons_self).elim
  subst hL0
  rw [ht, h0, List.append_nil]
  exact kk
end RUNG
abbrev jC_b : ByteArray := prog_18_method_152_code
abbrev jC_y : MethodName := ⟨"java/lang/String", "coder", "()B"⟩
theorem jC_code : Cond.code jC_y jC_b 1 (some .byte) ∈ TG := tb_tg 4 72 (by decide +kernel) (by decide +kernel)
theorem jC_0 : decode jC_b 0 = .ok (.getstatic 38, 3) := by decide +kernel
theorem jC_3 : decode jC_b 3 = .ok (.ifCond .eq 10, 3) := by decide +kernel
theorem jC_6 : decode jC_b 6 = .ok (.aload_n 0, 1) := by decide +kernel
theorem jC_7 : decode jC_b 7 = .ok (.getfield 15, 3) := by decide +kernel
theorem jC_10 : decode jC_b 10 = .ok (.goto 4, 3) := by decide +kernel
theorem jC_13 : decode jC_b 13 = .ok (.iconst 1, 1) := by decide +kernel
theorem jC_14 : decode jC_b 14 = .ok (.ireturn, 1) := by decide +kernel
abbrev jL_b : ByteArray := prog_18_method_154_code
abbrev jL_y : MethodName := ⟨"java/lang/String", "isLatin1", "()Z"⟩
theorem jL_code : Cond.code jL_y jL_b 1 (some .boolean) ∈ TG := tb_tg 4 82 (by decide +kernel) (by decide +kernel)
theorem jL_0 : decode jL_b 0 = .ok (.getstatic 38, 3) := by decide +kernel
theorem jL_3 : decode jL_b 3 = .ok (.ifCond .eq 14, 3) := by decide +kernel
theorem jL_6 : decode jL_b 6 = .ok (.aload_n 0, 1) := by decide +kernel
theorem jL_7 : decode jL_b 7 = .ok (.getfield 15, 3) := by decide +kernel
theorem jL_10 : decode jL_b 10 = .ok (.ifCond .ne 7, 3) := by decide +kernel
theorem jL_13 : decode jL_b 13 = .ok (.iconst 1, 1) := by decide +kernel
theorem jL_14 : decode jL_b 14 = .ok (.goto 4, 3) := by decide +kernel
theorem jL_17 : decode jL_b 17 = .ok (.iconst 0, 1) := by decide +kernel
theorem jL_18 : decode jL_b 18 = .ok (.ireturn, 1) := by decide +kernel
abbrev jN_b : ByteArray := prog_18_method_54_code
abbrev jN_y : MethodName := ⟨"java/lang/String", "length", "()I"⟩
theorem jN_code : Cond.code jN_y jN_b 1 (some .int) ∈ TG := tb_tg 4 68 (by decide +kernel) (by decide +kernel)
theorem jN_0 : decode jN_b 0 = .ok (.aload_n 0, 1) := by decide +kernel
theorem jN_1 : decode jN_b 1 = .ok (.getfield 9, 3) := by decide +kernel
theorem jN_4 : decode jN_b 4 = .ok (.arraylength, 1) := by decide +kernel
theorem jN_5 : decode jN_b 5 = .ok (.aload_n 0, 1) := by decide +kernel
theorem jN_6 : decode jN_b 6 = .ok (.invokevirtual 335, 3) := by decide +kernel
theorem jN_9 : decode jN_b 9 = .ok (.ishr, 1) := by decide +kernel
theorem jN_10 : decode jN_b 10 = .ok (.ireturn, 1) := by decide +kernel
abbrev jA_b : ByteArray := prog_18_method_56_code
abbrev jA_y : MethodName := ⟨"java/lang/String", "charAt", "(I)C"⟩
theorem jA_code : Cond.code jA_y jA_b 2 (some .char) ∈ TG := tb_tg 4 78 (by decide +kernel) (by decide +kernel)
theorem jA_0 : decode jA_b 0 = .ok (.aload_n 0, 1) := by decide +kernel
theorem jA_1 : decode jA_b 1 = .ok (.invokevirtual 492, 3) := by decide +kernel
theorem jA_4 : decode jA_b 4 = .ok (.ifCond .eq 12, 3) := by decide +kernel
theorem jA_7 : decode jA_b 7 = .ok (.aload_n 0, 1) := by decide +kernel
theorem jA_8 : decode jA_b 8 = .ok (.getfield 9, 3) := by decide +kernel
theorem jA_11 : decode jA_b 11 = .ok (.iload_n 1, 1) := by decide +kernel
theorem jA_12 : decode jA_b 12 = .ok (.invokestatic 495, 3) := by decide +kernel
theorem jA_15 : decode jA_b 15 = .ok (.ireturn, 1) := by decide +kernel
theorem jA_16 : decode jA_b 16 = .ok (.aload_n 0, 1) := by decide +kernel
theorem jA_17 : decode jA_b 17 = .ok (.getfield 9, 3) := by decide +kernel
theorem jA_20 : decode jA_b 20 = .ok (.iload_n 1, 1) := by decide +kernel
theorem jA_21 : decode jA_b 21 = .ok (.invokestatic 498, 3) := by decide +kernel
theorem jA_24 : decode jA_b 24 = .ok (.ireturn, 1) := by decide +kernel
abbrev jB_b : ByteArray := prog_19_method_2_code
abbrev jB_y : MethodName := ⟨"java/lang/StringLatin1", "charAt", "([BI)C"⟩
theorem jB_code : Cond.code jB_y jB_b 2 (some .char) ∈ TG := tb_tg 4 85 (by decide +kernel) (by decide +kernel)
theorem jB_0 : decode jB_b 0 = .ok (.iload_n 1, 1) := by decide +kernel
theorem jB_1 : decode jB_b 1 = .ok (.aload_n 0, 1) := by decide +kernel
theorem jB_2 : decode jB_b 2 = .ok (.arraylength, 1) := by decide +kernel
theorem jB_3 : decode jB_b 3 = .ok (.invokestatic 9, 3) := by decide +kernel
theorem jB_6 : decode jB_b 6 = .ok (.aload_n 0, 1) := by decide +kernel
theorem jB_7 : decode jB_b 7 = .ok (.iload_n 1, 1) := by decide +kernel
theorem jB_8 : decode jB_b 8 = .ok (.baload, 1) := by decide +kernel
theorem jB_9 : decode jB_b 9 = .ok (.sipush 255, 3) := by decide +kernel
theorem jB_12 : decode jB_b 12 = .ok (.iand, 1) := by decide +kernel
theorem jB_13 : decode jB_b 13 = .ok (.i2c, 1) := by decide +kernel
theorem jB_14 : decode jB_b 14 = .ok (.ireturn, 1) := by decide +kernel
abbrev jX_b : ByteArray := prog_18_method_155_code
abbrev jX_y : MethodName := ⟨"java/lang/String", "checkIndex", "(II)V"⟩
theorem jX_code : Cond.code jX_y jX_b 2 none ∈ TG := tb_tg 4 88 (by decide +kernel) (by decide +kernel)
theorem jX_0 : decode jX_b 0 = .ok (.iload_n 0, 1) := by decide +kernel
theorem jX_1 : decode jX_b 1 = .ok (.iload_n 1, 1) := by decide +kernel
theorem jX_2 : decode jX_b 2 = .ok (.getstatic 1053, 3) := by decide +kernel
theorem jX_5 : decode jX_b 5 = .ok (.invokestatic 1059, 3) := by decide +kernel
theorem jX_8 : decode jX_b 8 = .ok (.pop, 1) := by decide +kernel
theorem jX_9 : decode jX_b 9 = .ok (.return_, 1) := by decide +kernel
abbrev jP_b : ByteArray := prog_23_method_11_code
abbrev jP_y : MethodName := ⟨"jdk/internal/util/Preconditions", "checkIndex", "(IILjava/util/function/BiFunction;)I"⟩
theorem jP_code : Cond.code jP_y jP_b 3 (some .int) ∈ TG := tb_tg 4 93 (by decide +kernel) (by decide +kernel)
theorem jP_0 : decode jP_b 0 = .ok (.iload_n 0, 1) := by decide +kernel
theorem jP_1 : decode jP_b 1 = .ok (.ifCond .lt 8, 3) := by decide +kernel
theorem jP_4 : decode jP_b 4 = .ok (.iload_n 0, 1) := by decide +kernel
theorem jP_5 : decode jP_b 5 = .ok (.iload_n 1, 1) := by decide +kernel
theorem jP_6 : decode jP_b 6 = .ok (.if_icmp .lt 10, 3) := by decide +kernel
theorem jP_9 : decode jP_b 9 = .ok (.aload_n 2, 1) := by decide +kernel
theorem jP_10 : decode jP_b 10 = .ok (.iload_n 0, 1) := by decide +kernel
theorem jP_11 : decode jP_b 11 = .ok (.iload_n 1, 1) := by decide +kernel
theorem jP_12 : decode jP_b 12 = .ok (.invokestatic 95, 3) := by decide +kernel
theorem jP_15 : decode jP_b 15 = .ok (.athrow, 1) := by decide +kernel
theorem jP_16 : decode jP_b 16 = .ok (.iload_n 0, 1) := by decide +kernel
theorem jP_17 : decode jP_b 17 = .ok (.ireturn, 1) := by decide +kernel
theorem jw_cs : Cond.fieldLink "java/lang/String" 38 "java/lang/String" "COMPACT_STRINGS" "Z" ∈ TG := tb_tg 4 73 (by decide +kernel) (by decide +kernel)
theorem jw_cd : Cond.fieldLink "java/lang/String" 15 "java/lang/String" "coder" "B" ∈ TG := tb_tg 5 85 (by decide +kernel) (by decide +kernel)
theorem jw_vl : Cond.fieldLink "java/lang/String" 9 "java/lang/String" "value" "[B" ∈ TG := tb_tg 5 84 (by decide +kernel) (by decide +kernel)
theorem jw_sf : Cond.fieldLink "java/lang/String" 1053 "jdk/internal/util/Preconditions" "SIOOBE_FORMATTER" "Ljava/util/function/BiFunction;" ∈ TG := tb_tg 4 89 (by decide +kernel) (by decide +kernel)
theorem jq_C_l : Cond.methodLink "java/lang/String" 335 jC_y ∈ TG := tb_tg 4 69 (by decide +kernel) (by decide +kernel)
theorem jq_C_s : Cond.instanceMethod jC_y ∈ TG := tb_tg 4 70 (by decide +kernel) (by decide +kernel)
theorem jq_C_t : Cond.selects "java/lang/String" jC_y jC_y ∈ TG := tb_tg 4 71 (by decide +kernel) (by decide +kernel)
theorem jq_C_i : Cond.initialized "java/lang/String" ∈ TG := tb_tg 1 14 (by decide +kernel) (by decide +kernel)
theorem jq_L_l : Cond.methodLink "java/lang/String" 492 jL_y ∈ TG := tb_tg 4 79 (by decide +kernel) (by decide +kernel)
theorem jq_L_s : Cond.instanceMethod jL_y ∈ TG := tb_tg 4 80 (by decide +kernel) (by decide +kernel)
theorem jq_L_t : Cond.selects "java/lang/String" jL_y jL_y ∈ TG := tb_tg 4 81 (by decide +kernel) (by decide +kernel)
theorem jq_L_i : Cond.initialized "java/lang/String" ∈ TG := tb_tg 1 14 (by decide +kernel) (by decide +kernel)
theorem jq_B_l : Cond.methodLink "java/lang/String" 495 jB_y ∈ TG := tb_tg 4 83 (by decide +kernel) (by decide +kernel)
theorem jq_B_s : Cond.static jB_y ∈ TG := tb_tg 4 84 (by decide +kernel) (by decide +kernel)
theorem jq_B_i : Cond.initialized "java/lang/StringLatin1" ∈ TG := tb_tg 1 15 (by decide +kernel) (by decide +kernel)
theorem jq_X_l : Cond.methodLink "java/lang/StringLatin1" 9 jX_y ∈ TG := tb_tg 4 86 (by decide +kernel) (by decide +kernel)
theorem jq_X_s : Cond.static jX_y ∈ TG := tb_tg 4 87 (by decide +kernel) (by decide +kernel)
theorem jq_X_i : Cond.initialized "java/lang/String" ∈ TG := tb_tg 1 14 (by decide +kernel) (by decide +kernel)
theorem jq_P_l : Cond.methodLink "java/lang/String" 1059 jP_y ∈ TG := tb_tg 4 91 (by decide +kernel) (by decide +kernel)
theorem jq_P_s : Cond.static jP_y ∈ TG := tb_tg 4 92 (by decide +kernel) (by decide +kernel)
theorem jq_P_i : Cond.initialized "jdk/internal/util/Preconditions" ∈ TG := tb_tg 1 16 (by decide +kernel) (by decide +kernel)
/-- the text constants, and two statics of the library -/
def JU (base : Nat) (adK adV : Nat → Nat) (U : State) (H : Heap) : Prop := vk_S 14 (strB.map List.length) strB adK adV (AO base) U H ∧ va_Z "java/lang/String" "COMPACT_STRINGS" "Z" (.int 1) (AO base) U H ∧ va_Zq "jdk/internal/util/Preconditions" "SIOOBE_FORMATTER" "Ljava/util/function/BiFunction;" (AO base) U H
theorem JU.moved {base : Nat} {adK adV : Nat → Nat} {u U : State} {H : Heap} (hvm : u.vm.Alike U.vm) (h : JU base adK adV u H) : JU base adK adV U H := by
  obtain ⟨h1, h2, h3⟩ := h
  refine ⟨h1.moved hvm, h2.moved hvm, ?_⟩
  rcases h3 with h3 | ⟨t, h3⟩
  · exact Or.inl (h3.moved hvm)
  · exact Or.inr ⟨t, h3.moved hvm⟩
theorem JU.kept {base : Nat} {adK adV : Nat → Nat} {U : State} {H H1 : Heap} (h : JU base adK adV U H) (hq : ∀ a : Nat, a < H.size → ¬ AO base a → H1[a]? = H[a]?) : JU base adK adV U H1 := by
  obtain ⟨h1, h2, h3⟩ := h
  refine ⟨h1.kept hq, h2.kept hq, ?_⟩
  rcases h3 with h3 | ⟨t, h3⟩
  · exact Or.inl (h3.kept hq)
  · exact Or.inr ⟨t, h3.kept hq⟩
theorem JU.at {base : Nat} {adK adV : Nat → Nat} {s U : State} {H : Heap} (h : JU base adK adV s H) (hU : U.heap = H) (hW : s.WarmedH U.vm) : JU base adK adV U U.heap := by
  rw [hU]
  exact h.moved hW.alike
theorem JU.blind {base : Nat} {adK adV : Nat → Nat} {av : List Value} : FrameBlind (va_Pc av (fun U => JU base adK adV U U.heap)) := fun a U g mk q => ⟨q.1, q.2.moved (u := U) (U := U.calling g mk a) (Vm.Alike.refl U.vm)⟩
theorem len_at : ∀ k, k < 14 → (strB.map List.length).getD k 0 = slen k := by
  intro k h
  match k, h with
  | 0, _ => rfl
  | 1, _ => rfl
  | 2, _ => rfl
  | 3, _ => rfl
  | 4, _ => rfl
  | 5, _ => rfl
  | 6, _ => rfl
  | 7, _ => rfl
  | 8, _ => rfl
  | 9, _ => rfl
  | 10, _ => rfl
  | 11, _ => rfl
  | 12, _ => rfl
  | 13, _ => rfl
  | n + 14, h => exact absurd h (by omega)
theorem byt_at (k j : Nat) : (strB.getD k []).getD j 0 = sch k j := by
  have e : ∀ (l : List (List Int32)) (k : Nat), l.getD k [] = nth [] l k := by
    intro l
    induction l with
    | nil => intro k; rfl
    | cons a l ih =>
      intro k
      cases k with
      | zero => rfl
      | succ k =>
        rw [List.getD_cons_succ]
        exact ih k
  rw [e]
  rfl
theorem sch_i2c : ∀ k, k < 14 → ∀ j, j < slen k → ((sch k j &&& 255).toUInt32 % 65536).toInt32 = sch k j := by decide +kernel
theorem sch_char : ∀ k, k < 14 → ∀ j, j < slen k → narrow .char (.int (sch k j)) = .int (sch k j) := by decide +kernel
theorem slen_s : ∀ k, k < 14 → Int32.ofNat (slen k) >>> ((0 : Int32) &&& 31) = Int32.ofNat (slen k) ∧ slen k < 100 := by decide +kernel
abbrev JW (y : MethodName) (b : ByteArray) (n : Nat) (r : Option FieldType) : List Cond := .code y b n r :: TG
abbrev ZI (post : Int32 → Prop) : Array Value → State → Outcome → State → Prop := fun _ st o t => ∃ r : Int32, o = .returned (some (.int r)) ∧ post r ∧ t.heap = st.heap
section JDK
variable (l : Launch) {base : Nat} {adK adV : Nat → Nat}
theorem jw_ts {y : MethodName} {b : ByteArray} {n : Nat} {r : Option FieldType} {args : Array Value} {s : State} (h : (allAtoms (JW y b n r)).before args s = true) : ∀ w ∈ TG, w.before args s = true := fun w hw => atoms_spec (ws := JW y b n r) h w (List.mem_cons_of_mem _ hw)
theorem st_words {own : String} {idx : Nat} {y : MethodName} {b : ByteArray} {n : Nat} {r : Option FieldType} (h1 : Cond.methodLink own idx y ∈ TG) (h2 : Cond.static y ∈ TG) (h3 : Cond.initialized y.cls ∈ TG) (h4 : Cond.code y b n r ∈ TG) : GoodIn TG (va_wsS own idx y (JW y b n r)) := by
  refine tg_good (fun w hw => ?_)
  have hw : w ∈ ([.methodLink own idx y, .static y, .initialized y.cls] : List Cond) ++ (Cond.code y b n r :: TG) := hw
  rcases List.mem_append.mp hw with q | q
  · rcases List.mem_cons.mp q with rfl | q
    · exact h1
    · rcases List.mem_cons.mp q with rfl | q
      · exact h2
      · rcases List.mem_cons.mp q with rfl | q
        · exact h3
        · cases q
  · rcases List.mem_cons.mp q with rfl | q
    · exact h4
    · exact q
theorem vi_words {own : String} {idx : Nat} {C : String} {y : MethodName} {b : ByteArray} {n : Nat} {r : Option FieldType} (h1 : Cond.methodLink own idx y ∈ TG) (h2 : Cond.instanceMethod y ∈ TG) (h3 : Cond.selects C y y ∈ TG) (h5 : Cond.initialized C ∈ TG) (h4 : Cond.code y b n r ∈ TG) : GoodIn TG (wsV own idx C y (JW y b n r)) := by
  refine tg_good (fun w hw => ?_)
  have hw : w ∈ ([.methodLink own idx y, .instanceMethod y, .selects C y y, .initialized C] : List Cond) ++ (Cond.code y b n r :: TG) := hw
  rcases List.mem_append.mp hw with q | q
  · rcases List.mem_cons.mp q with rfl | q
    · exact h1
    · rcases List.mem_cons.mp q with rfl | q
      · exact h2
      · rcases List.mem_cons.mp q with rfl | q
        · exact h3
        · rcases List.mem_cons.mp q with rfl | q
          · exact h5
          · cases q
  · rcases List.mem_cons.mp q with rfl | q
    · exact h4
    · exact q
set_option maxRecDepth 10000 in
theorem c_jC {k : Nat} (hk : k < 14) : Met l jC_y (JW jC_y jC_b 1 (some .byte)) ({ frames := 0, cells := 0, slots := 0, locals := 0 }) (va_Pc [.ref (adK k)] (fun U => JU base adK adV U U.heap)) (ZI (fun r => r = 0)) 0 0 (fun _ => False) := by
  refine Met.ofW (cc := jC_b) (maxL := 1) (ret := some .byte) (by decide) rfl ?_
  intro p e s m args below meth c s₁ B hml hv
  obtain ⟨rfl, hJ⟩ := hv
  have hx := B.exec
  have hb := B.bytes
  have hr := B.returns
  have hts := jw_ts B.pre
  have hown : s.vm.findClass "java/lang/String" = some m.cls := findClass_of_methodNamed B.named
  have hlocks := B.notSynchronized
  have hl := lv_entry ([.ref (adK k)]) (n := 1) (Nat.le_of_ble_eq_true rfl)
  rw [lg_entry_eq]
  generalize (lg_sl ([.ref (adK k)]) ++ List.replicate (1 - (lg_sl ([.ref (adK k)])).length) Slot.unset).toArray = ls at hl ⊢
  have hl : lv_has ls 1 [(0, .ref (adK k))] := hl
  refine va_gets hx hb hJ.2.1 va_S.rf hown (hts _ jw_cs) (fun _ h => h) jC_0 ?_
  refine lv_if_eq (tgt := 13) hx hb jC_3 (by decide) (fun q => absurd q (by decide)) (fun _ => ?_)
  refine lv_aload_n hx hb jC_6 rfl (lv_at hl 0 rfl) ?_
  refine vk_getf hx hb (hJ.1.1 k hk).2.1 va_S.rf hown (hts _ jw_cd) (fun _ h => h) jC_7 ?_
  refine lv_goto (tgt := 14) hx hb jC_10 (by decide) ?_
  exact W.zret (ty := .byte) (v := 0) hx hb hr rfl (fun t ht _ => ⟨0, rfl, rfl, ht⟩) (fun q h => by cases h) jC_14
set_option maxRecDepth 10000 in
theorem c_jL {k : Nat} (hk : k < 14) : Met l jL_y (JW jL_y jL_b 1 (some .boolean)) ({ frames := 0, cells := 0, slots := 0, locals := 0 }) (va_Pc [.ref (adK k)] (fun U => JU base adK adV U U.heap)) (ZI (fun r => r = 1)) 0 0 (fun _ => False) := by
  refine Met.ofW (cc := jL_b) (maxL := 1) (ret := some .boolean) (by decide) rfl ?_
  intro p e s m args below meth c s₁ B hml hv
  obtain ⟨rfl, hJ⟩ := hv
  have hx := B.exec
  have hb := B.bytes
  have hr := B.returns
  have hts := jw_ts B.pre
  have hown : s.vm.findClass "java/lang/String" = some m.cls := findClass_of_methodNamed B.named
  have hlocks := B.notSynchronized
  have hl := lv_entry ([.ref (adK k)]) (n := 1) (Nat.le_of_ble_eq_true rfl)
  rw [lg_entry_eq]
  generalize (lg_sl ([.ref (adK k)]) ++ List.replicate (1 - (lg_sl ([.ref (adK k)])).length) Slot.unset).toArray = ls at hl ⊢
  have hl : lv_has ls 1 [(0, .ref (adK k))] := hl
  refine va_gets hx hb hJ.2.1 va_S.rf hown (hts _ jw_cs) (fun _ h => h) jL_0 ?_
  refine lv_if_eq (tgt := 17) hx hb jL_3 (by decide) (fun q => absurd q (by decide)) (fun _ => ?_)
  refine lv_aload_n hx hb jL_6 rfl (lv_at hl 0 rfl) ?_
  refine vk_getf hx hb (hJ.1.1 k hk).2.1 va_S.rf hown (hts _ jw_cd) (fun _ h => h) jL_7 ?_
  refine lv_if_ne (tgt := 17) hx hb jL_10 (by decide) (fun q => absurd rfl q) (fun _ => ?_)
  refine lv_iconst (v := 1) hx hb jL_13 (by decide) ?_
  refine lv_goto (tgt := 18) hx hb jL_14 (by decide) ?_
  exact W.zret (ty := .boolean) (v := 1) hx hb hr rfl (fun t ht _ => ⟨1, rfl, rfl, ht⟩) (fun q h => by cases h) jL_18
set_option maxRecDepth 10000 in
theorem c_jN {k : Nat} (hk : k < 14) : Met l jN_y (JW jN_y jN_b 1 (some .int)) ({ frames := 1, cells := 0, slots := 0, locals := 20 }) (va_Pc [.ref (adK k)] (fun U => JU base adK adV U U.heap)) (ZI (fun r => r = Int32.ofNat (slen k))) 0 0 (fun _ => False) := by
  refine Met.ofW (cc := jN_b) (maxL := 1) (ret := some .int) (by decide) rfl ?_
  intro p e s m args below meth c s₁ B hml hv
  obtain ⟨rfl, hJ⟩ := hv
  have hx := B.exec
  have hb := B.bytes
  have hr := B.returns
  have hts := jw_ts B.pre
  have hown : s.vm.findClass "java/lang/String" = some m.cls := findClass_of_methodNamed B.named
  have hlocks := B.notSynchronized
  have hl := lv_entry ([.ref (adK k)]) (n := 1) (Nat.le_of_ble_eq_true rfl)
  rw [lg_entry_eq]
  generalize (lg_sl ([.ref (adK k)]) ++ List.replicate (1 - (lg_sl ([.ref (adK k)])).length) Slot.unset).toArray = ls at hl ⊢
  have hl : lv_has ls 1 [(0, .ref (adK k))] := hl
  refine lv_aload_n hx hb jN_0 rfl (lv_at hl 0 rfl) ?_
  refine vk_getf hx hb (hJ.1.1 k hk).2.2.1 va_S.rf hown (hts _ jw_vl) (fun _ h => h) jN_1 ?_
  refine va_tlen hx hb (hJ.1.1 k hk).2.2.2 va_S.rf (by rw [len_at k hk]) jN_4 ?_
  refine lv_aload_n hx hb jN_5 rfl (lv_at hl 0 rfl) ?_
  refine run_i (va_runV (As := []) (rest := [.int (Int32.ofNat (slen k))]) (b := adK k) ⟨hx, hb, hml, hown, hts⟩ (c_jC l hk) (cwV 0 hts (vi_words jq_C_l jq_C_s jq_C_t jq_C_i jC_code) rfl rfl rfl (by decide +kernel) ⟨Nat.le_of_ble_eq_true rfl, Nat.le_of_ble_eq_true rfl⟩) ⟨JU.blind, vk_recv hJ.1 hk va_S.rf, fun U hU hW => ⟨rfl, hJ.at hU hW⟩⟩ rfl rfl hl.1 rfl (lv_room (Nat.le_of_ble_eq_true rfl)) jN_6 ⟨Nat.zero_le _, Nat.zero_le _⟩) (fun r hr0 => ?_)
  refine lv_ishr hx hb jN_9 ?_
  rw [hr0]
  rw [(slen_s k hk).1]
  exact W.iret (v := Int32.ofNat (slen k)) hx hb hr (fun t ht _ => ⟨_, rfl, rfl, ht⟩) (fun q h => by cases h) jN_10
set_option maxRecDepth 10000 in
theorem c_jP {i n : Int32} {v : Value} (h0 : ¬ i < 0) (h1 : i < n) (hv : v.category = 1) : Met l jP_y (JW jP_y jP_b 3 (some .int)) ({ frames := 0, cells := 0, slots := 0, locals := 0 }) (va_Pc [.int i, .int n, v] (fun U => JU base adK adV U U.heap)) (ZI (fun r => r = i)) 0 0 (fun _ => False) := by
  refine Met.ofW (cc := jP_b) (maxL := 3) (ret := some .int) (by decide) rfl ?_
  intro p e s m args below meth c s₁ B hml hv0
  obtain ⟨rfl, hJ⟩ := hv0
  have hx := B.exec
  have hb := B.bytes
  have hr := B.returns
  have hlocks := B.notSynchronized
  have h3 : (lg_sl ([.int i, .int n, v])).length ≤ 3 := by
    unfold lg_sl
    simp [Value.category]
    cases v <;> first | (simp [Value.category] at hv; done) | simp
  have hl := lv_entry ([.int i, .int n, v]) (n := 3) h3
  rw [lg_entry_eq]
  generalize (lg_sl ([.int i, .int n, v]) ++ List.replicate (3 - (lg_sl ([.int i, .int n, v])).length) Slot.unset).toArray = ls at hl ⊢
  have hl : lv_has ls 3 [(0, .int i), (1, .int n), (2, v)] := hl
  refine lv_iload_n hx hb jP_0 rfl (lv_at hl 0 rfl) ?_
  refine lv_if_lt (tgt := 9) hx hb jP_1 (by decide) (fun q => absurd q h0) (fun _ => ?_)
  refine lv_iload_n hx hb jP_4 rfl (lv_at hl 0 rfl) ?_
  refine lv_iload_n hx hb jP_5 rfl (lv_at hl 1 rfl) ?_
  refine lv_icmp_lt (tgt := 16) hx hb jP_6 (by decide) (fun _ => ?_) (fun q => absurd h1 q)
  refine lv_iload_n hx hb jP_16 rfl (lv_at hl 0 rfl) ?_
  exact W.iret (v := i) hx hb hr (fun t ht _ => ⟨_, rfl, rfl, ht⟩) (fun q h => by cases h) jP_17
set_option maxRecDepth 10000 in
theorem c_jX {i n : Int32} (h0 : ¬ i < 0) (h1 : i < n) : Met l jX_y (JW jX_y jX_b 2 none) ({ frames := 1, cells := 0, slots := 0, locals := 22 }) (va_Pc [.int i, .int n] (fun U => JU base adK adV U U.heap)) (fun _ st o t => o = .returned none ∧ t.heap = st.heap) 0 0 (fun _ => False) := by
  refine Met.ofW (cc := jX_b) (maxL := 2) (ret := none) (by decide) rfl ?_
  intro p e s m args below meth c s₁ B hml hv0
  obtain ⟨rfl, hJ⟩ := hv0
  have hx := B.exec
  have hb := B.bytes
  have hr := B.returns
  have hts := jw_ts B.pre
  have hown : s.vm.findClass "java/lang/String" = some m.cls := findClass_of_methodNamed B.named
  have hlocks := B.notSynchronized
  have hl := lv_entry ([.int i, .int n]) (n := 2) (Nat.le_of_ble_eq_true rfl)
  rw [lg_entry_eq]
  generalize (lg_sl ([.int i, .int n]) ++ List.replicate (2 - (lg_sl ([.int i, .int n])).length) Slot.unset).toArray = ls at hl ⊢
  have hl : lv_has ls 2 [(0, .int i), (1, .int n)] := hl
  have hz : ∃ v : Value, v.category = 1 ∧ va_Z "jdk/internal/util/Preconditions" "SIOOBE_FORMATTER" "Ljava/util/function/BiFunction;" v (AO base) s s.heap := by
    rcases hJ.2.2 with h | ⟨t, h⟩
    · exact ⟨_, rfl, h⟩
    · exact ⟨_, rfl, h⟩
  obtain ⟨v, hvc, hZ⟩ := hz
  refine lv_iload_n hx hb jX_0 rfl (lv_at hl 0 rfl) ?_
  refine lv_iload_n hx hb jX_1 rfl (lv_at hl 1 rfl) ?_
  refine va_gets hx hb hZ va_S.rf hown (hts _ jw_sf) (fun _ h => h) jX_2 ?_
  refine run_i (va_runS (As := [.int i, .int n, v]) (rest := []) ⟨hx, hb, hml, hown, hts⟩ (c_jP l h0 h1 hvc) (va_cwS 3 hts (st_words jq_P_l jq_P_s jq_P_i jP_code) rfl rfl rfl (by decide +kernel) ⟨Nat.le_of_ble_eq_true rfl, Nat.le_of_ble_eq_true rfl⟩) ⟨JU.blind, fun U hU hW => ⟨rfl, hJ.at hU hW⟩⟩ rfl rfl hl.1 rfl (lv_room (Nat.le_of_ble_eq_true rfl)) jX_5 ⟨Nat.zero_le _, Nat.zero_le _⟩) (fun r hr0 => ?_)
  refine lv_pop hx hb jX_8 rfl ?_
  exact W.vret hx hb hr (fun t ht _ => ⟨rfl, ht⟩) (fun q h => by cases h) jX_9
set_option maxRecDepth 10000 in
theorem c_jB {k : Nat} {i : Int32} (hk : k < 14) (hi : vp_in i (slen k)) : Met l jB_y (JW jB_y jB_b 2 (some .char)) ({ frames := 2, cells := 0, slots := 0, locals := 43 }) (va_Pc [.ref (adV k), .int i] (fun U => JU base adK adV U U.heap)) (ZI (fun r => r = sch k i.toNatClampNeg)) 0 0 (fun _ => False) := by
  refine Met.ofW (cc := jB_b) (maxL := 2) (ret := some .char) (by decide) rfl ?_
  intro p e s m args below meth c s₁ B hml hv0
  obtain ⟨rfl, hJ⟩ := hv0
  have hx := B.exec
  have hb := B.bytes
  have hr := B.returns
  have hts := jw_ts B.pre
  have hown : s.vm.findClass "java/lang/StringLatin1" = some m.cls := findClass_of_methodNamed B.named
  have hlocks := B.notSynchronized
  have hl := lv_entry ([.ref (adV k), .int i]) (n := 2) (Nat.le_of_ble_eq_true rfl)
  rw [lg_entry_eq]
  generalize (lg_sl ([.ref (adV k), .int i]) ++ List.replicate (2 - (lg_sl ([.ref (adV k), .int i])).length) Slot.unset).toArray = ls at hl ⊢
  have hl : lv_has ls 2 [(0, .ref (adV k)), (1, .int i)] := hl
  have hlt : i.toNatClampNeg < slen k := Nat.not_le.mp fun q => hi (Or.inr q)
  have h100 := (slen_s k hk).2
  have h0 : ¬ i < 0 := fun q => hi (Or.inl q)
  have h1 : i < Int32.ofNat (slen k) := by
    rcases pk_ix i (n := slen k) (by omega) with q | q | ⟨j, hj, rfl⟩
    · exact absurd q h0
    · exfalso
      have q1 := Int32.le_iff_toInt_le.mp q
      rw [nI_toInt (by omega)] at q1
      have q2 : i.toInt.toNat < slen k := hlt
      omega
    · exact nI_lt hj (by omega)
  refine lv_iload_n hx hb jB_0 rfl (lv_at hl 1 rfl) ?_
  refine lv_aload_n hx hb jB_1 rfl (lv_at hl 0 rfl) ?_
  refine va_tlen hx hb (hJ.1.1 k hk).2.2.2 va_S.rf (by rw [len_at k hk]) jB_2 ?_
  refine run_v (va_runS (As := [.int i, .int (Int32.ofNat (slen k))]) (rest := []) ⟨hx, hb, hml, hown, hts⟩ (c_jX l h0 h1) (va_cwS 2 hts (st_words jq_X_l jq_X_s jq_X_i jX_code) rfl rfl rfl (by decide +kernel) ⟨Nat.le_of_ble_eq_true rfl, Nat.le_of_ble_eq_true rfl⟩) ⟨JU.blind, fun U hU hW => ⟨rfl, hJ.at hU hW⟩⟩ rfl rfl hl.1 rfl (lv_room (Nat.le_of_ble_eq_true rfl)) jB_3 ⟨Nat.zero_le _, Nat.zero_le _⟩) ?_
  refine lv_aload_n hx hb jB_6 rfl (lv_at hl 0 rfl) ?_
  refine lv_iload_n hx hb jB_7 rfl (lv_at hl 1 rfl) ?_
  refine va_tb hx hb (hJ.1.1 k hk).2.2.2 va_S.rf (v := .int (sch k i.toNatClampNeg)) (by rw [len_at k hk]; exact hi) (by rw [byt_at]) jB_8 ?_
  refine lv_sipush (v := 255) hx hb jB_9 (by decide) ?_
  refine lv_iand hx hb jB_12 ?_
  refine lv_i2c (v := sch k i.toNatClampNeg) hx hb jB_13 (sch_i2c k hk _ hlt) ?_
  exact W.zret (ty := .char) hx hb hr (sch_char k hk _ hlt) (fun t ht _ => ⟨_, rfl, rfl, ht⟩) (fun q h => by cases h) jB_14
set_option maxRecDepth 10000 in
theorem c_jA {k : Nat} {i : Int32} (hk : k < 14) (hi : vp_in i (slen k)) : Met l jA_y (JW jA_y jA_b 2 (some .char)) ({ frames := 3, cells := 0, slots := 0, locals := 64 }) (va_Pc [.ref (adK k), .int i] (fun U => JU base adK adV U U.heap)) (ZI (fun r => r = sch k i.toNatClampNeg)) 0 0 (fun _ => False) := by
  refine Met.ofW (cc := jA_b) (maxL := 2) (ret := some .char) (by decide) rfl ?_
  intro p e s m args below meth c s₁ B hml hv0
  obtain ⟨rfl, hJ⟩ := hv0
  have hx := B.exec
  have hb := B.bytes
  have hr := B.returns
  have hts := jw_ts B.pre
  have hown : s.vm.findClass "java/lang/String" = some m.cls := findClass_of_methodNamed B.named
  have hlocks := B.notSynchronized
  have hl := lv_entry ([.ref (adK k), .int i]) (n := 2) (Nat.le_of_ble_eq_true rfl)
  rw [lg_entry_eq]
  generalize (lg_sl ([.ref (adK k), .int i]) ++ List.replicate (2 - (lg_sl ([.ref (adK k), .int i])).length) Slot.unset).toArray = ls at hl ⊢
  have hl : lv_has ls 2 [(0, .ref (adK k)), (1, .int i)] := hl
  have hlt : i.toNatClampNeg < slen k := Nat.not_le.mp fun q => hi (Or.inr q)
  refine lv_aload_n hx hb jA_0 rfl (lv_at hl 0 rfl) ?_
  refine run_i (va_runV (As := []) (rest := []) (b := adK k) ⟨hx, hb, hml, hown, hts⟩ (c_jL l hk) (cwV 0 hts (vi_words jq_L_l jq_L_s jq_L_t jq_L_i jL_code) rfl rfl rfl (by decide +kernel) ⟨Nat.le_of_ble_eq_true rfl, Nat.le_of_ble_eq_true rfl⟩) ⟨JU.blind, vk_recv hJ.1 hk va_S.rf, fun U hU hW => ⟨rfl, hJ.at hU hW⟩⟩ rfl rfl hl.1 rfl (lv_room (Nat.le_of_ble_eq_true rfl)) jA_1 ⟨Nat.zero_le _, Nat.zero_le _⟩) (fun r hr0 => ?_)
  rw [hr0]
  refine lv_if_eq (tgt := 16) hx hb jA_4 (by decide) (fun q => absurd q (by decide)) (fun _ => ?_)
  refine lv_aload_n hx hb jA_7 rfl (lv_at hl 0 rfl) ?_
  refine vk_getf hx hb (hJ.1.1 k hk).2.2.1 va_S.rf hown (hts _ jw_vl) (fun _ h => h) jA_8 ?_
  refine lv_iload_n hx hb jA_11 rfl (lv_at hl 1 rfl) ?_
  refine run_i (va_runS (As := [.ref (adV k), .int i]) (rest := []) ⟨hx, hb, hml, hown, hts⟩ (c_jB l hk hi) (va_cwS 2 hts (st_words jq_B_l jq_B_s jq_B_i jB_code) rfl rfl rfl (by decide +kernel) ⟨Nat.le_of_ble_eq_true rfl, Nat.le_of_ble_eq_true rfl⟩) ⟨JU.blind, fun U hU hW => ⟨rfl, hJ.at hU hW⟩⟩ rfl rfl hl.1 rfl (lv_room (Nat.le_of_ble_eq_true rfl)) jA_12 ⟨Nat.zero_le _, Nat.zero_le _⟩) (fun r hr1 => ?_)
  rw [hr1]
  exact W.zret (ty := .char) hx hb hr (sch_char k hk _ hlt) (fun t ht _ => ⟨_, rfl, rfl, ht⟩) (fun q h => by cases h) jA_15
end JDK
