def yj_length : MethodName := ⟨"java/lang/String", "length", "()I"⟩
abbrev cj_length : ByteArray := prog_13_method_54_code
def dl_jlength : List (Nat × Instr × Nat × Nat) := [(0, .aload_n 0, 1, 1), (1, .getfield 9, 3, 4), (4, .arraylength, 1, 5), (5, .aload_n 0, 1, 6), (6, .invokevirtual 335, 3, 9), (9, .ishr, 1, 10), (10, .ireturn, 1, 11)]
theorem dd_jlength : bf_ok cj_length dl_jlength = true := bf_walk 0 (by decide +kernel)
theorem mj_length : bf_MV yj_length cj_length 1 (some .int) 0 := ⟨⟨bf_f bf_c3 4 rfl rfl, bf_f bf_c1 13 rfl rfl, by decide +kernel⟩, bf_f bf_c3 2 rfl rfl, bf_f bf_c3 3 rfl rfl⟩
def yj_coder : MethodName := ⟨"java/lang/String", "coder", "()B"⟩
abbrev cj_coder : ByteArray := prog_13_method_152_code
def dl_jcoder : List (Nat × Instr × Nat × Nat) := [(0, .getstatic 38, 3, 3), (3, .ifCond .eq 10, 3, 6), (6, .aload_n 0, 1, 7), (7, .getfield 15, 3, 10), (10, .goto 4, 3, 13), (13, .iconst 1, 1, 14), (14, .ireturn, 1, 15)]
theorem dd_jcoder : bf_ok cj_coder dl_jcoder = true := bf_walk 0 (by decide +kernel)
theorem mj_coder : bf_MV yj_coder cj_coder 1 (some .byte) 0 := ⟨⟨bf_f bf_c3 8 rfl rfl, bf_f bf_c1 13 rfl rfl, by decide +kernel⟩, bf_f bf_c3 6 rfl rfl, bf_f bf_c3 7 rfl rfl⟩
def yj_charAt : MethodName := ⟨"java/lang/String", "charAt", "(I)C"⟩
abbrev cj_charAt : ByteArray := prog_13_method_56_code
def dl_jcharAt : List (Nat × Instr × Nat × Nat) := [(0, .aload_n 0, 1, 1), (1, .invokevirtual 492, 3, 4), (4, .ifCond .eq 12, 3, 7), (7, .aload_n 0, 1, 8), (8, .getfield 9, 3, 11), (11, .iload_n 1, 1, 12), (12, .invokestatic 495, 3, 15), (15, .ireturn, 1, 16), (16, .aload_n 0, 1, 17), (17, .getfield 9, 3, 20), (20, .iload_n 1, 1, 21), (21, .invokestatic 498, 3, 24), (24, .ireturn, 1, 25)]
theorem dd_jcharAt : bf_ok cj_charAt dl_jcharAt = true := bf_walk 0 (by decide +kernel)
theorem mj_charAt : bf_MV yj_charAt cj_charAt 2 (some .char) 1 := ⟨⟨bf_f bf_c3 14 rfl rfl, bf_f bf_c1 13 rfl rfl, by decide +kernel⟩, bf_f bf_c3 12 rfl rfl, bf_f bf_c3 13 rfl rfl⟩
def yj_isLatin1 : MethodName := ⟨"java/lang/String", "isLatin1", "()Z"⟩
abbrev cj_isLatin1 : ByteArray := prog_13_method_154_code
def dl_jisLatin1 : List (Nat × Instr × Nat × Nat) := [(0, .getstatic 38, 3, 3), (3, .ifCond .eq 14, 3, 6), (6, .aload_n 0, 1, 7), (7, .getfield 15, 3, 10), (10, .ifCond .ne 7, 3, 13), (13, .iconst 1, 1, 14), (14, .goto 4, 3, 17), (17, .iconst 0, 1, 18), (18, .ireturn, 1, 19)]
theorem dd_jisLatin1 : bf_ok cj_isLatin1 dl_jisLatin1 = true := bf_walk 0 (by decide +kernel)
theorem mj_isLatin1 : bf_MV yj_isLatin1 cj_isLatin1 1 (some .boolean) 0 := ⟨⟨bf_f bf_c3 18 rfl rfl, bf_f bf_c1 13 rfl rfl, by decide +kernel⟩, bf_f bf_c3 16 rfl rfl, bf_f bf_c3 17 rfl rfl⟩
def yj_checkIndex : MethodName := ⟨"java/lang/String", "checkIndex", "(II)V"⟩
abbrev cj_checkIndex : ByteArray := prog_13_method_155_code
def dl_jcheckIndex : List (Nat × Instr × Nat × Nat) := [(0, .iload_n 0, 1, 1), (1, .iload_n 1, 1, 2), (2, .getstatic 1053, 3, 5), (5, .invokestatic 1059, 3, 8), (8, .pop, 1, 9), (9, .return_, 1, 10)]
theorem dd_jcheckIndex : bf_ok cj_checkIndex dl_jcheckIndex = true := bf_walk 0 (by decide +kernel)
theorem mj_checkIndex : bf_MS yj_checkIndex cj_checkIndex 2 none 2 := ⟨⟨bf_f bf_c3 24 rfl rfl, bf_f bf_c1 13 rfl rfl, by decide +kernel⟩, bf_f bf_c3 23 rfl rfl⟩
def yj_l1charAt : MethodName := ⟨"java/lang/StringLatin1", "charAt", "([BI)C"⟩
abbrev cj_l1charAt : ByteArray := prog_14_method_2_code
def dl_jl1charAt : List (Nat × Instr × Nat × Nat) := [(0, .iload_n 1, 1, 1), (1, .aload_n 0, 1, 2), (2, .arraylength, 1, 3), (3, .invokestatic 9, 3, 6), (6, .aload_n 0, 1, 7), (7, .iload_n 1, 1, 8), (8, .baload, 1, 9), (9, .sipush 255, 3, 12), (12, .iand, 1, 13), (13, .i2c, 1, 14), (14, .ireturn, 1, 15)]
theorem dd_jl1charAt : bf_ok cj_l1charAt dl_jl1charAt = true := bf_walk 0 (by decide +kernel)
theorem mj_l1charAt : bf_MS yj_l1charAt cj_l1charAt 2 (some .char) 2 := ⟨⟨bf_f bf_c3 21 rfl rfl, bf_f bf_c1 14 rfl rfl, by decide +kernel⟩, bf_f bf_c3 20 rfl rfl⟩
def yj_pcheck : MethodName := ⟨"jdk/internal/util/Preconditions", "checkIndex", "(IILjava/util/function/BiFunction;)I"⟩
abbrev cj_pcheck : ByteArray := prog_17_method_11_code
def dl_jpcheck : List (Nat × Instr × Nat × Nat) := [(0, .iload_n 0, 1, 1), (1, .ifCond .lt 8, 3, 4), (4, .iload_n 0, 1, 5), (5, .iload_n 1, 1, 6), (6, .if_icmp .lt 10, 3, 9), (9, .aload_n 2, 1, 10), (10, .iload_n 0, 1, 11), (11, .iload_n 1, 1, 12), (12, .invokestatic 95, 3, 15), (15, .athrow, 1, 16), (16, .iload_n 0, 1, 17), (17, .ireturn, 1, 18)]
theorem dd_jpcheck : bf_ok cj_pcheck dl_jpcheck = true := bf_walk 0 (by decide +kernel)
theorem mj_pcheck : bf_MS yj_pcheck cj_pcheck 3 (some .int) 3 := ⟨⟨bf_f bf_c3 29 rfl rfl, bf_f bf_c1 15 rfl rfl, by decide +kernel⟩, bf_f bf_c3 28 rfl rfl⟩
theorem fj_value : Cond.fieldLink "java/lang/String" 9 "java/lang/String" "value" "[B" ∈ lw_good := bf_f bf_c8 26 rfl rfl
theorem fj_compact : Cond.fieldLink "java/lang/String" 38 "java/lang/String" "COMPACT_STRINGS" "Z" ∈ lw_good := bf_f bf_c3 9 rfl rfl
theorem fj_coder : Cond.fieldLink "java/lang/String" 15 "java/lang/String" "coder" "B" ∈ lw_good := bf_f bf_c8 27 rfl rfl
theorem fj_fmt : Cond.fieldLink "java/lang/String" 1053 "jdk/internal/util/Preconditions" "SIOOBE_FORMATTER" "Ljava/util/function/BiFunction;" ∈ lw_good := bf_f bf_c3 25 rfl rfl
theorem lj_coder : Cond.methodLink "java/lang/String" 335 yj_coder ∈ lw_good := bf_f bf_c3 5 rfl rfl
theorem lj_isLatin1 : Cond.methodLink "java/lang/String" 492 yj_isLatin1 ∈ lw_good := bf_f bf_c3 15 rfl rfl
theorem lj_l1 : Cond.methodLink "java/lang/String" 495 yj_l1charAt ∈ lw_good := bf_f bf_c3 19 rfl rfl
theorem lj_pc : Cond.methodLink "java/lang/String" 1059 yj_pcheck ∈ lw_good := bf_f bf_c3 27 rfl rfl
theorem lj_ci : Cond.methodLink "java/lang/StringLatin1" 9 yj_checkIndex ∈ lw_good := bf_f bf_c3 22 rfl rfl
theorem lj_len : Cond.methodLink "BeginningsFilter$Tape" 19 yj_length ∈ lw_good := bf_f bf_c3 1 rfl rfl
theorem lj_ch : Cond.methodLink "BeginningsFilter$Tape" 25 yj_charAt ∈ lw_good := bf_f bf_c3 11 rfl rfl
/-! STRING CONSTANTS: length() and charAt() of the claim's ten literals, over the machine -/
def bf_O (adK adV : Nat → Nat) (A : Nat → Prop) (U : State) (H : Heap) : Prop := vk_S 10 bf_slen bf_sbyt adK adV A U H ∧ va_Z "java/lang/String" "COMPACT_STRINGS" "Z" (.int 1) A U H ∧ va_Zq "jdk/internal/util/Preconditions" "SIOOBE_FORMATTER" "Ljava/util/function/BiFunction;" A U H
theorem bf_O.at {adK adV : Nat → Nat} {A B : Nat → Prop} {s U : State} {H : Heap} {locs : List Loc} (h : bf_O adK adV A s s.heap) (hS : va_S A s.heap H locs) (hAB : ∀ q, B q → A q) (hv : s.vm.Alike U.vm) : bf_O adK adV B U H :=
  ⟨((h.1.kept hS.2.1).narrow hAB).moved hv, ((h.2.1.kept hS.2.1).narrow hAB).moved hv, ((h.2.2.kept hS.2.1).narrow hAB).moved hv⟩
def bf_PO (avs : List Value) (adK adV : Nat → Nat) (sz : Nat) : Array Value → State → Prop := fun v U => v = avs.toArray ∧ U.heap.size = sz ∧ bf_O adK adV (fun q => sz ≤ q) U U.heap
theorem bf_PO_blind (avs : List Value) (adK adV : Nat → Nat) (sz : Nat) : FrameBlind (bf_PO avs adK adV sz) := fun a U g mk h => ⟨h.1, h.2.1, h.2.2.1.moved (Vm.Alike.refl U.vm), h.2.2.2.1.moved (Vm.Alike.refl U.vm), h.2.2.2.2.moved (Vm.Alike.refl U.vm)⟩
def bf_MO (l : Launch) (y : MethodName) (cc : ByteArray) (n : Nat) (ret : Option FieldType) (fr lo : Nat) (adK adV : Nat → Nat) (avs : List Value) (v : Int32) : Prop :=
  ∀ sz : Nat, Met l y (bf_ws y cc n ret) (bf_rm fr lo) (bf_PO avs adK adV sz) (va_Qi (fun (r : Int32) (_ : Unit) => r = v) (fun _ _ => True) (fun q => sz ≤ q)) 0 0 (fun q => sz ≤ q)
def bf_MOv (l : Launch) (y : MethodName) (cc : ByteArray) (n : Nat) (ret : Option FieldType) (fr lo : Nat) (adK adV : Nat → Nat) (avs : List Value) : Prop :=
  ∀ sz : Nat, Met l y (bf_ws y cc n ret) (bf_rm fr lo) (bf_PO avs adK adV sz) (va_Qv (fun (_ : Unit) => True) (fun _ _ => True) (fun q => sz ≤ q)) 0 0 (fun q => sz ≤ q)
theorem cj_coder_c (l : Launch) (adK adV : Nat → Nat) (k : Nat) (hk : k < 10) : bf_MO l yj_coder cj_coder 1 (some .byte) 0 0 adK adV [.ref (adK k)] 0 := by
  intro sz
  refine Met.ofW (cc := cj_coder) (maxL := 1) (ret := (some .byte)) (by decide) rfl ?_
  intro p e s m args below meth c s₁ B hml hv
  obtain ⟨rfl, rfl, hO⟩ := hv
  have hts : ∀ w ∈ lw_good, w.before ([.ref (adK k)] : List Value).toArray s = true := fun w hw => atoms_spec (ws := bf_ws yj_coder cj_coder 1 (some .byte)) B.pre w (List.mem_cons_of_mem _ hw)
  have hown : s.vm.findClass "java/lang/String" = some m.cls := findClass_of_methodNamed B.named
  have hlocks := B.notSynchronized
  have hS : va_S (fun q : Nat => s.heap.size ≤ q) s.heap s.heap [] := va_S.rf
  have hl := lv_entry ([.ref (adK k)]) (n := 1) (Nat.le_of_ble_eq_true rfl)
  rw [lg_entry_eq]
  generalize (lg_sl ([.ref (adK k)]) ++ List.replicate (1 - (lg_sl ([.ref (adK k)])).length) Slot.unset).toArray = ls at hl ⊢
  have hl : lv_has ls 1 [(0, .ref (adK k))] := hl
  refine va_gets (ref := "java/lang/String") B.exec B.bytes hO.2.1 hS hown (hts _ fj_compact) (fun _ h => h) (bf_dk dd_jcoder 0 rfl).1 ?_
  refine lv_if_eq (tgt := 13) B.exec B.bytes (bf_dk dd_jcoder 1 rfl).1 (by decide) (fun c1 => absurd c1 (by decide)) (fun _ => ?_)
  refine lv_aload_n B.exec B.bytes (bf_dk dd_jcoder 2 rfl).1 rfl (lv_at hl 0 rfl) ?_
  refine vk_getf (ref := "java/lang/String") B.exec B.bytes (hO.1.1 k hk).2.1 hS hown (hts _ fj_coder) (fun _ h => h) (bf_dk dd_jcoder 3 rfl).1 ?_
  refine lv_goto (tgt := 14) B.exec B.bytes (bf_dk dd_jcoder 4 rfl).1 (by decide) ?_
  exact W.zret (v := 0) B.exec B.bytes B.returns (by decide) (fun t ht hW => ⟨⟨0, (), rfl, rfl, trivial⟩, hS.F ht⟩) hS.2.2 (bf_dk dd_jcoder 6 rfl).1 hlocks
theorem bf_len_sh : ∀ k, k < 10 → nI (bf_slen.getD k 0) >>> ((0 : Int32) &&& 31) = nI (bf_slen.getD k 0) := by decide
theorem cj_length_c (l : Launch) (adK adV : Nat → Nat) (k : Nat) (hk : k < 10) : bf_MO l yj_length cj_length 1 (some .int) 1 20 adK adV [.ref (adK k)] (nI (bf_slen.getD k 0)) := by
  intro sz
  refine Met.ofW (cc := cj_length) (maxL := 1) (ret := (some .int)) (by decide) rfl ?_
  intro p e s m args below meth c s₁ B hml hv
  obtain ⟨rfl, rfl, hO⟩ := hv
  have hts : ∀ w ∈ lw_good, w.before ([.ref (adK k)] : List Value).toArray s = true := fun w hw => atoms_spec (ws := bf_ws yj_length cj_length 1 (some .int)) B.pre w (List.mem_cons_of_mem _ hw)
  have hown : s.vm.findClass "java/lang/String" = some m.cls := findClass_of_methodNamed B.named
  have hlocks := B.notSynchronized
  have hS : va_S (fun q : Nat => s.heap.size ≤ q) s.heap s.heap [] := va_S.rf
  have hl := lv_entry ([.ref (adK k)]) (n := 1) (Nat.le_of_ble_eq_true rfl)
  rw [lg_entry_eq]
  generalize (lg_sl ([.ref (adK k)]) ++ List.replicate (1 - (lg_sl ([.ref (adK k)])).length) Slot.unset).toArray = ls at hl ⊢
  have hl : lv_has ls 1 [(0, .ref (adK k))] := hl
  refine lv_aload_n B.exec B.bytes (bf_dk dd_jlength 0 rfl).1 rfl (lv_at hl 0 rfl) ?_
  refine vk_getf (ref := "java/lang/String") B.exec B.bytes (hO.1.1 k hk).2.2.1 hS hown (hts _ fj_value) (fun _ h => h) (bf_dk dd_jlength 1 rfl).1 ?_
  refine va_tlen (v := nI (bf_slen.getD k 0)) B.exec B.bytes (hO.1.1 k hk).2.2.2 hS rfl (bf_dk dd_jlength 2 rfl).1 ?_
  refine lv_aload_n B.exec B.bytes (bf_dk dd_jlength 3 rfl).1 rfl (lv_at hl 0 rfl) ?_
  refine va_calli (va_runV (As := []) (rest := [.int (nI (bf_slen.getD k 0))]) ⟨B.exec, B.bytes, hml, hown, hts⟩ (cj_coder_c l adK adV k hk s.heap.size) ⟨callB_of 0 hts (bf_goodIn mj_coder.1) rfl rfl rfl (hts _ mj_coder.1.2.1) (hts _ lj_coder) mj_coder.1.2.2 ⟨Nat.le_of_ble_eq_true rfl, Nat.le_of_ble_eq_true rfl⟩, hts _ mj_coder.2.1, hts _ mj_coder.2.2⟩ ⟨bf_PO_blind _ _ _ _, vk_recv hO.1 hk hS, fun U hU hW => ⟨rfl, by rw [hU], by rw [hU]; exact hO.at hS (fun q h => Nat.le_trans hS.1 h) hW.alike⟩⟩ rfl rfl hl.1 rfl (lv_room (Nat.le_of_ble_eq_true rfl)) (bf_dk dd_jlength 4 rfl).1 ⟨Nat.le_refl _, Nat.le_refl _⟩) hS (fun q hq h => absurd hq (Nat.not_lt.mpr h)) (fun q h => Nat.le_trans hS.1 h) (fun r u t H1 locs1 ht hvm hw hB hz1 hk1 hS1 => ?_)
  subst hw
  refine lv_ishr B.exec B.bytes (bf_dk dd_jlength 5 rfl).1 ?_
  rw [bf_len_sh k hk]
  exact W.iret (v := nI (bf_slen.getD k 0)) B.exec B.bytes B.returns (fun t ht hW => ⟨⟨_, (), rfl, rfl, trivial⟩, hS1.F ht⟩) hS1.2.2 (bf_dk dd_jlength 6 rfl).1 hlocks
theorem cj_isLatin1_c (l : Launch) (adK adV : Nat → Nat) (k : Nat) (hk : k < 10) : bf_MO l yj_isLatin1 cj_isLatin1 1 (some .boolean) 0 0 adK adV [.ref (adK k)] 1 := by
  intro sz
  refine Met.ofW (cc := cj_isLatin1) (maxL := 1) (ret := (some .boolean)) (by decide) rfl ?_
  intro p e s m args below meth c s₁ B hml hv
  obtain ⟨rfl, rfl, hO⟩ := hv
  have hts : ∀ w ∈ lw_good, w.before ([.ref (adK k)] : List Value).toArray s = true := fun w hw => atoms_spec (ws := bf_ws yj_isLatin1 cj_isLatin1 1 (some .boolean)) B.pre w (List.mem_cons_of_mem _ hw)
  have hown : s.vm.findClass "java/lang/String" = some m.cls := findClass_of_methodNamed B.named
  have hlocks := B.notSynchronized
  have hS : va_S (fun q : Nat => s.heap.size ≤ q) s.heap s.heap [] := va_S.rf
  have hl := lv_entry ([.ref (adK k)]) (n := 1) (Nat.le_of_ble_eq_true rfl)
  rw [lg_entry_eq]
  generalize (lg_sl ([.ref (adK k)]) ++ List.replicate (1 - (lg_sl ([.ref (adK k)])).length) Slot.unset).toArray = ls at hl ⊢
  have hl : lv_has ls 1 [(0, .ref (adK k))] := hl
  refine va_gets (ref := "java/lang/String") B.exec B.bytes hO.2.1 hS hown (hts _ fj_compact) (fun _ h => h) (bf_dk dd_jisLatin1 0 rfl).1 ?_
  refine lv_if_eq (tgt := 17) B.exec B.bytes (bf_dk dd_jisLatin1 1 rfl).1 (by decide) (fun c1 => absurd c1 (by decide)) (fun _ => ?_)
  refine lv_aload_n B.exec B.bytes (bf_dk dd_jisLatin1 2 rfl).1 rfl (lv_at hl 0 rfl) ?_
  refine vk_getf (ref := "java/lang/String") B.exec B.bytes (hO.1.1 k hk).2.1 hS hown (hts _ fj_coder) (fun _ h => h) (bf_dk dd_jisLatin1 3 rfl).1 ?_
  refine lv_if_ne (tgt := 17) B.exec B.bytes (bf_dk dd_jisLatin1 4 rfl).1 (by decide) (fun c1 => absurd rfl c1) (fun _ => ?_)
  refine lv_iconst (v := 1) B.exec B.bytes (bf_dk dd_jisLatin1 5 rfl).1 (by decide) ?_
  refine lv_goto (tgt := 18) B.exec B.bytes (bf_dk dd_jisLatin1 6 rfl).1 (by decide) ?_
  exact W.zret (v := 1) B.exec B.bytes B.returns (by decide) (fun t ht hW => ⟨⟨1, (), rfl, rfl, trivial⟩, hS.F ht⟩) hS.2.2 (bf_dk dd_jisLatin1 8 rfl).1 hlocks
theorem cj_pcheckN_c (l : Launch) (adK adV : Nat → Nat) (i n : Int32) (h0 : ¬ i < 0) (h1 : i < n) : bf_MO l yj_pcheck cj_pcheck 3 (some .int) 0 0 adK adV [.int i, .int n, .null] i := by
  intro sz
  refine Met.ofW (cc := cj_pcheck) (maxL := 3) (ret := (some .int)) (by decide) rfl ?_
  intro p e s m args below meth c s₁ B hml hv
  obtain ⟨rfl, rfl, hO⟩ := hv
  have hts : ∀ w ∈ lw_good, w.before ([.int i, .int n, .null] : List Value).toArray s = true := fun w hw => atoms_spec (ws := bf_ws yj_pcheck cj_pcheck 3 (some .int)) B.pre w (List.mem_cons_of_mem _ hw)
  have hown : s.vm.findClass "jdk/internal/util/Preconditions" = some m.cls := findClass_of_methodNamed B.named
  have hlocks := B.notSynchronized
  have hS : va_S (fun q : Nat => s.heap.size ≤ q) s.heap s.heap [] := va_S.rf
  have hl := lv_entry ([.int i, .int n, .null]) (n := 3) (Nat.le_of_ble_eq_true rfl)
  rw [lg_entry_eq]
  generalize (lg_sl ([.int i, .int n, .null]) ++ List.replicate (3 - (lg_sl ([.int i, .int n, .null])).length) Slot.unset).toArray = ls at hl ⊢
  have hl : lv_has ls 3 [(0, .int i), (1, .int n), (2, .null)] := hl
  refine lv_iload_n B.exec B.bytes (bf_dk dd_jpcheck 0 rfl).1 rfl (lv_at hl 0 rfl) ?_
  refine lv_if_lt (tgt := 9) B.exec B.bytes (bf_dk dd_jpcheck 1 rfl).1 (by decide) (fun c1 => absurd c1 h0) (fun _ => ?_)
  refine lv_iload_n B.exec B.bytes (bf_dk dd_jpcheck 2 rfl).1 rfl (lv_at hl 0 rfl) ?_
  refine lv_iload_n B.exec B.bytes (bf_dk dd_jpcheck 3 rfl).1 rfl (lv_at hl 1 rfl) ?_
  refine lv_icmp_lt (tgt := 16) B.exec B.bytes (bf_dk dd_jpcheck 4 rfl).1 (by decide) (fun _ => ?_) (fun c1 => absurd h1 c1)
  refine lv_iload_n B.exec B.bytes (bf_dk dd_jpcheck 10 rfl).1 rfl (lv_at hl 0 rfl) ?_
  exact W.iret (v := i) B.exec B.bytes B.returns (fun t ht hW => ⟨⟨i, (), rfl, rfl, trivial⟩, hS.F ht⟩) hS.2.2 (bf_dk dd_jpcheck 11 rfl).1 hlocks
theorem cj_pcheckR_c (l : Launch) (adK adV : Nat → Nat) (i n : Int32) (t0 : Nat) (h0 : ¬ i < 0) (h1 : i < n) : bf_MO l yj_pcheck cj_pcheck 3 (some .int) 0 0 adK adV [.int i, .int n, .ref t0] i := by
  intro sz
  refine Met.ofW (cc := cj_pcheck) (maxL := 3) (ret := (some .int)) (by decide) rfl ?_
  intro p e s m args below meth c s₁ B hml hv
  obtain ⟨rfl, rfl, hO⟩ := hv
  have hts : ∀ w ∈ lw_good, w.before ([.int i, .int n, .ref t0] : List Value).toArray s = true := fun w hw => atoms_spec (ws := bf_ws yj_pcheck cj_pcheck 3 (some .int)) B.pre w (List.mem_cons_of_mem _ hw)
  have hown : s.vm.findClass "jdk/internal/util/Preconditions" = some m.cls := findClass_of_methodNamed B.named
  have hlocks := B.notSynchronized
  have hS : va_S (fun q : Nat => s.heap.size ≤ q) s.heap s.heap [] := va_S.rf
  have hl := lv_entry ([.int i, .int n, .ref t0]) (n := 3) (Nat.le_of_ble_eq_true rfl)
  rw [lg_entry_eq]
  generalize (lg_sl ([.int i, .int n, .ref t0]) ++ List.replicate (3 - (lg_sl ([.int i, .int n, .ref t0])).length) Slot.unset).toArray = ls at hl ⊢
  have hl : lv_has ls 3 [(0, .int i), (1, .int n), (2, .ref t0)] := hl
  refine lv_iload_n B.exec B.bytes (bf_dk dd_jpcheck 0 rfl).1 rfl (lv_at hl 0 rfl) ?_
  refine lv_if_lt (tgt := 9) B.exec B.bytes (bf_dk dd_jpcheck 1 rfl).1 (by decide) (fun c1 => absurd c1 h0) (fun _ => ?_)
  refine lv_iload_n B.exec B.bytes (bf_dk dd_jpcheck 2 rfl).1 rfl (lv_at hl 0 rfl) ?_
  refine lv_iload_n B.exec B.bytes (bf_dk dd_jpcheck 3 rfl).1 rfl (lv_at hl 1 rfl) ?_
  refine lv_icmp_lt (tgt := 16) B.exec B.bytes (bf_dk dd_jpcheck 4 rfl).1 (by decide) (fun _ => ?_) (fun c1 => absurd h1 c1)
  refine lv_iload_n B.exec B.bytes (bf_dk dd_jpcheck 10 rfl).1 rfl (lv_at hl 0 rfl) ?_
  exact W.iret (v := i) B.exec B.bytes B.returns (fun t ht hW => ⟨⟨i, (), rfl, rfl, trivial⟩, hS.F ht⟩) hS.2.2 (bf_dk dd_jpcheck 11 rfl).1 hlocks
theorem cj_checkIndex_c (l : Launch) (adK adV : Nat → Nat) (i n : Int32) (h0 : ¬ i < 0) (h1 : i < n) : bf_MOv l yj_checkIndex cj_checkIndex 2 none 1 22 adK adV [.int i, .int n] := by
  intro sz
  refine Met.ofW (cc := cj_checkIndex) (maxL := 2) (ret := none) (by decide) rfl ?_
  intro p e s m args below meth c s₁ B hml hv
  obtain ⟨rfl, rfl, hO⟩ := hv
  have hts : ∀ w ∈ lw_good, w.before ([.int i, .int n] : List Value).toArray s = true := fun w hw => atoms_spec (ws := bf_ws yj_checkIndex cj_checkIndex 2 none) B.pre w (List.mem_cons_of_mem _ hw)
  have hown : s.vm.findClass "java/lang/String" = some m.cls := findClass_of_methodNamed B.named
  have hlocks := B.notSynchronized
  have hS : va_S (fun q : Nat => s.heap.size ≤ q) s.heap s.heap [] := va_S.rf
  have hl := lv_entry ([.int i, .int n]) (n := 2) (Nat.le_of_ble_eq_true rfl)
  rw [lg_entry_eq]
  generalize (lg_sl ([.int i, .int n]) ++ List.replicate (2 - (lg_sl ([.int i, .int n])).length) Slot.unset).toArray = ls at hl ⊢
  have hl : lv_has ls 2 [(0, .int i), (1, .int n)] := hl
  refine lv_iload_n B.exec B.bytes (bf_dk dd_jcheckIndex 0 rfl).1 rfl (lv_at hl 0 rfl) ?_
  refine lv_iload_n B.exec B.bytes (bf_dk dd_jcheckIndex 1 rfl).1 rfl (lv_at hl 1 rfl) ?_
  rcases hO.2.2 with hZ | ⟨t0, hZ⟩
  · refine va_gets (ref := "jdk/internal/util/Preconditions") B.exec B.bytes hZ hS hown (hts _ fj_fmt) (fun _ h => h) (bf_dk dd_jcheckIndex 2 rfl).1 ?_
    refine va_calli (va_runS (As := [.int i, .int n, .null]) (rest := []) ⟨B.exec, B.bytes, hml, hown, hts⟩ (cj_pcheckN_c l adK adV i n h0 h1 s.heap.size) ⟨callB_of 3 hts (bf_goodIn mj_pcheck.1) rfl rfl rfl (hts _ mj_pcheck.1.2.1) (hts _ lj_pc) mj_pcheck.1.2.2 ⟨Nat.le_of_ble_eq_true rfl, Nat.le_of_ble_eq_true rfl⟩, hts _ mj_pcheck.2⟩ ⟨bf_PO_blind _ _ _ _, fun U hU hW => ⟨rfl, by rw [hU], by rw [hU]; exact hO.at hS (fun q h => Nat.le_trans hS.1 h) hW.alike⟩⟩ rfl rfl hl.1 rfl (lv_room (Nat.le_of_ble_eq_true rfl)) (bf_dk dd_jcheckIndex 3 rfl).1 ⟨Nat.le_refl _, Nat.le_refl _⟩) hS (fun q hq h => absurd hq (Nat.not_lt.mpr h)) (fun q h => Nat.le_trans hS.1 h) (fun r u t H1 locs1 ht hvm hw hB hz1 hk1 hS1 => ?_)
    refine lv_pop B.exec B.bytes (bf_dk dd_jcheckIndex 4 rfl).1 rfl ?_
    exact W.vret B.exec B.bytes B.returns (fun t ht hW => ⟨⟨(), rfl, trivial, trivial⟩, hS1.F ht⟩) hS1.2.2 (bf_dk dd_jcheckIndex 5 rfl).1 hlocks
  · refine va_gets (ref := "jdk/internal/util/Preconditions") B.exec B.bytes hZ hS hown (hts _ fj_fmt) (fun _ h => h) (bf_dk dd_jcheckIndex 2 rfl).1 ?_
    refine va_calli (va_runS (As := [.int i, .int n, .ref t0]) (rest := []) ⟨B.exec, B.bytes, hml, hown, hts⟩ (cj_pcheckR_c l adK adV i n t0 h0 h1 s.heap.size) ⟨callB_of 3 hts (bf_goodIn mj_pcheck.1) rfl rfl rfl (hts _ mj_pcheck.1.2.1) (hts _ lj_pc) mj_pcheck.1.2.2 ⟨Nat.le_of_ble_eq_true rfl, Nat.le_of_ble_eq_true rfl⟩, hts _ mj_pcheck.2⟩ ⟨bf_PO_blind _ _ _ _, fun U hU hW => ⟨rfl, by rw [hU], by rw [hU]; exact hO.at hS (fun q h => Nat.le_trans hS.1 h) hW.alike⟩⟩ rfl rfl hl.1 rfl (lv_room (Nat.le_of_ble_eq_true rfl)) (bf_dk dd_jcheckIndex 3 rfl).1 ⟨Nat.le_refl _, Nat.le_refl _⟩) hS (fun q hq h => absurd hq (Nat.not_lt.mpr h)) (fun q h => Nat.le_trans hS.1 h) (fun r u t H1 locs1 ht hvm hw hB hz1 hk1 hS1 => ?_)
    refine lv_pop B.exec B.bytes (bf_dk dd_jcheckIndex 4 rfl).1 rfl ?_
    exact W.vret B.exec B.bytes B.returns (fun t ht hW => ⟨⟨(), rfl, trivial, trivial⟩, hS1.F ht⟩) hS1.2.2 (bf_dk dd_jcheckIndex 5 rfl).1 hlocks
theorem bf_ch_ok : ∀ k, k < 10 → ∀ j, j < bf_slen.getD k 0 → ((((bf_sbyt.getD k []).getD j 0) &&& (255 : Int32)).toUInt32 % 65536).toInt32 = (bf_sbyt.getD k []).getD j 0 := by decide
theorem bf_ch_nar : ∀ k, k < 10 → ∀ j, j < bf_slen.getD k 0 → narrow .char (.int ((bf_sbyt.getD k []).getD j 0)) = .int ((bf_sbyt.getD k []).getD j 0) := by decide
theorem bf_sl31 : ∀ k, k < 10 → bf_slen.getD k 0 < 2 ^ 31 := by decide
theorem cj_l1charAt_c (l : Launch) (adK adV : Nat → Nat) (k : Nat) (hk : k < 10) (j : Nat) (hj : j < bf_slen.getD k 0) : bf_MO l yj_l1charAt cj_l1charAt 2 (some .char) 2 43 adK adV [.ref (adV k), .int (nI j)] ((bf_sbyt.getD k []).getD j 0) := by
  intro sz
  refine Met.ofW (cc := cj_l1charAt) (maxL := 2) (ret := (some .char)) (by decide) rfl ?_
  intro p e s m args below meth c s₁ B hml hv
  obtain ⟨rfl, rfl, hO⟩ := hv
  have hts : ∀ w ∈ lw_good, w.before ([.ref (adV k), .int (nI j)] : List Value).toArray s = true := fun w hw => atoms_spec (ws := bf_ws yj_l1charAt cj_l1charAt 2 (some .char)) B.pre w (List.mem_cons_of_mem _ hw)
  have hown : s.vm.findClass "java/lang/StringLatin1" = some m.cls := findClass_of_methodNamed B.named
  have hlocks := B.notSynchronized
  have hS : va_S (fun q : Nat => s.heap.size ≤ q) s.heap s.heap [] := va_S.rf
  have hl := lv_entry ([.ref (adV k), .int (nI j)]) (n := 2) (Nat.le_of_ble_eq_true rfl)
  rw [lg_entry_eq]
  generalize (lg_sl ([.ref (adV k), .int (nI j)]) ++ List.replicate (2 - (lg_sl ([.ref (adV k), .int (nI j)])).length) Slot.unset).toArray = ls at hl ⊢
  have hl : lv_has ls 2 [(0, .ref (adV k)), (1, .int (nI j))] := hl
  have h31 := bf_sl31 k hk
  refine lv_iload_n B.exec B.bytes (bf_dk dd_jl1charAt 0 rfl).1 rfl (lv_at hl 1 rfl) ?_
  refine lv_aload_n B.exec B.bytes (bf_dk dd_jl1charAt 1 rfl).1 rfl (lv_at hl 0 rfl) ?_
  refine va_tlen (v := nI (bf_slen.getD k 0)) B.exec B.bytes (hO.1.1 k hk).2.2.2 hS rfl (bf_dk dd_jl1charAt 2 rfl).1 ?_
  refine va_callv (va_runS (As := [.int (nI j), .int (nI (bf_slen.getD k 0))]) (rest := []) ⟨B.exec, B.bytes, hml, hown, hts⟩ (cj_checkIndex_c l adK adV (nI j) (nI (bf_slen.getD k 0)) (nI_pos (by omega)) (nI_lt hj h31) s.heap.size) ⟨callB_of 2 hts (bf_goodIn mj_checkIndex.1) rfl rfl rfl (hts _ mj_checkIndex.1.2.1) (hts _ lj_ci) mj_checkIndex.1.2.2 ⟨Nat.le_of_ble_eq_true rfl, Nat.le_of_ble_eq_true rfl⟩, hts _ mj_checkIndex.2⟩ ⟨bf_PO_blind _ _ _ _, fun U hU hW => ⟨rfl, by rw [hU], by rw [hU]; exact hO.at hS (fun q h => Nat.le_trans hS.1 h) hW.alike⟩⟩ rfl rfl hl.1 rfl (lv_room (Nat.le_of_ble_eq_true rfl)) (bf_dk dd_jl1charAt 3 rfl).1 ⟨Nat.le_refl _, Nat.le_refl _⟩) hS (fun q hq h => absurd hq (Nat.not_lt.mpr h)) (fun q h => Nat.le_trans hS.1 h) (fun u t H1 locs1 ht hvm hw hB hz1 hk1 hS1 => ?_)
  refine lv_aload_n B.exec B.bytes (bf_dk dd_jl1charAt 4 rfl).1 rfl (lv_at hl 0 rfl) ?_
  refine lv_iload_n B.exec B.bytes (bf_dk dd_jl1charAt 5 rfl).1 rfl (lv_at hl 1 rfl) ?_
  refine va_tb (v := .int ((bf_sbyt.getD k []).getD j 0)) B.exec B.bytes (hO.1.1 k hk).2.2.2 hS1 (vp_in_nI hj h31) (by rw [nI_clamp (by omega)]) (bf_dk dd_jl1charAt 6 rfl).1 ?_
  refine lv_sipush (v := 255) B.exec B.bytes (bf_dk dd_jl1charAt 7 rfl).1 (by decide) ?_
  refine lv_iand B.exec B.bytes (bf_dk dd_jl1charAt 8 rfl).1 ?_
  refine lv_i2c (v := (bf_sbyt.getD k []).getD j 0) B.exec B.bytes (bf_dk dd_jl1charAt 9 rfl).1 (bf_ch_ok k hk j hj) ?_
  exact W.zret (v := (bf_sbyt.getD k []).getD j 0) B.exec B.bytes B.returns (bf_ch_nar k hk j hj) (fun t ht hW => ⟨⟨_, (), rfl, rfl, trivial⟩, hS1.F ht⟩) hS1.2.2 (bf_dk dd_jl1charAt 10 rfl).1 hlocks
theorem cj_charAt_c (l : Launch) (adK adV : Nat → Nat) (k : Nat) (hk : k < 10) (j : Nat) (hj : j < bf_slen.getD k 0) : bf_MO l yj_charAt cj_charAt 2 (some .char) 3 64 adK adV [.ref (adK k), .int (nI j)] ((bf_sbyt.getD k []).getD j 0) := by
  intro sz
  refine Met.ofW (cc := cj_charAt) (maxL := 2) (ret := (some .char)) (by decide) rfl ?_
  intro p e s m args below meth c s₁ B hml hv
  obtain ⟨rfl, rfl, hO⟩ := hv
  have hts : ∀ w ∈ lw_good, w.before ([.ref (adK k), .int (nI j)] : List Value).toArray s = true := fun w hw => atoms_spec (ws := bf_ws yj_charAt cj_charAt 2 (some .char)) B.pre w (List.mem_cons_of_mem _ hw)
  have hown : s.vm.findClass "java/lang/String" = some m.cls := findClass_of_methodNamed B.named
  have hlocks := B.notSynchronized
  have hS : va_S (fun q : Nat => s.heap.size ≤ q) s.heap s.heap [] := va_S.rf
  have hl := lv_entry ([.ref (adK k), .int (nI j)]) (n := 2) (Nat.le_of_ble_eq_true rfl)
  rw [lg_entry_eq]
  generalize (lg_sl ([.ref (adK k), .int (nI j)]) ++ List.replicate (2 - (lg_sl ([.ref (adK k), .int (nI j)])).length) Slot.unset).toArray = ls at hl ⊢
  have hl : lv_has ls 2 [(0, .ref (adK k)), (1, .int (nI j))] := hl
  refine lv_aload_n B.exec B.bytes (bf_dk dd_jcharAt 0 rfl).1 rfl (lv_at hl 0 rfl) ?_
  refine va_calli (va_runV (As := []) (rest := []) ⟨B.exec, B.bytes, hml, hown, hts⟩ (cj_isLatin1_c l adK adV k hk s.heap.size) ⟨callB_of 0 hts (bf_goodIn mj_isLatin1.1) rfl rfl rfl (hts _ mj_isLatin1.1.2.1) (hts _ lj_isLatin1) mj_isLatin1.1.2.2 ⟨Nat.le_of_ble_eq_true rfl, Nat.le_of_ble_eq_true rfl⟩, hts _ mj_isLatin1.2.1, hts _ mj_isLatin1.2.2⟩ ⟨bf_PO_blind _ _ _ _, vk_recv hO.1 hk hS, fun U hU hW => ⟨rfl, by rw [hU], by rw [hU]; exact hO.at hS (fun q h => Nat.le_trans hS.1 h) hW.alike⟩⟩ rfl rfl hl.1 rfl (lv_room (Nat.le_of_ble_eq_true rfl)) (bf_dk dd_jcharAt 1 rfl).1 ⟨Nat.le_refl _, Nat.le_refl _⟩) hS (fun q hq h => absurd hq (Nat.not_lt.mpr h)) (fun q h => Nat.le_trans hS.1 h) (fun r u t H1 locs1 ht hvm hw hB hz1 hk1 hS1 => ?_)
  subst hw
  refine lv_if_eq (tgt := 16) B.exec B.bytes (bf_dk dd_jcharAt 2 rfl).1 (by decide) (fun c1 => absurd c1 (by decide)) (fun _ => ?_)
  refine lv_aload_n B.exec B.bytes (bf_dk dd_jcharAt 3 rfl).1 rfl (lv_at hl 0 rfl) ?_
  refine vk_getf (ref := "java/lang/String") B.exec B.bytes (hO.1.1 k hk).2.2.1 hS1 hown (hts _ fj_value) (fun _ h => h) (bf_dk dd_jcharAt 4 rfl).1 ?_
  refine lv_iload_n B.exec B.bytes (bf_dk dd_jcharAt 5 rfl).1 rfl (lv_at hl 1 rfl) ?_
  refine va_calli (va_runS (As := [.ref (adV k), .int (nI j)]) (rest := []) ⟨B.exec, B.bytes, hml, hown, hts⟩ (cj_l1charAt_c l adK adV k hk j hj H1.size) ⟨callB_of 2 hts (bf_goodIn mj_l1charAt.1) rfl rfl rfl (hts _ mj_l1charAt.1.2.1) (hts _ lj_l1) mj_l1charAt.1.2.2 ⟨Nat.le_of_ble_eq_true rfl, Nat.le_of_ble_eq_true rfl⟩, hts _ mj_l1charAt.2⟩ ⟨bf_PO_blind _ _ _ _, fun U hU hW => ⟨rfl, by rw [hU], by rw [hU]; exact hO.at hS1 (fun q h => Nat.le_trans hS1.1 h) hW.alike⟩⟩ rfl rfl hl.1 rfl (lv_room (Nat.le_of_ble_eq_true rfl)) (bf_dk dd_jcharAt 6 rfl).1 ⟨Nat.le_refl _, Nat.le_refl _⟩) hS1 (fun q hq h => absurd hq (Nat.not_lt.mpr h)) (fun q h => Nat.le_trans hS1.1 h) (fun r2 u2 t2 H2 locs2 ht2 hvm2 hw2 hB2 hz2 hk2 hS2 => ?_)
  subst hw2
  exact W.zret (v := (bf_sbyt.getD k []).getD j 0) B.exec B.bytes B.returns (bf_ch_nar k hk j hj) (fun t ht hW => ⟨⟨_, (), rfl, rfl, trivial⟩, hS2.F ht⟩) hS2.2.2 (bf_dk dd_jcharAt 7 rfl).1 hlocks

