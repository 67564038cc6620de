theorem ge_bW8_6 (S : bT8) : (bW8 S)[6]? = some (.inl (0, 6, .inl (b3g_values (b2g_told (b8g_now S))))) := rfl
theorem ar_bW8_6 (S : bT8) (v : (Nat → Int32)) : (bW8 S).set 6 (.inl (0, 6, .inl v)) = bW8 (b8s_now S (b2s_told (b8g_now S) (b3s_values (b2g_told (b8g_now S)) v))) := by
  obtain ⟨⟨⟨⟨⟨⟨⟨⟨⟨z1, z2⟩, z3⟩, z4⟩, z5⟩, ⟨z6, z7⟩⟩, z8⟩, z9⟩, ⟨z10, z11⟩⟩, ⟨⟨⟨z12, z13⟩, z14⟩, ⟨z15, z16⟩⟩⟩ := S
  rfl
theorem pu_bW8_0_9 (S : bT8) (v : Int32) : (bW8 S).set 0 (.inr (8, (([.ref 1, .ref 16, .int (b8g_isKept S), .ref 31, .ref 45, .ref 58, .ref 61, .ref 64, .ref 66, .int (b8g_chosenRow S)] : List Value).set 9 (.int v)))) = bW8 (b8s_chosenRow S v) := by
  obtain ⟨⟨⟨⟨z1, z2⟩, z3⟩, ⟨z4, z5⟩⟩, ⟨⟨⟨z6, z7⟩, z8⟩, ⟨z9, z10⟩⟩⟩ := S
  rfl
theorem pu_bW8_2_2 (S : bT8) (v : Int32) : (bW8 S).set 2 (.inr (3, (([.ref 3, .ref 6, .int (b3g_mode (b2g_told (b8g_now S)))] : List Value).set 2 (.int v)))) = bW8 (b8s_now S (b2s_told (b8g_now S) (b3s_mode (b2g_told (b8g_now S)) v))) := by
  obtain ⟨⟨⟨⟨⟨⟨⟨⟨⟨z1, z2⟩, z3⟩, z4⟩, z5⟩, ⟨z6, z7⟩⟩, z8⟩, z9⟩, ⟨z10, z11⟩⟩, ⟨⟨⟨z12, z13⟩, z14⟩, ⟨z15, z16⟩⟩⟩ := S
  rfl
def dl_X8_set : List (Nat × Instr × Nat × Nat) := [(0, .iload_n 1, 1, 1), (1, .ifCond .lt 31, 3, 4), (4, .iload_n 1, 1, 5), (5, .bipush 6, 2, 7), (7, .if_icmp .ge 25, 3, 10), (10, .iload_n 2, 1, 11), (11, .getstatic 111, 3, 14), (14, .iload_n 1, 1, 15), (15, .invokestatic 115, 3, 18), (18, .if_icmp .lt 14, 3, 21), (21, .iload_n 2, 1, 22), (22, .getstatic 119, 3, 25), (25, .iload_n 1, 1, 26), (26, .invokestatic 115, 3, 29), (29, .if_icmp .le 5, 3, 32), (32, .iconst 0, 1, 33), (33, .ireturn, 1, 34), (34, .aload_n 0, 1, 35), (35, .getfield 12, 3, 38), (38, .getfield 87, 3, 41), (41, .getfield 122, 3, 44), (44, .iload_n 1, 1, 45), (45, .iload_n 2, 1, 46), (46, .iastore, 1, 47), (47, .iconst 1, 1, 48), (48, .ireturn, 1, 49)]
theorem dd_X8_set : bf_ok cX8_set dl_X8_set = true := bf_walk 0 (by decide +kernel)
def dl_X8_mode : List (Nat × Instr × Nat × Nat) := [(0, .iconst (-1), 1, 1), (1, .istore_n 1, 1, 2), (2, .iconst 0, 1, 3), (3, .istore_n 2, 1, 4), (4, .iload_n 2, 1, 5), (5, .iconst 4, 1, 6), (6, .if_icmp .ge 25, 3, 9), (9, .aload_n 0, 1, 10), (10, .getfield 54, 3, 13), (13, .iload_n 2, 1, 14), (14, .invokestatic 79, 3, 17), (17, .invokevirtual 83, 3, 20), (20, .ifCond .eq 5, 3, 23), (23, .iload_n 2, 1, 24), (24, .istore_n 1, 1, 25), (25, .iinc 2 1, 3, 28), (28, .goto (-24), 3, 31), (31, .aload_n 0, 1, 32), (32, .getfield 54, 3, 35), (35, .iconst 0, 1, 36), (36, .putfield 72, 3, 39), (39, .iload_n 1, 1, 40), (40, .iconst (-1), 1, 41), (41, .if_icmp .eq 14, 3, 44), (44, .aload_n 0, 1, 45), (45, .getfield 12, 3, 48), (48, .getfield 87, 3, 51), (51, .iload_n 1, 1, 52), (52, .putfield 91, 3, 55), (55, .iload_n 1, 1, 56), (56, .ireturn, 1, 57)]
theorem dd_X8_mode : bf_ok cX8_mode dl_X8_mode = true := bf_walk 0 (by decide +kernel)
def dl_X8_row : List (Nat × Instr × Nat × Nat) := [(0, .iconst (-1), 1, 1), (1, .istore_n 1, 1, 2), (2, .iconst 0, 1, 3), (3, .istore_n 2, 1, 4), (4, .iload_n 2, 1, 5), (5, .bipush 6, 2, 7), (7, .if_icmp .ge 25, 3, 10), (10, .aload_n 0, 1, 11), (11, .getfield 54, 3, 14), (14, .iload_n 2, 1, 15), (15, .invokestatic 96, 3, 18), (18, .invokevirtual 83, 3, 21), (21, .ifCond .eq 5, 3, 24), (24, .iload_n 2, 1, 25), (25, .istore_n 1, 1, 26), (26, .iinc 2 1, 3, 29), (29, .goto (-25), 3, 32), (32, .aload_n 0, 1, 33), (33, .getfield 54, 3, 36), (36, .iconst 0, 1, 37), (37, .putfield 72, 3, 40), (40, .iload_n 1, 1, 41), (41, .iconst (-1), 1, 42), (42, .if_icmp .eq 8, 3, 45), (45, .aload_n 0, 1, 46), (46, .iload_n 1, 1, 47), (47, .putfield 65, 3, 50), (50, .iload_n 1, 1, 51), (51, .ireturn, 1, 52)]
theorem dd_X8_row : bf_ok cX8_row dl_X8_row = true := bf_walk 0 (by decide +kernel)
def dl_X4_spells : List (Nat × Instr × Nat × Nat) := [(0, .aload_n 1, 1, 1), (1, .invokevirtual 19, 3, 4), (4, .aload_n 0, 1, 5), (5, .getfield 15, 3, 8), (8, .if_icmp .eq 5, 3, 11), (11, .iconst 0, 1, 12), (12, .ireturn, 1, 13), (13, .iconst 0, 1, 14), (14, .istore_n 2, 1, 15), (15, .iload_n 2, 1, 16), (16, .aload_n 0, 1, 17), (17, .getfield 15, 3, 20), (20, .if_icmp .ge 27, 3, 23), (23, .aload_n 1, 1, 24), (24, .iload_n 2, 1, 25), (25, .invokevirtual 25, 3, 28), (28, .aload_n 0, 1, 29), (29, .getfield 9, 3, 32), (32, .iload_n 2, 1, 33), (33, .invokestatic 29, 3, 36), (36, .if_icmp .eq 5, 3, 39), (39, .iconst 0, 1, 40), (40, .ireturn, 1, 41), (41, .iinc 2 1, 3, 44), (44, .goto (-29), 3, 47), (47, .iconst 1, 1, 48), (48, .ireturn, 1, 49)]
theorem dd_X4_spells : bf_ok cX4_spells dl_X4_spells = true := bf_walk 0 (by decide +kernel)
def dl_X8_modeName : List (Nat × Instr × Nat × Nat) := [(0, .iload_n 0, 1, 1), (1, .tableswitch 39 0 2 #[27, 31, 35], 27, 28), (28, .ldc_w 413, 3, 31), (31, .areturn, 1, 32), (32, .ldc_w 415, 3, 35), (35, .areturn, 1, 36), (36, .ldc_w 417, 3, 39), (39, .areturn, 1, 40), (40, .ldc_w 419, 3, 43), (43, .areturn, 1, 44)]
theorem dd_X8_modeName : bf_ok cX8_modeName dl_X8_modeName = true := bf_walk 0 (by decide +kernel)
def dl_X8_rowName : List (Nat × Instr × Nat × Nat) := [(0, .iload_n 0, 1, 1), (1, .tableswitch 55 0 4 #[35, 39, 43, 47, 51], 35, 36), (36, .ldc_w 421, 3, 39), (39, .areturn, 1, 40), (40, .ldc_w 423, 3, 43), (43, .areturn, 1, 44), (44, .ldc_w 425, 3, 47), (47, .areturn, 1, 48), (48, .ldc_w 427, 3, 51), (51, .areturn, 1, 52), (52, .ldc_w 429, 3, 55), (55, .areturn, 1, 56), (56, .ldc_w 431, 3, 59), (59, .areturn, 1, 60)]
theorem dd_X8_rowName : bf_ok cX8_rowName dl_X8_rowName = true := bf_walk 0 (by decide +kernel)
def yj_length : MethodName := ⟨"java/lang/String", "length", "()I"⟩
abbrev cj_length : ByteArray := prog_13_method_54_code
def dl_jlength : List (Nat × Instr × Nat × Nat) := [(0, .aload_n 0, 1, 1), (1, .getfield 9, 3, 4), (4, .arraylength, 1, 5), (5, .aload_n 0, 1, 6), (6, .invokevirtual 335, 3, 9), (9, .ishr, 1, 10), (10, .ireturn, 1, 11)]
theorem dd_jlength : bf_ok cj_length dl_jlength = true := bf_walk 0 (by decide +kernel)
theorem mj_length : bf_MV yj_length cj_length 1 (some .int) 0 := ⟨⟨bf_f bf_c3 4 rfl gw_code, bf_f bf_c1 13 rfl gw_initialized, by decide +kernel⟩, bf_f bf_c3 2 rfl gw_instanceMethod, bf_f bf_c3 3 rfl gw_selects⟩
def yj_coder : MethodName := ⟨"java/lang/String", "coder", "()B"⟩
abbrev cj_coder : ByteArray := prog_13_method_152_code
def dl_jcoder : List (Nat × Instr × Nat × Nat) := [(0, .getstatic 38, 3, 3), (3, .ifCond .eq 10, 3, 6), (6, .aload_n 0, 1, 7), (7, .getfield 15, 3, 10), (10, .goto 4, 3, 13), (13, .iconst 1, 1, 14), (14, .ireturn, 1, 15)]
theorem dd_jcoder : bf_ok cj_coder dl_jcoder = true := bf_walk 0 (by decide +kernel)
theorem mj_coder : bf_MV yj_coder cj_coder 1 (some .byte) 0 := ⟨⟨bf_f bf_c3 8 rfl gw_code, bf_f bf_c1 13 rfl gw_initialized, by decide +kernel⟩, bf_f bf_c3 6 rfl gw_instanceMethod, bf_f bf_c3 7 rfl gw_selects⟩
def yj_charAt : MethodName := ⟨"java/lang/String", "charAt", "(I)C"⟩
abbrev cj_charAt : ByteArray := prog_13_method_56_code
def dl_jcharAt : List (Nat × Instr × Nat × Nat) := [(0, .aload_n 0, 1, 1), (1, .invokevirtual 492, 3, 4), (4, .ifCond .eq 12, 3, 7), (7, .aload_n 0, 1, 8), (8, .getfield 9, 3, 11), (11, .iload_n 1, 1, 12), (12, .invokestatic 495, 3, 15), (15, .ireturn, 1, 16), (16, .aload_n 0, 1, 17), (17, .getfield 9, 3, 20), (20, .iload_n 1, 1, 21), (21, .invokestatic 498, 3, 24), (24, .ireturn, 1, 25)]
theorem dd_jcharAt : bf_ok cj_charAt dl_jcharAt = true := bf_walk 0 (by decide +kernel)
theorem mj_charAt : bf_MV yj_charAt cj_charAt 2 (some .char) 1 := ⟨⟨bf_f bf_c3 14 rfl gw_code, bf_f bf_c1 13 rfl gw_initialized, by decide +kernel⟩, bf_f bf_c3 12 rfl gw_instanceMethod, bf_f bf_c3 13 rfl gw_selects⟩
def yj_isLatin1 : MethodName := ⟨"java/lang/String", "isLatin1", "()Z"⟩
abbrev cj_isLatin1 : ByteArray := prog_13_method_154_code
def dl_jisLatin1 : List (Nat × Instr × Nat × Nat) := [(0, .getstatic 38, 3, 3), (3, .ifCond .eq 14, 3, 6), (6, .aload_n 0, 1, 7), (7, .getfield 15, 3, 10), (10, .ifCond .ne 7, 3, 13), (13, .iconst 1, 1, 14), (14, .goto 4, 3, 17), (17, .iconst 0, 1, 18), (18, .ireturn, 1, 19)]
theorem dd_jisLatin1 : bf_ok cj_isLatin1 dl_jisLatin1 = true := bf_walk 0 (by decide +kernel)
theorem mj_isLatin1 : bf_MV yj_isLatin1 cj_isLatin1 1 (some .boolean) 0 := ⟨⟨bf_f bf_c3 18 rfl gw_code, bf_f bf_c1 13 rfl gw_initialized, by decide +kernel⟩, bf_f bf_c3 16 rfl gw_instanceMethod, bf_f bf_c3 17 rfl gw_selects⟩
def yj_checkIndex : MethodName := ⟨"java/lang/String", "checkIndex", "(II)V"⟩
abbrev cj_checkIndex : ByteArray := prog_13_method_155_code
def dl_jcheckIndex : List (Nat × Instr × Nat × Nat) := [(0, .iload_n 0, 1, 1), (1, .iload_n 1, 1, 2), (2, .getstatic 1053, 3, 5), (5, .invokestatic 1059, 3, 8), (8, .pop, 1, 9), (9, .return_, 1, 10)]
theorem dd_jcheckIndex : bf_ok cj_checkIndex dl_jcheckIndex = true := bf_walk 0 (by decide +kernel)
theorem mj_checkIndex : bf_MS yj_checkIndex cj_checkIndex 2 none 2 := ⟨⟨bf_f bf_c3 24 rfl gw_code, bf_f bf_c1 13 rfl gw_initialized, by decide +kernel⟩, bf_f bf_c3 23 rfl gw_static⟩
def yj_l1charAt : MethodName := ⟨"java/lang/StringLatin1", "charAt", "([BI)C"⟩
abbrev cj_l1charAt : ByteArray := prog_14_method_2_code
def dl_jl1charAt : List (Nat × Instr × Nat × Nat) := [(0, .iload_n 1, 1, 1), (1, .aload_n 0, 1, 2), (2, .arraylength, 1, 3), (3, .invokestatic 9, 3, 6), (6, .aload_n 0, 1, 7), (7, .iload_n 1, 1, 8), (8, .baload, 1, 9), (9, .sipush 255, 3, 12), (12, .iand, 1, 13), (13, .i2c, 1, 14), (14, .ireturn, 1, 15)]
theorem dd_jl1charAt : bf_ok cj_l1charAt dl_jl1charAt = true := bf_walk 0 (by decide +kernel)
theorem mj_l1charAt : bf_MS yj_l1charAt cj_l1charAt 2 (some .char) 2 := ⟨⟨bf_f bf_c3 21 rfl gw_code, bf_f bf_c1 14 rfl gw_initialized, by decide +kernel⟩, bf_f bf_c3 20 rfl gw_static⟩
def yj_pcheck : MethodName := ⟨"jdk/internal/util/Preconditions", "checkIndex", "(IILjava/util/function/BiFunction;)I"⟩
abbrev cj_pcheck : ByteArray := prog_17_method_11_code
def dl_jpcheck : List (Nat × Instr × Nat × Nat) := [(0, .iload_n 0, 1, 1), (1, .ifCond .lt 8, 3, 4), (4, .iload_n 0, 1, 5), (5, .iload_n 1, 1, 6), (6, .if_icmp .lt 10, 3, 9), (9, .aload_n 2, 1, 10), (10, .iload_n 0, 1, 11), (11, .iload_n 1, 1, 12), (12, .invokestatic 95, 3, 15), (15, .athrow, 1, 16), (16, .iload_n 0, 1, 17), (17, .ireturn, 1, 18)]
theorem dd_jpcheck : bf_ok cj_pcheck dl_jpcheck = true := bf_walk 0 (by decide +kernel)
theorem mj_pcheck : bf_MS yj_pcheck cj_pcheck 3 (some .int) 3 := ⟨⟨bf_f bf_c3 29 rfl gw_code, bf_f bf_c1 15 rfl gw_initialized, by decide +kernel⟩, bf_f bf_c3 28 rfl gw_static⟩
theorem fj_value : Cond.fieldLink "java/lang/String" 9 "java/lang/String" "value" "[B" ∈ lw_good := bf_f bf_c8 26 rfl gw_fieldLink
theorem fj_compact : Cond.fieldLink "java/lang/String" 38 "java/lang/String" "COMPACT_STRINGS" "Z" ∈ lw_good := bf_f bf_c3 9 rfl gw_fieldLink
theorem fj_coder : Cond.fieldLink "java/lang/String" 15 "java/lang/String" "coder" "B" ∈ lw_good := bf_f bf_c8 27 rfl gw_fieldLink
theorem fj_fmt : Cond.fieldLink "java/lang/String" 1053 "jdk/internal/util/Preconditions" "SIOOBE_FORMATTER" "Ljava/util/function/BiFunction;" ∈ lw_good := bf_f bf_c3 25 rfl gw_fieldLink
theorem lj_coder : Cond.methodLink "java/lang/String" 335 yj_coder ∈ lw_good := bf_f bf_c3 5 rfl gw_methodLink
theorem lj_isLatin1 : Cond.methodLink "java/lang/String" 492 yj_isLatin1 ∈ lw_good := bf_f bf_c3 15 rfl gw_methodLink
theorem lj_l1 : Cond.methodLink "java/lang/String" 495 yj_l1charAt ∈ lw_good := bf_f bf_c3 19 rfl gw_methodLink
theorem lj_pc : Cond.methodLink "java/lang/String" 1059 yj_pcheck ∈ lw_good := bf_f bf_c3 27 rfl gw_methodLink
theorem lj_ci : Cond.methodLink "java/lang/StringLatin1" 9 yj_checkIndex ∈ lw_good := bf_f bf_c3 22 rfl gw_methodLink
theorem lj_len : Cond.methodLink "BeginningsFilter$Tape" 19 yj_length ∈ lw_good := bf_f bf_c3 1 rfl gw_methodLink
theorem lj_ch : Cond.methodLink "BeginningsFilter$Tape" 25 yj_charAt ∈ lw_good := bf_f bf_c3 11 rfl gw_methodLink
/-! STRING CONSTANTS: length() and charAt() of the claim's ten literals, over the machine -/
def bf_O (adK adV : Nat → Nat) (A : Nat → Prop) (U : State) (H : Heap) : Prop := vk_S 10 bf_slen bf_sbyt adK adV A U H ∧ va_Z "java/lang/String" "COMPACT_STRINGS" "Z" (.int 1) A U H ∧ va_Zq "jdk/internal/util/Preconditions" "SIOOBE_FORMATTER" "Ljava/util/function/BiFunction;" A U H
theorem bf_O.at {adK adV : Nat → Nat} {A B : Nat → Prop} {s U : State} {H : Heap} {locs : List Loc} (h : bf_O adK adV A s s.heap) (hS : va_S A s.heap H locs) (hAB : ∀ q, B q → A q) (hv : s.vm.Alike U.vm) : bf_O adK adV B U H :=
  ⟨((h.1.kept hS.2.1).narrow hAB).moved hv, ((h.2.1.kept hS.2.1).narrow hAB).moved hv, ((h.2.2.kept hS.2.1).narrow hAB).moved hv⟩
def bf_PO (avs : List Value) (adK adV : Nat → Nat) (sz : Nat) : Array Value → State → Prop := fun v U => v = avs.toArray ∧ U.heap.size = sz ∧ bf_O adK adV (fun q => sz ≤ q) U U.heap
theorem bf_PO_blind (avs : List Value) (adK adV : Nat → Nat) (sz : Nat) : FrameBlind (bf_PO avs adK adV sz) := fun a U g mk h => ⟨h.1, h.2.1, h.2.2.1.moved (Vm.Alike.refl U.vm), h.2.2.2.1.moved (Vm.Alike.refl U.vm), h.2.2.2.2.moved (Vm.Alike.refl U.vm)⟩
def bf_MO (l : Launch) (y : MethodName) (cc : ByteArray) (n : Nat) (ret : Option FieldType) (fr lo : Nat) (adK adV : Nat → Nat) (avs : List Value) (v : Int32) : Prop :=
  ∀ sz : Nat, Met l y (bf_ws y cc n ret) (bf_rm fr lo) (bf_PO avs adK adV sz) (va_Qi (fun (r : Int32) (_ : Unit) => r = v) (fun _ _ => True) (fun q => sz ≤ q)) 0 0 (fun q => sz ≤ q)
def bf_MOv (l : Launch) (y : MethodName) (cc : ByteArray) (n : Nat) (ret : Option FieldType) (fr lo : Nat) (adK adV : Nat → Nat) (avs : List Value) : Prop :=
  ∀ sz : Nat, Met l y (bf_ws y cc n ret) (bf_rm fr lo) (bf_PO avs adK adV sz) (va_Qv (fun (_ : Unit) => True) (fun _ _ => True) (fun q => sz ≤ q)) 0 0 (fun q => sz ≤ q)
theorem cj_coder_c (l : Launch) (adK adV : Nat → Nat) (k : Nat) (hk : k < 10) : bf_MO l yj_coder cj_coder 1 (some .byte) 0 0 adK adV [.ref (adK k)] 0 := by
  intro sz
  refine Met.ofW (cc := cj_coder) (maxL := 1) (ret := (some .byte)) (by decide) rfl ?_
  intro p e s m args below meth c s₁ B hml hv
  obtain ⟨rfl, rfl, hO⟩ := hv
  have hts : ∀ w ∈ lw_good, w.before ([.ref (adK k)] : List Value).toArray s = true := fun w hw => atoms_spec (ws := bf_ws yj_coder cj_coder 1 (some .byte)) B.pre w (List.mem_cons_of_mem _ hw)
  have hown : s.vm.findClass "java/lang/String" = some m.cls := findClass_of_methodNamed B.named
  have hlocks := B.notSynchronized
  have hS : va_S (fun q : Nat => s.heap.size ≤ q) s.heap s.heap [] := va_S.rf
  have hl := lv_entry ([.ref (adK k)]) (n := 1) (Nat.le_of_ble_eq_true rfl)
  rw [lg_entry_eq]
  generalize (lg_sl ([.ref (adK k)]) ++ List.replicate (1 - (lg_sl ([.ref (adK k)])).length) Slot.unset).toArray = ls at hl ⊢
  have hl : lv_has ls 1 [(0, .ref (adK k))] := hl
  refine va_gets (ref := "java/lang/String") B.exec B.bytes hO.2.1 hS hown (hts _ fj_compact) (fun _ h => h) (bf_dk dd_jcoder 0 rfl).1 ?_
  refine lv_if_eq (tgt := 13) B.exec B.bytes (bf_dk dd_jcoder 1 rfl).1 (by decide) (fun c1 => absurd c1 (by decide)) (fun _ => ?_)
  refine lv_aload_n B.exec B.bytes (bf_dk dd_jcoder 2 rfl).1 rfl (lv_at hl 0 rfl) ?_
  refine vk_getf (ref := "java/lang/String") B.exec B.bytes (hO.1.1 k hk).2.1 hS hown (hts _ fj_coder) (fun _ h => h) (bf_dk dd_jcoder 3 rfl).1 ?_
  refine lv_goto (tgt := 14) B.exec B.bytes (bf_dk dd_jcoder 4 rfl).1 (by decide) ?_
  exact W.zret (v := 0) B.exec B.bytes B.returns (by decide) (fun t ht hW => ⟨⟨0, (), rfl, rfl, trivial⟩, hS.F ht⟩) hS.2.2 (bf_dk dd_jcoder 6 rfl).1 hlocks
theorem bf_len_sh : ∀ k, k < 10 → nI (bf_slen.getD k 0) >>> ((0 : Int32) &&& 31) = nI (bf_slen.getD k 0) := by decide
theorem cj_length_c (l : Launch) (adK adV : Nat → Nat) (k : Nat) (hk : k < 10) : bf_MO l yj_length cj_length 1 (some .int) 1 20 adK adV [.ref (adK k)] (nI (bf_slen.getD k 0)) := by
  intro sz
  refine Met.ofW (cc := cj_length) (maxL := 1) (ret := (some .int)) (by decide) rfl ?_
  intro p e s m args below meth c s₁ B hml hv
  obtain ⟨rfl, rfl, hO⟩ := hv
  have hts : ∀ w ∈ lw_good, w.before ([.ref (adK k)] : List Value).toArray s = true := fun w hw => atoms_spec (ws := bf_ws yj_length cj_length 1 (some .int)) B.pre w (List.mem_cons_of_mem _ hw)
  have hown : s.vm.findClass "java/lang/String" = some m.cls := findClass_of_methodNamed B.named
  have hlocks := B.notSynchronized
  have hS : va_S (fun q : Nat => s.heap.size ≤ q) s.heap s.heap [] := va_S.rf
  have hl := lv_entry ([.ref (adK k)]) (n := 1) (Nat.le_of_ble_eq_true rfl)
  rw [lg_entry_eq]
  generalize (lg_sl ([.ref (adK k)]) ++ List.replicate (1 - (lg_sl ([.ref (adK k)])).length) Slot.unset).toArray = ls at hl ⊢
  have hl : lv_has ls 1 [(0, .ref (adK k))] := hl
  refine lv_aload_n B.exec B.bytes (bf_dk dd_jlength 0 rfl).1 rfl (lv_at hl 0 rfl) ?_
  refine vk_getf (ref := "java/lang/String") B.exec B.bytes (hO.1.1 k hk).2.2.1 hS hown (hts _ fj_value) (fun _ h => h) (bf_dk dd_jlength 1 rfl).1 ?_
  refine va_tlen (v := nI (bf_slen.getD k 0)) B.exec B.bytes (hO.1.1 k hk).2.2.2 hS rfl (bf_dk dd_jlength 2 rfl).1 ?_
  refine lv_aload_n B.exec B.bytes (bf_dk dd_jlength 3 rfl).1 rfl (lv_at hl 0 rfl) ?_
  refine va_calli (va_runV (As := []) (rest := [.int (nI (bf_slen.getD k 0))]) ⟨B.exec, B.bytes, hml, hown, hts⟩ (cj_coder_c l adK adV k hk s.heap.size) ⟨callB_of 0 hts (bf_goodIn mj_coder.1) rfl rfl rfl (hts _ mj_coder.1.2.1) (hts _ lj_coder) mj_coder.1.2.2 ⟨Nat.le_of_ble_eq_true rfl, Nat.le_of_ble_eq_true rfl⟩, hts _ mj_coder.2.1, hts _ mj_coder.2.2⟩ ⟨bf_PO_blind _ _ _ _, vk_recv hO.1 hk hS, fun U hU hW => ⟨rfl, by rw [hU], by rw [hU]; exact hO.at hS (fun q h => Nat.le_trans hS.1 h) hW.alike⟩⟩ rfl rfl hl.1 rfl (lv_room (Nat.le_of_ble_eq_true rfl)) (bf_dk dd_jlength 4 rfl).1 ⟨Nat.le_refl _, Nat.le_refl _⟩) hS (fun q hq h => absurd hq (Nat.not_lt.mpr h)) (fun q h => Nat.le_trans hS.1 h) (fun r u t H1 locs1 ht hvm hw hB hz1 hk1 hS1 => ?_)
  subst hw
  refine lv_ishr B.exec B.bytes (bf_dk dd_jlength 5 rfl).1 ?_
  rw [bf_len_sh k hk]
  exact W.iret (v := nI (bf_slen.getD k 0)) B.exec B.bytes B.returns (fun t ht hW => ⟨⟨_, (), rfl, rfl, trivial⟩, hS1.F ht⟩) hS1.2.2 (bf_dk dd_jlength 6 rfl).1 hlocks
theorem cj_isLatin1_c (l : Launch) (adK adV : Nat → Nat) (k : Nat) (hk : k < 10) : bf_MO l yj_isLatin1 cj_isLatin1 1 (some .boolean) 0 0 adK adV [.ref (adK k)] 1 := by
  intro sz
  refine Met.ofW (cc := cj_isLatin1) (maxL := 1) (ret := (some .boolean)) (by decide) rfl ?_
  intro p e s m args below meth c s₁ B hml hv
  obtain ⟨rfl, rfl, hO⟩ := hv
  have hts : ∀ w ∈ lw_good, w.before ([.ref (adK k)] : List Value).toArray s = true := fun w hw => atoms_spec (ws := bf_ws yj_isLatin1 cj_isLatin1 1 (some .boolean)) B.pre w (List.mem_cons_of_mem _ hw)
  have hown : s.vm.findClass "java/lang/String" = some m.cls := findClass_of_methodNamed B.named
  have hlocks := B.notSynchronized
  have hS : va_S (fun q : Nat => s.heap.size ≤ q) s.heap s.heap [] := va_S.rf
  have hl := lv_entry ([.ref (adK k)]) (n := 1) (Nat.le_of_ble_eq_true rfl)
  rw [lg_entry_eq]
  generalize (lg_sl ([.ref (adK k)]) ++ List.replicate (1 - (lg_sl ([.ref (adK k)])).length) Slot.unset).toArray = ls at hl ⊢
  have hl : lv_has ls 1 [(0, .ref (adK k))] := hl
  refine va_gets (ref := "java/lang/String") B.exec B.bytes hO.2.1 hS hown (hts _ fj_compact) (fun _ h => h) (bf_dk dd_jisLatin1 0 rfl).1 ?_
  refine lv_if_eq (tgt := 17) B.exec B.bytes (bf_dk dd_jisLatin1 1 rfl).1 (by decide) (fun c1 => absurd c1 (by decide)) (fun _ => ?_)
  refine lv_aload_n B.exec B.bytes (bf_dk dd_jisLatin1 2 rfl).1 rfl (lv_at hl 0 rfl) ?_
  refine vk_getf (ref := "java/lang/String") B.exec B.bytes (hO.1.1 k hk).2.1 hS hown (hts _ fj_coder) (fun _ h => h) (bf_dk dd_jisLatin1 3 rfl).1 ?_
  refine lv_if_ne (tgt := 17) B.exec B.bytes (bf_dk dd_jisLatin1 4 rfl).1 (by decide) (fun c1 => absurd rfl c1) (fun _ => ?_)
  refine lv_iconst (v := 1) B.exec B.bytes (bf_dk dd_jisLatin1 5 rfl).1 (by decide) ?_
  refine lv_goto (tgt := 18) B.exec B.bytes (bf_dk dd_jisLatin1 6 rfl).1 (by decide) ?_
  exact W.zret (v := 1) B.exec B.bytes B.returns (by decide) (fun t ht hW => ⟨⟨1, (), rfl, rfl, trivial⟩, hS.F ht⟩) hS.2.2 (bf_dk dd_jisLatin1 8 rfl).1 hlocks
theorem cj_pcheckN_c (l : Launch) (adK adV : Nat → Nat) (i n : Int32) (h0 : ¬ i < 0) (h1 : i < n) : bf_MO l yj_pcheck cj_pcheck 3 (some .int) 0 0 adK adV [.int i, .int n, .null] i := by
  intro sz
  refine Met.ofW (cc := cj_pcheck) (maxL := 3) (ret := (some .int)) (by decide) rfl ?_
  intro p e s m args below meth c s₁ B hml hv
  obtain ⟨rfl, rfl, hO⟩ := hv
  have hts : ∀ w ∈ lw_good, w.before ([.int i, .int n, .null] : List Value).toArray s = true := fun w hw => atoms_spec (ws := bf_ws yj_pcheck cj_pcheck 3 (some .int)) B.pre w (List.mem_cons_of_mem _ hw)
  have hown : s.vm.findClass "jdk/internal/util/Preconditions" = some m.cls := findClass_of_methodNamed B.named
  have hlocks := B.notSynchronized
  have hS : va_S (fun q : Nat => s.heap.size ≤ q) s.heap s.heap [] := va_S.rf
  have hl := lv_entry ([.int i, .int n, .null]) (n := 3) (Nat.le_of_ble_eq_true rfl)
  rw [lg_entry_eq]
  generalize (lg_sl ([.int i, .int n, .null]) ++ List.replicate (3 - (lg_sl ([.int i, .int n, .null])).length) Slot.unset).toArray = ls at hl ⊢
  have hl : lv_has ls 3 [(0, .int i), (1, .int n), (2, .null)] := hl
  refine lv_iload_n B.exec B.bytes (bf_dk dd_jpcheck 0 rfl).1 rfl (lv_at hl 0 rfl) ?_
  refine lv_if_lt (tgt := 9) B.exec B.bytes (bf_dk dd_jpcheck 1 rfl).1 (by decide) (fun c1 => absurd c1 h0) (fun _ => ?_)
  refine lv_iload_n B.exec B.bytes (bf_dk dd_jpcheck 2 rfl).1 rfl (lv_at hl 0 rfl) ?_
  refine lv_iload_n B.exec B.bytes (bf_dk dd_jpcheck 3 rfl).1 rfl (lv_at hl 1 rfl) ?_
  refine lv_icmp_lt (tgt := 16) B.exec B.bytes (bf_dk dd_jpcheck 4 rfl).1 (by decide) (fun _ => ?_) (fun c1 => absurd h1 c1)
  refine lv_iload_n B.exec B.bytes (bf_dk dd_jpcheck 10 rfl).1 rfl (lv_at hl 0 rfl) ?_
  exact W.iret (v := i) B.exec B.bytes B.returns (fun t ht hW => ⟨⟨i, (), rfl, rfl, trivial⟩, hS.F ht⟩) hS.2.2 (bf_dk dd_jpcheck 11 rfl).1 hlocks
theorem cj_pcheckR_c (l : Launch) (adK adV : Nat → Nat) (i n : Int32) (t0 : Nat) (h0 : ¬ i < 0) (h1 : i < n) : bf_MO l yj_pcheck cj_pcheck 3 (some .int) 0 0 adK adV [.int i, .int n, .ref t0] i := by
  intro sz
  refine Met.ofW (cc := cj_pcheck) (maxL := 3) (ret := (some .int)) (by decide) rfl ?_
  intro p e s m args below meth c s₁ B hml hv
  obtain ⟨rfl, rfl, hO⟩ := hv
  have hts : ∀ w ∈ lw_good, w.before ([.int i, .int n, .ref t0] : List Value).toArray s = true := fun w hw => atoms_spec (ws := bf_ws yj_pcheck cj_pcheck 3 (some .int)) B.pre w (List.mem_cons_of_mem _ hw)
  have hown : s.vm.findClass "jdk/internal/util/Preconditions" = some m.cls := findClass_of_methodNamed B.named
  have hlocks := B.notSynchronized
  have hS : va_S (fun q : Nat => s.heap.size ≤ q) s.heap s.heap [] := va_S.rf
  have hl := lv_entry ([.int i, .int n, .ref t0]) (n := 3) (Nat.le_of_ble_eq_true rfl)
  rw [lg_entry_eq]
  generalize (lg_sl ([.int i, .int n, .ref t0]) ++ List.replicate (3 - (lg_sl ([.int i, .int n, .ref t0])).length) Slot.unset).toArray = ls at hl ⊢
  have hl : lv_has ls 3 [(0, .int i), (1, .int n), (2, .ref t0)] := hl
  refine lv_iload_n B.exec B.bytes (bf_dk dd_jpcheck 0 rfl).1 rfl (lv_at hl 0 rfl) ?_
  refine lv_if_lt (tgt := 9) B.exec B.bytes (bf_dk dd_jpcheck 1 rfl).1 (by decide) (fun c1 => absurd c1 h0) (fun _ => ?_)
  refine lv_iload_n B.exec B.bytes (bf_dk dd_jpcheck 2 rfl).1 rfl (lv_at hl 0 rfl) ?_
  refine lv_iload_n B.exec B.bytes (bf_dk dd_jpcheck 3 rfl).1 rfl (lv_at hl 1 rfl) ?_
  refine lv_icmp_lt (tgt := 16) B.exec B.bytes (bf_dk dd_jpcheck 4 rfl).1 (by decide) (fun _ => ?_) (fun c1 => absurd h1 c1)
  refine lv_iload_n B.exec B.bytes (bf_dk dd_jpcheck 10 rfl).1 rfl (lv_at hl 0 rfl) ?_
  exact W.iret (v := i) B.exec B.bytes B.returns (fun t ht hW => ⟨⟨i, (), rfl, rfl, trivial⟩, hS.F ht⟩) hS.2.2 (bf_dk dd_jpcheck 11 rfl).1 hlocks
theorem cj_checkIndex_c (l : Launch) (adK adV : Nat → Nat) (i n : Int32) (h0 : ¬ i < 0) (h1 : i < n) : bf_MOv l yj_checkIndex cj_checkIndex 2 none 1 22 adK adV [.int i, .int n] := by
  intro sz
  refine Met.ofW (cc := cj_checkIndex) (maxL := 2) (ret := none) (by decide) rfl ?_
  intro p e s m args below meth c s₁ B hml hv
  obtain ⟨rfl, rfl, hO⟩ := hv
  have hts : ∀ w ∈ lw_good, w.before ([.int i, .int n] : List Value).toArray s = true := fun w hw => atoms_spec (ws := bf_ws yj_checkIndex cj_checkIndex 2 none) B.pre w (List.mem_cons_of_mem _ hw)
  have hown : s.vm.findClass "java/lang/String" = some m.cls := findClass_of_methodNamed B.named
  have hlocks := B.notSynchronized
  have hS : va_S (fun q : Nat => s.heap.size ≤ q) s.heap s.heap [] := va_S.rf
  have hl := lv_entry ([.int i, .int n]) (n := 2) (Nat.le_of_ble_eq_true rfl)
  rw [lg_entry_eq]
  generalize (lg_sl ([.int i, .int n]) ++ List.replicate (2 - (lg_sl ([.int i, .int n])).length) Slot.unset).toArray = ls at hl ⊢
  have hl : lv_has ls 2 [(0, .int i), (1, .int n)] := hl
  refine lv_iload_n B.exec B.bytes (bf_dk dd_jcheckIndex 0 rfl).1 rfl (lv_at hl 0 rfl) ?_
  refine lv_iload_n B.exec B.bytes (bf_dk dd_jcheckIndex 1 rfl).1 rfl (lv_at hl 1 rfl) ?_
  rcases hO.2.2 with hZ | ⟨t0, hZ⟩
  · refine va_gets (ref := "jdk/internal/util/Preconditions") B.exec B.bytes hZ hS hown (hts _ fj_fmt) (fun _ h => h) (bf_dk dd_jcheckIndex 2 rfl).1 ?_
    refine va_calli (va_runS (As := [.int i, .int n, .null]) (rest := []) ⟨B.exec, B.bytes, hml, hown, hts⟩ (cj_pcheckN_c l adK adV i n h0 h1 s.heap.size) ⟨callB_of 3 hts (bf_goodIn mj_pcheck.1) rfl rfl rfl (hts _ mj_pcheck.1.2.1) (hts _ lj_pc) mj_pcheck.1.2.2 ⟨Nat.le_of_ble_eq_true rfl, Nat.le_of_ble_eq_true rfl⟩, hts _ mj_pcheck.2⟩ ⟨bf_PO_blind _ _ _ _, fun U hU hW => ⟨rfl, by rw [hU], by rw [hU]; exact hO.at hS (fun q h => Nat.le_trans hS.1 h) hW.alike⟩⟩ rfl rfl hl.1 rfl (lv_room (Nat.le_of_ble_eq_true rfl)) (bf_dk dd_jcheckIndex 3 rfl).1 ⟨Nat.le_refl _, Nat.le_refl _⟩) hS (fun q hq h => absurd hq (Nat.not_lt.mpr h)) (fun q h => Nat.le_trans hS.1 h) (fun r u t H1 locs1 ht hvm hw hB hz1 hk1 hS1 => ?_)
    refine lv_pop B.exec B.bytes (bf_dk dd_jcheckIndex 4 rfl).1 rfl ?_
    exact W.vret B.exec B.bytes B.returns (fun t ht hW => ⟨⟨(), rfl, trivial, trivial⟩, hS1.F ht⟩) hS1.2.2 (bf_dk dd_jcheckIndex 5 rfl).1 hlocks
  · refine va_gets (ref := "jdk/internal/util/Preconditions") B.exec B.bytes hZ hS hown (hts _ fj_fmt) (fun _ h => h) (bf_dk dd_jcheckIndex 2 rfl).1 ?_
    refine va_calli (va_runS (As := [.int i, .int n, .ref t0]) (rest := []) ⟨B.exec, B.bytes, hml, hown, hts⟩ (cj_pcheckR_c l adK adV i n t0 h0 h1 s.heap.size) ⟨callB_of 3 hts (bf_goodIn mj_pcheck.1) rfl rfl rfl (hts _ mj_pcheck.1.2.1) (hts _ lj_pc) mj_pcheck.1.2.2 ⟨Nat.le_of_ble_eq_true rfl, Nat.le_of_ble_eq_true rfl⟩, hts _ mj_pcheck.2⟩ ⟨bf_PO_blind _ _ _ _, fun U hU hW => ⟨rfl, by rw [hU], by rw [hU]; exact hO.at hS (fun q h => Nat.le_trans hS.1 h) hW.alike⟩⟩ rfl rfl hl.1 rfl (lv_room (Nat.le_of_ble_eq_true rfl)) (bf_dk dd_jcheckIndex 3 rfl).1 ⟨Nat.le_refl _, Nat.le_refl _⟩) hS (fun q hq h => absurd hq (Nat.not_lt.mpr h)) (fun q h => Nat.le_trans hS.1 h) (fun r u t H1 locs1 ht hvm hw hB hz1 hk1 hS1 => ?_)
    refine lv_pop B.exec B.bytes (bf_dk dd_jcheckIndex 4 rfl).1 rfl ?_
    exact W.vret B.exec B.bytes B.returns (fun t ht hW => ⟨⟨(), rfl, trivial, trivial⟩, hS1.F ht⟩) hS1.2.2 (bf_dk dd_jcheckIndex 5 rfl).1 hlocks
theorem bf_ch_ok : ∀ k, k < 10 → ∀ j, j < bf_slen.getD k 0 → ((((bf_sbyt.getD k []).getD j 0) &&& (255 : Int32)).toUInt32 % 65536).toInt32 = (bf_sbyt.getD k []).getD j 0 := by decide
theorem bf_ch_nar : ∀ k, k < 10 → ∀ j, j < bf_slen.getD k 0 → narrow .char (.int ((bf_sbyt.getD k []).getD j 0)) = .int ((bf_sbyt.getD k []).getD j 0) := by decide
theorem bf_sl31 : ∀ k, k < 10 → bf_slen.getD k 0 < 2 ^ 31 := by decide
theorem cj_l1charAt_c (l : Launch) (adK adV : Nat → Nat) (k : Nat) (hk : k < 10) (j : Nat) (hj : j < bf_slen.getD k 0) : bf_MO l yj_l1charAt cj_l1charAt 2 (some .char) 2 43 adK adV [.ref (adV k), .int (nI j)] ((bf_sbyt.getD k []).getD j 0) := by
  intro sz
  refine Met.ofW (cc := cj_l1charAt) (maxL := 2) (ret := (some .char)) (by decide) rfl ?_
  intro p e s m args below meth c s₁ B hml hv
  obtain ⟨rfl, rfl, hO⟩ := hv
  have hts : ∀ w ∈ lw_good, w.before ([.ref (adV k), .int (nI j)] : List Value).toArray s = true := fun w hw => atoms_spec (ws := bf_ws yj_l1charAt cj_l1charAt 2 (some .char)) B.pre w (List.mem_cons_of_mem _ hw)
  have hown : s.vm.findClass "java/lang/StringLatin1" = some m.cls := findClass_of_methodNamed B.named
  have hlocks := B.notSynchronized
  have hS : va_S (fun q : Nat => s.heap.size ≤ q) s.heap s.heap [] := va_S.rf
  have hl := lv_entry ([.ref (adV k), .int (nI j)]) (n := 2) (Nat.le_of_ble_eq_true rfl)
  rw [lg_entry_eq]
  generalize (lg_sl ([.ref (adV k), .int (nI j)]) ++ List.replicate (2 - (lg_sl ([.ref (adV k), .int (nI j)])).length) Slot.unset).toArray = ls at hl ⊢
  have hl : lv_has ls 2 [(0, .ref (adV k)), (1, .int (nI j))] := hl
  have h31 := bf_sl31 k hk
  refine lv_iload_n B.exec B.bytes (bf_dk dd_jl1charAt 0 rfl).1 rfl (lv_at hl 1 rfl) ?_
  refine lv_aload_n B.exec B.bytes (bf_dk dd_jl1charAt 1 rfl).1 rfl (lv_at hl 0 rfl) ?_
  refine va_tlen (v := nI (bf_slen.getD k 0)) B.exec B.bytes (hO.1.1 k hk).2.2.2 hS rfl (bf_dk dd_jl1charAt 2 rfl).1 ?_
  refine va_callv (va_runS (As := [.int (nI j), .int (nI (bf_slen.getD k 0))]) (rest := []) ⟨B.exec, B.bytes, hml, hown, hts⟩ (cj_checkIndex_c l adK adV (nI j) (nI (bf_slen.getD k 0)) (nI_pos (by omega)) (nI_lt hj h31) s.heap.size) ⟨callB_of 2 hts (bf_goodIn mj_checkIndex.1) rfl rfl rfl (hts _ mj_checkIndex.1.2.1) (hts _ lj_ci) mj_checkIndex.1.2.2 ⟨Nat.le_of_ble_eq_true rfl, Nat.le_of_ble_eq_true rfl⟩, hts _ mj_checkIndex.2⟩ ⟨bf_PO_blind _ _ _ _, fun U hU hW => ⟨rfl, by rw [hU], by rw [hU]; exact hO.at hS (fun q h => Nat.le_trans hS.1 h) hW.alike⟩⟩ rfl rfl hl.1 rfl (lv_room (Nat.le_of_ble_eq_true rfl)) (bf_dk dd_jl1charAt 3 rfl).1 ⟨Nat.le_refl _, Nat.le_refl _⟩) hS (fun q hq h => absurd hq (Nat.not_lt.mpr h)) (fun q h => Nat.le_trans hS.1 h) (fun u t H1 locs1 ht hvm hw hB hz1 hk1 hS1 => ?_)
  refine lv_aload_n B.exec B.bytes (bf_dk dd_jl1charAt 4 rfl).1 rfl (lv_at hl 0 rfl) ?_
  refine lv_iload_n B.exec B.bytes (bf_dk dd_jl1charAt 5 rfl).1 rfl (lv_at hl 1 rfl) ?_
  refine va_tb (v := .int ((bf_sbyt.getD k []).getD j 0)) B.exec B.bytes (hO.1.1 k hk).2.2.2 hS1 (vp_in_nI hj h31) (by rw [nI_clamp (by omega)]) (bf_dk dd_jl1charAt 6 rfl).1 ?_
  refine lv_sipush (v := 255) B.exec B.bytes (bf_dk dd_jl1charAt 7 rfl).1 (by decide) ?_
  refine lv_iand B.exec B.bytes (bf_dk dd_jl1charAt 8 rfl).1 ?_
  refine lv_i2c (v := (bf_sbyt.getD k []).getD j 0) B.exec B.bytes (bf_dk dd_jl1charAt 9 rfl).1 (bf_ch_ok k hk j hj) ?_
  exact W.zret (v := (bf_sbyt.getD k []).getD j 0) B.exec B.bytes B.returns (bf_ch_nar k hk j hj) (fun t ht hW => ⟨⟨_, (), rfl, rfl, trivial⟩, hS1.F ht⟩) hS1.2.2 (bf_dk dd_jl1charAt 10 rfl).1 hlocks
theorem cj_charAt_c (l : Launch) (adK adV : Nat → Nat) (k : Nat) (hk : k < 10) (j : Nat) (hj : j < bf_slen.getD k 0) : bf_MO l yj_charAt cj_charAt 2 (some .char) 3 64 adK adV [.ref (adK k), .int (nI j)] ((bf_sbyt.getD k []).getD j 0) := by
  intro sz
  refine Met.ofW (cc := cj_charAt) (maxL := 2) (ret := (some .char)) (by decide) rfl ?_
  intro p e s m args below meth c s₁ B hml hv
  obtain ⟨rfl, rfl, hO⟩ := hv
  have hts : ∀ w ∈ lw_good, w.before ([.ref (adK k), .int (nI j)] : List Value).toArray s = true := fun w hw => atoms_spec (ws := bf_ws yj_charAt cj_charAt 2 (some .char)) B.pre w (List.mem_cons_of_mem _ hw)
  have hown : s.vm.findClass "java/lang/String" = some m.cls := findClass_of_methodNamed B.named
  have hlocks := B.notSynchronized
  have hS : va_S (fun q : Nat => s.heap.size ≤ q) s.heap s.heap [] := va_S.rf
  have hl := lv_entry ([.ref (adK k), .int (nI j)]) (n := 2) (Nat.le_of_ble_eq_true rfl)
  rw [lg_entry_eq]
  generalize (lg_sl ([.ref (adK k), .int (nI j)]) ++ List.replicate (2 - (lg_sl ([.ref (adK k), .int (nI j)])).length) Slot.unset).toArray = ls at hl ⊢
  have hl : lv_has ls 2 [(0, .ref (adK k)), (1, .int (nI j))] := hl
  refine lv_aload_n B.exec B.bytes (bf_dk dd_jcharAt 0 rfl).1 rfl (lv_at hl 0 rfl) ?_
  refine va_calli (va_runV (As := []) (rest := []) ⟨B.exec, B.bytes, hml, hown, hts⟩ (cj_isLatin1_c l adK adV k hk s.heap.size) ⟨callB_of 0 hts (bf_goodIn mj_isLatin1.1) rfl rfl rfl (hts _ mj_isLatin1.1.2.1) (hts _ lj_isLatin1) mj_isLatin1.1.2.2 ⟨Nat.le_of_ble_eq_true rfl, Nat.le_of_ble_eq_true rfl⟩, hts _ mj_isLatin1.2.1, hts _ mj_isLatin1.2.2⟩ ⟨bf_PO_blind _ _ _ _, vk_recv hO.1 hk hS, fun U hU hW => ⟨rfl, by rw [hU], by rw [hU]; exact hO.at hS (fun q h => Nat.le_trans hS.1 h) hW.alike⟩⟩ rfl rfl hl.1 rfl (lv_room (Nat.le_of_ble_eq_true rfl)) (bf_dk dd_jcharAt 1 rfl).1 ⟨Nat.le_refl _, Nat.le_refl _⟩) hS (fun q hq h => absurd hq (Nat.not_lt.mpr h)) (fun q h => Nat.le_trans hS.1 h) (fun r u t H1 locs1 ht hvm hw hB hz1 hk1 hS1 => ?_)
  subst hw
  refine lv_if_eq (tgt := 16) B.exec B.bytes (bf_dk dd_jcharAt 2 rfl).1 (by decide) (fun c1 => absurd c1 (by decide)) (fun _ => ?_)
  refine lv_aload_n B.exec B.bytes (bf_dk dd_jcharAt 3 rfl).1 rfl (lv_at hl 0 rfl) ?_
  refine vk_getf (ref := "java/lang/String") B.exec B.bytes (hO.1.1 k hk).2.2.1 hS1 hown (hts _ fj_value) (fun _ h => h) (bf_dk dd_jcharAt 4 rfl).1 ?_
  refine lv_iload_n B.exec B.bytes (bf_dk dd_jcharAt 5 rfl).1 rfl (lv_at hl 1 rfl) ?_
  refine va_calli (va_runS (As := [.ref (adV k), .int (nI j)]) (rest := []) ⟨B.exec, B.bytes, hml, hown, hts⟩ (cj_l1charAt_c l adK adV k hk j hj H1.size) ⟨callB_of 2 hts (bf_goodIn mj_l1charAt.1) rfl rfl rfl (hts _ mj_l1charAt.1.2.1) (hts _ lj_l1) mj_l1charAt.1.2.2 ⟨Nat.le_of_ble_eq_true rfl, Nat.le_of_ble_eq_true rfl⟩, hts _ mj_l1charAt.2⟩ ⟨bf_PO_blind _ _ _ _, fun U hU hW => ⟨rfl, by rw [hU], by rw [hU]; exact hO.at hS1 (fun q h => Nat.le_trans hS1.1 h) hW.alike⟩⟩ rfl rfl hl.1 rfl (lv_room (Nat.le_of_ble_eq_true rfl)) (bf_dk dd_jcharAt 6 rfl).1 ⟨Nat.le_refl _, Nat.le_refl _⟩) hS1 (fun q hq h => absurd hq (Nat.not_lt.mpr h)) (fun q h => Nat.le_trans hS1.1 h) (fun r2 u2 t2 H2 locs2 ht2 hvm2 hw2 hB2 hz2 hk2 hS2 => ?_)
  subst hw2
  exact W.zret (v := (bf_sbyt.getD k []).getD j 0) B.exec B.bytes B.returns (bf_ch_nar k hk j hj) (fun t ht hW => ⟨⟨_, (), rfl, rfl, trivial⟩, hS2.F ht⟩) hS2.2.2 (bf_dk dd_jcharAt 7 rfl).1 hlocks

/-! METHODS PROVED BY HAND: set (static arrays), mode and row (String constants) -/
def bf_sp (k : Nat) (T4 : bT4) : Prop := b4g_count T4 = nI (bf_slen.getD k 0) ∧ ∀ j : Nat, j < bf_slen.getD k 0 → b4g_octets T4 j = (bf_sbyt.getD k []).getD j 0
def bf_is (lo n : Nat) (T4 : bT4) (r : Int32) : Prop := (∃ k : Nat, k < n ∧ r = nI k ∧ bf_sp (lo + k) T4 ∧ ∀ j : Nat, k < j → j < n → ¬ bf_sp (lo + j) T4) ∨ (r = -1 ∧ ∀ k : Nat, k < n → ¬ bf_sp (lo + k) T4)
def bf_at6 (f : List Int32) (i : Int32) : Int32 := if i < 0 then -1 else if (6 : Int32) ≤ i then -1 else f.getD i.toNatClampNeg 0
def wp_X8_set (S : bT8) (a1 a2 : Int32) (Q : Int32 → bT8 → Prop) : Prop :=
  (a1 < 0 ∨ (6 : Int32) ≤ a1 ∨ a2 < bf_at6 bf_least a1 ∨ bf_at6 bf_most a1 < a2 → Q 0 S) ∧
  (¬ a1 < 0 → ¬ (6 : Int32) ≤ a1 → ¬ a2 < bf_at6 bf_least a1 → ¬ bf_at6 bf_most a1 < a2 → vp_in a1 6 ∧ ∀ S2 : bT8, S2 = (b8s_now S (b2s_told (b8g_now S) (b3s_values (b2g_told (b8g_now S)) (upd (b3g_values (b2g_told (b8g_now S))) a1.toNatClampNeg a2)))) → Q 1 S2)
def wp_X8_mode (S : bT8) (Q : Int32 → bT8 → Prop) : Prop :=
  ∀ r : Int32, bf_is 0 4 (b8g_tape S) r → ∀ S1 : bT8, S1 = b8s_tape S (b4s_count (b8g_tape S) 0) → (r = -1 → Q r S1) ∧ (¬ r = -1 → ∀ S2 : bT8, S2 = b8s_now S1 (b2s_told (b8g_now S1) (b3s_mode (b2g_told (b8g_now S1)) r)) → Q r S2)
def wp_X8_row (S : bT8) (Q : Int32 → bT8 → Prop) : Prop :=
  ∀ r : Int32, bf_is 4 6 (b8g_tape S) r → ∀ S1 : bT8, S1 = b8s_tape S (b4s_count (b8g_tape S) 0) → (r = -1 → Q r S1) ∧ (¬ r = -1 → ∀ S2 : bT8, S2 = b8s_chosenRow S1 r → Q r S2)

section BFLW
variable {p : Program} {l : Launch} {e : Env} {R : Room} {s : State} {m : MethodId} {args : Array Value} {below : List Frame} {meth : Method} {c : Code} {H : Heap} {locs : List Loc} {cells slots : Nat} {Q : State → Prop} {cc : ByteArray} {pc : Nat} {ls : Array Slot} {rest : List Value}
theorem bf_ldcwS (hexec : p.tables.exec = Jvm.exec) (hb : c.code = cc) {own tx : String} {index q : Nat} (hown : s.vm.findClass own = some m.cls) (hZ : vk_R own index tx q s) (hdg : decode cc pc = .ok (.ldc_w index, 3))
    (k : W p l e R s m args below meth c H locs cells slots Q (F0 m (pc + 3) ls (.ref q :: rest))) : W p l e R s m args below meth c H locs cells slots Q (F0 m pc ls rest) := by
  intro T hT X
  obtain ⟨t, a1, b1⟩ := k T hT X
  exact ⟨t, X.ldcStringW hexec hown (text := tx) (a := q) hZ.1 hZ.2 (g := F0 m pc ls rest) rfl (by rw [hb]; exact hdg) t a1, b1⟩
end BFLW
def bf_PN (avs : List Value) (adK : Nat → Nat) (sz : Nat) : Array Value → State → Prop := fun v U => v = avs.toArray ∧ U.heap.size = sz ∧ ∀ i : Nat, i < 10 → vk_R "BeginningsFilter" (bf_sidx.getD i 0) (bf_stxt.getD i "") (adK i) U
theorem bf_PN_blind (avs : List Value) (adK : Nat → Nat) (sz : Nat) : FrameBlind (bf_PN avs adK sz) := fun a U g mk h => ⟨h.1, h.2.1, fun i hi => (h.2.2 i hi).same rfl⟩
theorem c_modeName (l : Launch) (adK : Nat → Nat) (k : Nat) (hk : k < 4) (sz : Nat) : Met l yX8_modeName (bf_ws yX8_modeName cX8_modeName 1 (some (.object "java/lang/String"))) (bf_rm 0 0) (bf_PN [.int (nI k)] adK sz) (va_Qr (fun (_ : Unit) => True) (fun _ a _ => a = adK (0 + k)) (fun q => sz ≤ q)) 0 0 (fun q => sz ≤ q) := by
  refine Met.ofW (cc := cX8_modeName) (maxL := 1) (ret := (some (.object "java/lang/String"))) (by decide) rfl ?_
  intro p e s m args below meth c s₁ B hml hv
  obtain ⟨rfl, rfl, hO⟩ := hv
  have hown : s.vm.findClass "BeginningsFilter" = some m.cls := findClass_of_methodNamed B.named
  have hlocks := B.notSynchronized
  have hS : va_S (fun q : Nat => s.heap.size ≤ q) s.heap s.heap [] := va_S.rf
  have hl := lv_entry ([.int (nI k)]) (n := 1) (Nat.le_of_ble_eq_true rfl)
  rw [lg_entry_eq]
  generalize (lg_sl ([.int (nI k)]) ++ List.replicate (1 - (lg_sl ([.int (nI k)])).length) Slot.unset).toArray = ls at hl ⊢
  have hl : lv_has ls 1 [(0, .int (nI k))] := hl
  refine lv_iload_n B.exec B.bytes (bf_dk dd_X8_modeName 0 rfl).1 rfl (lv_at hl 0 rfl) ?_
  match k, hk with
  | 0, _ =>
    refine lv_tableIn (tgt := 28) B.exec B.bytes (bf_dk dd_X8_modeName 1 rfl).1 (by decide) (by decide) rfl (by decide) ?_
    refine bf_ldcwS B.exec B.bytes hown (hO 0 (by decide)) (bf_dk dd_X8_modeName 2 rfl).1 ?_
    exact W.aret (v := .ref (adK 0)) B.exec B.bytes B.returns (Or.inl ⟨_, rfl⟩) (Or.inr ⟨_, rfl⟩) (fun t ht hW => ⟨⟨(), adK 0, rfl, trivial, rfl⟩, hS.F ht⟩) hS.2.2 (bf_dk dd_X8_modeName 3 rfl).1 hlocks
  | 1, _ =>
    refine lv_tableIn (tgt := 32) B.exec B.bytes (bf_dk dd_X8_modeName 1 rfl).1 (by decide) (by decide) rfl (by decide) ?_
    refine bf_ldcwS B.exec B.bytes hown (hO 1 (by decide)) (bf_dk dd_X8_modeName 4 rfl).1 ?_
    exact W.aret (v := .ref (adK 1)) B.exec B.bytes B.returns (Or.inl ⟨_, rfl⟩) (Or.inr ⟨_, rfl⟩) (fun t ht hW => ⟨⟨(), adK 1, rfl, trivial, rfl⟩, hS.F ht⟩) hS.2.2 (bf_dk dd_X8_modeName 5 rfl).1 hlocks
  | 2, _ =>
    refine lv_tableIn (tgt := 36) B.exec B.bytes (bf_dk dd_X8_modeName 1 rfl).1 (by decide) (by decide) rfl (by decide) ?_
    refine bf_ldcwS B.exec B.bytes hown (hO 2 (by decide)) (bf_dk dd_X8_modeName 6 rfl).1 ?_
    exact W.aret (v := .ref (adK 2)) B.exec B.bytes B.returns (Or.inl ⟨_, rfl⟩) (Or.inr ⟨_, rfl⟩) (fun t ht hW => ⟨⟨(), adK 2, rfl, trivial, rfl⟩, hS.F ht⟩) hS.2.2 (bf_dk dd_X8_modeName 7 rfl).1 hlocks
  | 3, _ =>
    refine lv_tableOut (tgt := 40) B.exec B.bytes (bf_dk dd_X8_modeName 1 rfl).1 (by decide) (by decide) ?_
    refine bf_ldcwS B.exec B.bytes hown (hO 3 (by decide)) (bf_dk dd_X8_modeName 8 rfl).1 ?_
    exact W.aret (v := .ref (adK 3)) B.exec B.bytes B.returns (Or.inl ⟨_, rfl⟩) (Or.inr ⟨_, rfl⟩) (fun t ht hW => ⟨⟨(), adK 3, rfl, trivial, rfl⟩, hS.F ht⟩) hS.2.2 (bf_dk dd_X8_modeName 9 rfl).1 hlocks
  | k + 4, h => omega
theorem c_rowName (l : Launch) (adK : Nat → Nat) (k : Nat) (hk : k < 6) (sz : Nat) : Met l yX8_rowName (bf_ws yX8_rowName cX8_rowName 1 (some (.object "java/lang/String"))) (bf_rm 0 0) (bf_PN [.int (nI k)] adK sz) (va_Qr (fun (_ : Unit) => True) (fun _ a _ => a = adK (4 + k)) (fun q => sz ≤ q)) 0 0 (fun q => sz ≤ q) := by
  refine Met.ofW (cc := cX8_rowName) (maxL := 1) (ret := (some (.object "java/lang/String"))) (by decide) rfl ?_
  intro p e s m args below meth c s₁ B hml hv
  obtain ⟨rfl, rfl, hO⟩ := hv
  have hown : s.vm.findClass "BeginningsFilter" = some m.cls := findClass_of_methodNamed B.named
  have hlocks := B.notSynchronized
  have hS : va_S (fun q : Nat => s.heap.size ≤ q) s.heap s.heap [] := va_S.rf
  have hl := lv_entry ([.int (nI k)]) (n := 1) (Nat.le_of_ble_eq_true rfl)
  rw [lg_entry_eq]
  generalize (lg_sl ([.int (nI k)]) ++ List.replicate (1 - (lg_sl ([.int (nI k)])).length) Slot.unset).toArray = ls at hl ⊢
  have hl : lv_has ls 1 [(0, .int (nI k))] := hl
  refine lv_iload_n B.exec B.bytes (bf_dk dd_X8_rowName 0 rfl).1 rfl (lv_at hl 0 rfl) ?_
  match k, hk with
  | 0, _ =>
    refine lv_tableIn (tgt := 36) B.exec B.bytes (bf_dk dd_X8_rowName 1 rfl).1 (by decide) (by decide) rfl (by decide) ?_
    refine bf_ldcwS B.exec B.bytes hown (hO 4 (by decide)) (bf_dk dd_X8_rowName 2 rfl).1 ?_
    exact W.aret (v := .ref (adK 4)) B.exec B.bytes B.returns (Or.inl ⟨_, rfl⟩) (Or.inr ⟨_, rfl⟩) (fun t ht hW => ⟨⟨(), adK 4, rfl, trivial, rfl⟩, hS.F ht⟩) hS.2.2 (bf_dk dd_X8_rowName 3 rfl).1 hlocks
  | 1, _ =>
    refine lv_tableIn (tgt := 40) B.exec B.bytes (bf_dk dd_X8_rowName 1 rfl).1 (by decide) (by decide) rfl (by decide) ?_
    refine bf_ldcwS B.exec B.bytes hown (hO 5 (by decide)) (bf_dk dd_X8_rowName 4 rfl).1 ?_
    exact W.aret (v := .ref (adK 5)) B.exec B.bytes B.returns (Or.inl ⟨_, rfl⟩) (Or.inr ⟨_, rfl⟩) (fun t ht hW => ⟨⟨(), adK 5, rfl, trivial, rfl⟩, hS.F ht⟩) hS.2.2 (bf_dk dd_X8_rowName 5 rfl).1 hlocks
  | 2, _ =>
    refine lv_tableIn (tgt := 44) B.exec B.bytes (bf_dk dd_X8_rowName 1 rfl).1 (by decide) (by decide) rfl (by decide) ?_
    refine bf_ldcwS B.exec B.bytes hown (hO 6 (by decide)) (bf_dk dd_X8_rowName 6 rfl).1 ?_
    exact W.aret (v := .ref (adK 6)) B.exec B.bytes B.returns (Or.inl ⟨_, rfl⟩) (Or.inr ⟨_, rfl⟩) (fun t ht hW => ⟨⟨(), adK 6, rfl, trivial, rfl⟩, hS.F ht⟩) hS.2.2 (bf_dk dd_X8_rowName 7 rfl).1 hlocks
  | 3, _ =>
    refine lv_tableIn (tgt := 48) B.exec B.bytes (bf_dk dd_X8_rowName 1 rfl).1 (by decide) (by decide) rfl (by decide) ?_
    refine bf_ldcwS B.exec B.bytes hown (hO 7 (by decide)) (bf_dk dd_X8_rowName 8 rfl).1 ?_
    exact W.aret (v := .ref (adK 7)) B.exec B.bytes B.returns (Or.inl ⟨_, rfl⟩) (Or.inr ⟨_, rfl⟩) (fun t ht hW => ⟨⟨(), adK 7, rfl, trivial, rfl⟩, hS.F ht⟩) hS.2.2 (bf_dk dd_X8_rowName 9 rfl).1 hlocks
  | 4, _ =>
    refine lv_tableIn (tgt := 52) B.exec B.bytes (bf_dk dd_X8_rowName 1 rfl).1 (by decide) (by decide) rfl (by decide) ?_
    refine bf_ldcwS B.exec B.bytes hown (hO 8 (by decide)) (bf_dk dd_X8_rowName 10 rfl).1 ?_
    exact W.aret (v := .ref (adK 8)) B.exec B.bytes B.returns (Or.inl ⟨_, rfl⟩) (Or.inr ⟨_, rfl⟩) (fun t ht hW => ⟨⟨(), adK 8, rfl, trivial, rfl⟩, hS.F ht⟩) hS.2.2 (bf_dk dd_X8_rowName 11 rfl).1 hlocks
  | 5, _ =>
    refine lv_tableOut (tgt := 56) B.exec B.bytes (bf_dk dd_X8_rowName 1 rfl).1 (by decide) (by decide) ?_
    refine bf_ldcwS B.exec B.bytes hown (hO 9 (by decide)) (bf_dk dd_X8_rowName 12 rfl).1 ?_
    exact W.aret (v := .ref (adK 9)) B.exec B.bytes B.returns (Or.inl ⟨_, rfl⟩) (Or.inr ⟨_, rfl⟩) (fun t ht hW => ⟨⟨(), adK 9, rfl, trivial, rfl⟩, hS.F ht⟩) hS.2.2 (bf_dk dd_X8_rowName 13 rfl).1 hlocks
  | k + 6, h => omega
theorem bs_strlen {X : bf_X} {Q : State → Prop} {nL : Nat} {ret : Option FieldType} {cc : ByteArray} (C : bf_C X RX4 cc nL ret) {fr0 lo0 : Nat} (hR : bf_Rm X fr0 lo0) {adK adV : Nat → Nat} (hO : bf_O adK adV (xA X) (xs X) (xs X).heap) {k : Nat} (hk : k < 10) (ha : xal X 1000 = adK k) {pc pc2 : Nat} {lv : bf_V} {st : List Value} {w : bf_W} (hd : bf_D cc pc (.invokevirtual 19) 3 pc2) (hfr : 1 + 1 ≤ fr0) (hlo : 8 + (1 + 11) + 20 ≤ lo0) (hroom : (st.map fun v => v.category).sum ≤ 8) (kk : bf_A X Q nL pc2 lv (.int (nI (bf_slen.getD k 0)) :: st) w) : bf_A X Q nL pc lv (.ref 1000 :: st) w := by
  intro H locs ls hP hD hS hL
  obtain ⟨hd, rfl⟩ := hd
  have hRR : (bf_rm 1 20).frames + 1 ≤ (xR X).frames ∧ 8 + (1 + 11) + (bf_rm 1 20).locals ≤ (xR X).locals := ⟨Nat.le_trans hfr hR.1, Nat.le_trans hlo hR.2.1⟩
  have hrun := va_runV (As := []) (b := adK k) (rest := st.map (bf_cv (xal X))) (locs := locs) (e := xe X) (below := xb X) (meth := xh X) (l := xl X) (g := F0 (xm X) pc ls (.ref (adK k) :: st.map (bf_cv (xal X)))) ⟨C.1, C.2.1, C.2.2.1, C.2.2.2.1, C.2.2.2.2.1⟩ (cj_length_c (xl X) adK adV k hk H.size) ⟨callB_of 0 C.2.2.2.2.1 (bf_goodIn mj_length.1) rfl rfl rfl (C.2.2.2.2.1 _ mj_length.1.2.1) (C.2.2.2.2.1 _ lj_len) mj_length.1.2.2 hRR, C.2.2.2.2.1 _ mj_length.2.1, C.2.2.2.2.1 _ mj_length.2.2⟩ ⟨bf_PO_blind _ _ _ _, vk_recv hO.1 hk hS, fun U hU hW => ⟨rfl, by rw [hU], by rw [hU]; exact hO.at hS (fun q h => C.2.2.2.2.2.2.2.2.2 q (Nat.le_trans hS.1 h)) hW.alike⟩⟩ rfl rfl hL.1 rfl (lv_room (by rw [bf_rest]; exact hroom)) hd ⟨hR.2.2.1, hR.2.2.2⟩
  have hg := va_calli hrun hS (fun q hq h => absurd hq (Nat.not_lt.mpr h)) (fun q h => C.2.2.2.2.2.2.2.2.2 q (Nat.le_trans hS.1 h)) (Q := Q) (fun r u t H1 locs1 ht hvm hw hB hz1 hk1 hS1 => by
    subst hw
    exact kk H1 locs1 ls (fun k q hq => (hP k q hq).kept (hk1 q.1 (hP k q hq).lt (Nat.not_le.mpr (hP k q hq).lt))) hD hS1 hL)
  rw [← ha] at hg
  exact hg
theorem bs_strch {X : bf_X} {Q : State → Prop} {nL : Nat} {ret : Option FieldType} {cc : ByteArray} (C : bf_C X RX4 cc nL ret) {fr0 lo0 : Nat} (hR : bf_Rm X fr0 lo0) {adK adV : Nat → Nat} (hO : bf_O adK adV (xA X) (xs X) (xs X).heap) {k : Nat} (hk : k < 10) {j : Nat} (hj : j < bf_slen.getD k 0) (ha : xal X 1000 = adK k) {pc pc2 : Nat} {lv : bf_V} {st : List Value} {w : bf_W} (hd : bf_D cc pc (.invokevirtual 25) 3 pc2) (hfr : 3 + 1 ≤ fr0) (hlo : 8 + (2 + 11) + 64 ≤ lo0) (hroom : (st.map fun v => v.category).sum ≤ 8) (kk : bf_A X Q nL pc2 lv (.int ((bf_sbyt.getD k []).getD j 0) :: st) w) : bf_A X Q nL pc lv (.int (nI j) :: .ref 1000 :: st) w := by
  intro H locs ls hP hD hS hL
  obtain ⟨hd, rfl⟩ := hd
  have hRR : (bf_rm 3 64).frames + 1 ≤ (xR X).frames ∧ 8 + (2 + 11) + (bf_rm 3 64).locals ≤ (xR X).locals := ⟨Nat.le_trans hfr hR.1, Nat.le_trans hlo hR.2.1⟩
  have hrun := va_runV (As := [.int (nI j)]) (b := adK k) (rest := st.map (bf_cv (xal X))) (locs := locs) (e := xe X) (below := xb X) (meth := xh X) (l := xl X) (g := F0 (xm X) pc ls (.int (nI j) :: .ref (adK k) :: st.map (bf_cv (xal X)))) ⟨C.1, C.2.1, C.2.2.1, C.2.2.2.1, C.2.2.2.2.1⟩ (cj_charAt_c (xl X) adK adV k hk j hj H.size) ⟨callB_of 1 C.2.2.2.2.1 (bf_goodIn mj_charAt.1) rfl rfl rfl (C.2.2.2.2.1 _ mj_charAt.1.2.1) (C.2.2.2.2.1 _ lj_ch) mj_charAt.1.2.2 hRR, C.2.2.2.2.1 _ mj_charAt.2.1, C.2.2.2.2.1 _ mj_charAt.2.2⟩ ⟨bf_PO_blind _ _ _ _, vk_recv hO.1 hk hS, fun U hU hW => ⟨rfl, by rw [hU], by rw [hU]; exact hO.at hS (fun q h => C.2.2.2.2.2.2.2.2.2 q (Nat.le_trans hS.1 h)) hW.alike⟩⟩ rfl rfl hL.1 rfl (lv_room (by rw [bf_rest]; exact hroom)) hd ⟨hR.2.2.1, hR.2.2.2⟩
  have hg := va_calli hrun hS (fun q hq h => absurd hq (Nat.not_lt.mpr h)) (fun q h => C.2.2.2.2.2.2.2.2.2 q (Nat.le_trans hS.1 h)) (Q := Q) (fun r u t H1 locs1 ht hvm hw hB hz1 hk1 hS1 => by
    subst hw
    exact kk H1 locs1 ls (fun k q hq => (hP k q hq).kept (hk1 q.1 (hP k q hq).lt (Nat.not_le.mpr (hP k q hq).lt))) hD hS1 hL)
  rw [← ha] at hg
  exact hg
theorem wp_at_lt {N j : Nat} {f : Nat → Int32} {Q : Int32 → Prop} (hj : j < N) (hN : N < 2 ^ 31) (h : Q (f j)) : wp_X8_at N f (nI j) Q := by
  unfold wp_X8_at
  refine ⟨fun c => absurd c (nI_pos (by omega)), fun _ => ⟨fun c => absurd c (nI_ge hj hN), fun _ => ⟨vp_in_nI hj hN, ?_⟩⟩⟩
  rw [nI_clamp (by omega)]
  exact h
theorem bf_sl6 : ∀ k, k < 10 → bf_slen.getD k 0 ≤ 6 := by decide

theorem c_X4_spells (l : Launch) (dC : Nat → ClassId) (dI : Nat → Nat → Nat) (ac : Nat → ClassId) (al adK adV : Nat → Nat) (S : bT4) (k : Nat) (hk : k < 10) (h1000 : al 1000 = adK k) (sz : Nat) : Met l yX4_spells (bf_ws yX4_spells cX4_spells 3 (some .boolean)) (bf_rm 4 85) (fun v U => bf_Pre dC dI ac al sz [.ref 0, .ref 1000] (bW4 S) v U ∧ bf_O adK adV (bf_fr ac al (bW4 S) sz) U U.heap) (bf_Ki dC dI ac al bW4 (fun r u => u = S ∧ ((r = 1 ∧ bf_sp k S) ∨ (r = 0 ∧ ¬ bf_sp k S))) (bf_fr ac al (bW4 S) sz)) 0 0 (bf_fr ac al (bW4 S) sz) := by
  refine Met.ofW (cc := cX4_spells) (maxL := 3) (ret := (some .boolean)) (by decide) rfl ?_
  intro p e s m args below meth c s₁ B hml hv
  obtain ⟨⟨rfl, rfl, hP, hK, hD0, hN⟩, hO⟩ := hv
  have hts := atoms_spec (ws := bf_ws yX4_spells cX4_spells 3 (some .boolean)) B.pre
  have hD := hD0.self (sz := s.heap.size)
  obtain ⟨X, hXe⟩ : ∃ X : bf_X, X = (p, l, e, bf_rm 4 85, s, m, (([.ref 0, .ref 1000] : List Value).map (bf_cv al)).toArray, below, meth, c, dC, dI, ac, al, va_A (bf_cw ac al (bW4 S)) s.heap.size, 0, 0) := ⟨_, rfl⟩
  have C : bf_C X RX4 cX4_spells 3 (some .boolean) := by
    subst hXe
    exact ⟨B.exec, B.bytes, hml, findClass_of_methodNamed B.named, fun q hq => hts q (List.mem_cons_of_mem _ hq), hK, hN, B.returns, B.notSynchronized, fun q h => Or.inr h⟩
  have hR : bf_Rm X 4 85 := by subst hXe; exact ⟨Nat.le_refl _, Nat.le_refl _, Nat.le_refl _, Nat.le_refl _⟩
  have hOX : bf_O adK adV (xA X) (xs X) (xs X).heap := by subst hXe; exact hO
  have haX : xal X 1000 = adK k := by subst hXe; exact h1000
  have hA : bf_A X (bf_Zi X bW4 (fun r u => u = S ∧ ((r = 1 ∧ bf_sp k S) ∨ (r = 0 ∧ ¬ bf_sp k S)))) 3 0 [some (.ref 0), some (.ref 1000), none] [] (bW4 S) := by
    have h6 := bf_sl6 k hk
    refine bs_aload_n C (bf_dk dd_X4_spells 0 rfl) rfl ?_
    refine bs_strlen C hR hOX hk haX (bf_dk dd_X4_spells 1 rfl) (Nat.le_of_ble_eq_true rfl) (Nat.le_of_ble_eq_true rfl) (Nat.le_of_ble_eq_true rfl) ?_
    refine bs_aload_n C (bf_dk dd_X4_spells 2 rfl) rfl ?_
    refine bs_get C (bf_dk dd_X4_spells 3 rfl) cl_4 in_4 1 (Nat.le_of_ble_eq_true rfl) rfl f_4_15 (ge_bW4_0 S) rfl ?_
    refine bs_icmp_eq C (bf_dk dd_X4_spells 4 rfl) (tgt := 13) rfl (fun hc => ?_) (fun hc => ?_)
    · refine bs_iconst C (bf_dk dd_X4_spells 7 rfl) (0 : Int32) (by decide) ?_
      refine bs_istore_n C (bf_dk dd_X4_spells 8 rfl) rfl (Nat.le_of_ble_eq_true rfl) (Nat.le_of_ble_eq_true rfl) (lv2 := [some (.ref 0), some (.ref 1000), some (.int (nI 0))]) rfl ?_
      have key : ∀ (d j : Nat), j + d = bf_slen.getD k 0 → (∀ i, i < j → b4g_octets S i = (bf_sbyt.getD k []).getD i 0) → bf_A X (bf_Zi X bW4 (fun r u => u = S ∧ ((r = 1 ∧ bf_sp k S) ∨ (r = 0 ∧ ¬ bf_sp k S)))) 3 15 [some (.ref 0), some (.ref 1000), some (.int (nI j))] [] (bW4 S) := by
        intro d
        induction d with
        | zero =>
          intro j hj hi
          refine bs_iload_n C (bf_dk dd_X4_spells 9 rfl) rfl ?_
          refine bs_aload_n C (bf_dk dd_X4_spells 10 rfl) rfl ?_
          refine bs_get C (bf_dk dd_X4_spells 11 rfl) cl_4 in_4 1 (Nat.le_of_ble_eq_true rfl) rfl f_4_15 (ge_bW4_0 S) rfl ?_
          refine bs_icmp_ge C (bf_dk dd_X4_spells 12 rfl) (tgt := 47) rfl (fun _ => ?_) (fun c2 => absurd (by rw [← hc]; exact nI_le (by omega) (by omega)) c2)
          refine bs_iconst C (bf_dk dd_X4_spells 25 rfl) (1 : Int32) (by decide) ?_
          exact bs_zret (u := S) C (bf_dk dd_X4_spells 26 rfl) rfl rfl ⟨rfl, Or.inl ⟨rfl, hc.symm, fun i hi2 => hi i (by omega)⟩⟩
        | succ d ih =>
          intro j hj hi
          have hjl : j < bf_slen.getD k 0 := by omega
          refine bs_iload_n C (bf_dk dd_X4_spells 9 rfl) rfl ?_
          refine bs_aload_n C (bf_dk dd_X4_spells 10 rfl) rfl ?_
          refine bs_get C (bf_dk dd_X4_spells 11 rfl) cl_4 in_4 1 (Nat.le_of_ble_eq_true rfl) rfl f_4_15 (ge_bW4_0 S) rfl ?_
          refine bs_icmp_ge C (bf_dk dd_X4_spells 12 rfl) (tgt := 47) rfl (fun c2 => absurd c2 (by rw [← hc]; exact nI_ge hjl (by omega))) (fun _ => ?_)
          refine bs_aload_n C (bf_dk dd_X4_spells 13 rfl) rfl ?_
          refine bs_iload_n C (bf_dk dd_X4_spells 14 rfl) rfl ?_
          refine bs_strch C hR hOX hk hjl haX (bf_dk dd_X4_spells 15 rfl) (Nat.le_of_ble_eq_true rfl) (Nat.le_of_ble_eq_true rfl) (Nat.le_of_ble_eq_true rfl) ?_
          refine bs_aload_n C (bf_dk dd_X4_spells 16 rfl) rfl ?_
          refine bs_get C (bf_dk dd_X4_spells 17 rfl) cl_4 in_4 0 (Nat.le_of_ble_eq_true rfl) rfl f_4_9 (ge_bW4_0 S) rfl ?_
          refine bs_iload_n C (bf_dk dd_X4_spells 18 rfl) rfl ?_
          refine bs_pureSN_i (ps := [1]) (w := (bW4 S)) C hR (c_X8_at _ _ _ _ _ 160 (b4g_octets S) (nI j) (fun r => r = b4g_octets S j) (wp_at_lt (by omega) (by decide) rfl)) my_X8_at m_4_29 rfl (Nat.le_of_ble_eq_true rfl) (Nat.le_of_ble_eq_true rfl) (su_bW4_1_bWan160 S) rfl (st := [.int ((bf_sbyt.getD k []).getD j 0)]) (Nat.le_of_ble_eq_true rfl) (bf_dk dd_X4_spells 19 rfl) rfl (fun _ => rfl) (fun r hr => ?_)
          subst hr
          refine bs_icmp_eq C (bf_dk dd_X4_spells 20 rfl) (tgt := 41) rfl (fun c3 => ?_) (fun c3 => ?_)
          · refine bs_iinc C (bf_dk dd_X4_spells 23 rfl) (nI (j + 1)) rfl (nI_succ j).symm (Nat.le_of_ble_eq_true rfl) (Nat.le_of_ble_eq_true rfl) (lv2 := [some (.ref 0), some (.ref 1000), some (.int (nI (j + 1)))]) rfl ?_
            refine bs_goto C (bf_dk dd_X4_spells 24 rfl) (tgt := 15) rfl ?_
            refine ih (j + 1) (by omega) (fun i hi2 => ?_)
            rcases Nat.lt_or_ge i j with h | h
            · exact hi i h
            · have e : i = j := by omega
              rw [e]; exact c3.symm
          · refine bs_iconst C (bf_dk dd_X4_spells 21 rfl) (0 : Int32) (by decide) ?_
            exact bs_zret (u := S) C (bf_dk dd_X4_spells 22 rfl) rfl rfl ⟨rfl, Or.inr ⟨rfl, fun h => c3 (h.2 j hjl).symm⟩⟩
      exact key (bf_slen.getD k 0) 0 (by omega) (fun i hi => absurd hi (by omega))
    · refine bs_iconst C (bf_dk dd_X4_spells 5 rfl) (0 : Int32) (by decide) ?_
      exact bs_zret (u := S) C (bf_dk dd_X4_spells 6 rfl) rfl rfl ⟨rfl, Or.inr ⟨rfl, fun h => hc h.1.symm⟩⟩
  subst hXe
  rw [lg_entry_eq]
  refine hA s.heap [] _ hP hD va_S.rf ?_
  have hsl := bf_ent_sl al [.ref 0, .ref 1000]
  have he := lv_entry (([.ref 0, .ref 1000] : List Value).map (bf_cv al)) (n := 3) (Nat.le_of_ble_eq_true rfl)
  refine ⟨he.1, he.2.1, fun i v hi => ?_⟩
  match i, hi with
  | 0, hi => cases hi; exact he.2.2 (0, .ref (al 0)) List.mem_cons_self
  | 1, hi => cases hi; exact he.2.2 (1, .ref (al 1000)) (List.mem_cons_of_mem _ List.mem_cons_self)
  | 2, hi => cases hi
  | i + 3, hi => simp at hi

/-- at() on an array that lies outside every world -/
theorem c_at_ext (l : Launch) (t sz : Nat) (f : List Int32) (i : Int32) : Met l yX8_at (bf_ws yX8_at cX8_at 2 (some .int)) (bf_rm 0 0) (fun v U => v = ([.ref t, .int i] : List Value).toArray ∧ U.heap.size = sz ∧ va_T .int t 6 (fun j => .int (f.getD j 0)) (fun q => sz ≤ q) U U.heap) (va_Qi (fun (r : Int32) (_ : Unit) => r = bf_at6 f i) (fun _ _ => True) (fun q => sz ≤ q)) 0 0 (fun q => sz ≤ q) := by
  refine Met.ofW (cc := cX8_at) (maxL := 2) (ret := (some .int)) (by decide) rfl ?_
  intro p e s m args below meth c s₁ B hml hv
  obtain ⟨rfl, rfl, hT⟩ := hv
  have hx := B.exec
  have hb := B.bytes
  have hr := B.returns
  have hlocks := B.notSynchronized
  have hS : va_S (fun q : Nat => s.heap.size ≤ q) s.heap s.heap [] := va_S.rf
  have hl := lv_entry ([.ref t, .int i]) (n := 2) (Nat.le_of_ble_eq_true rfl)
  rw [lg_entry_eq]
  generalize (lg_sl ([.ref t, .int i]) ++ List.replicate (2 - (lg_sl ([.ref t, .int i])).length) Slot.unset).toArray = ls at hl ⊢
  have hl : lv_has ls 2 [(0, .ref t), (1, .int i)] := hl
  have hend : ∀ v : Int32, v = bf_at6 f i → W p l e (headSpec (bf_ws yX8_at cX8_at 2 (some .int)) (bf_rm 0 0)).room s m ([.ref t, .int i] : List Value).toArray below meth c s.heap [] 0 0 (MQ below (va_Qi (fun (r : Int32) (_ : Unit) => r = bf_at6 f i) (fun _ _ => True) (fun q => s.heap.size ≤ q)) ([.ref t, .int i] : List Value).toArray s 0 0 (fun q => s.heap.size ≤ q)) (F0 m 17 ls [.int v]) := by
    intro v hv
    exact W.iret (v := v) hx hb hr (fun t2 ht hW => ⟨⟨v, (), rfl, hv, trivial⟩, hS.F ht⟩) hS.2.2 (bf_dk dd_X8_at 11 rfl).1
  refine lv_iload_n hx hb (bf_dk dd_X8_at 0 rfl).1 rfl (lv_at hl 1 rfl) ?_
  refine lv_if_lt (tgt := 16) hx hb (bf_dk dd_X8_at 1 rfl).1 (by decide) (fun c1 => ?_) (fun c1 => ?_)
  · refine lv_iconst (v := -1) hx hb (bf_dk dd_X8_at 10 rfl).1 (by decide) ?_
    exact hend (-1) (by unfold bf_at6; rw [if_pos c1])
  · refine lv_iload_n hx hb (bf_dk dd_X8_at 2 rfl).1 rfl (lv_at hl 1 rfl) ?_
    refine lv_aload_n hx hb (bf_dk dd_X8_at 3 rfl).1 rfl (lv_at hl 0 rfl) ?_
    refine va_tlen (v := 6) hx hb hT hS (by decide) (bf_dk dd_X8_at 4 rfl).1 ?_
    refine lv_icmp_ge (tgt := 16) hx hb (bf_dk dd_X8_at 5 rfl).1 (by decide) (fun c2 => ?_) (fun c2 => ?_)
    · refine lv_iconst (v := -1) hx hb (bf_dk dd_X8_at 10 rfl).1 (by decide) ?_
      exact hend (-1) (by unfold bf_at6; rw [if_neg c1, if_pos c2])
    · refine lv_aload_n hx hb (bf_dk dd_X8_at 6 rfl).1 rfl (lv_at hl 0 rfl) ?_
      refine lv_iload_n hx hb (bf_dk dd_X8_at 7 rfl).1 rfl (lv_at hl 1 rfl) ?_
      have hin : vp_in i 6 := by
        intro h
        rcases h with h | h
        · exact c1 h
        · apply c2
          have h0 : (0 : Int) ≤ i.toInt := by
            have := Int32.not_lt.mp c1
            simpa using Int32.le_iff_toInt_le.mp this
          have h1 : (i.toNatClampNeg : Int) = i.toInt := Int.toNat_of_nonneg h0
          rw [Int32.le_iff_toInt_le]
          show (6 : Int) ≤ i.toInt
          omega
      refine va_ti hx hb hT hS hin rfl (bf_dk dd_X8_at 8 rfl).1 ?_
      refine lv_goto (tgt := 17) hx hb (bf_dk dd_X8_at 9 rfl).1 (by decide) ?_
      exact hend _ (by unfold bf_at6; rw [if_neg c1, if_neg c2])
/-- getstatic; iload_1; at(..) -/
theorem bs_atst {X : bf_X} {Q : State → Prop} {nL : Nat} {ret : Option FieldType} {cc : ByteArray} (C : bf_C X RX8 cc nL ret) {fr0 lo0 : Nat} (hR : bf_Rm X fr0 lo0) {nm : String} {f : List Int32} (hG : bf_Ga nm f (xA X) (xs X) (xs X).heap) {i : Int32} {k pc pc1 pc2 pc3 : Nat} {lv : bf_V} {st : List Value} {w : bf_W} (hd0 : bf_D cc pc (.getstatic k) 3 pc1) (hd1 : bf_D cc pc1 (.iload_n 1) 1 pc2) (hd2 : bf_D cc pc2 (.invokestatic 115) 3 pc3) (hl1 : lv[1]? = some (some (.int i))) (hlk : Cond.fieldLink RX8 k "BeginningsFilter" nm "[I" ∈ lw_good) (hfr : 1 ≤ fr0) (hlo : 21 ≤ lo0) (hroom : (st.map fun v => v.category).sum ≤ 8) (kk : bf_A X Q nL pc3 lv (.int (bf_at6 f i) :: st) w) : bf_A X Q nL pc lv st w := by
  intro H locs ls hP hD hS hL
  obtain ⟨hd0, rfl⟩ := hd0
  obtain ⟨hd1, rfl⟩ := hd1
  obtain ⟨hd2, rfl⟩ := hd2
  obtain ⟨t, hZ, hT⟩ := hG
  have hRR : (bf_rm 0 0).frames + 1 ≤ (xR X).frames ∧ 8 + (2 + 11) + (bf_rm 0 0).locals ≤ (xR X).locals := ⟨Nat.le_trans hfr hR.1, Nat.le_trans hlo hR.2.1⟩
  refine va_gets (ref := "BeginningsFilter") C.1 C.2.1 hZ hS C.2.2.2.1 (C.2.2.2.2.1 _ hlk) (fun _ h => h) hd0 ?_
  refine lv_iload_n C.1 C.2.1 hd1 rfl (hL.2.2 1 _ hl1) ?_
  have hTk := hT.kept hS.2.1
  have hT2 : va_T .int t 6 (fun j => .int (f.getD j 0)) (fun q => H.size ≤ q) (xs X) H := by
    obtain ⟨cell, h1, h2, h3, h4, h5, h6, h7⟩ := hTk
    exact ⟨cell, h1, h2, h3, h4, h5, h6, Nat.not_le.mpr (Array.getElem?_eq_some_iff.mp h1).1⟩
  have hrun := va_runS (As := [.ref t, .int i]) (rest := st.map (bf_cv (xal X))) (locs := locs) (e := xe X) (below := xb X) (meth := xh X) (g := F0 (xm X) (pc + 3 + 1) ls (.int i :: .ref t :: st.map (bf_cv (xal X)))) (l := xl X) ⟨C.1, C.2.1, C.2.2.1, C.2.2.2.1, C.2.2.2.2.1⟩ (c_at_ext (xl X) t H.size f i) ⟨callB_of 2 C.2.2.2.2.1 (bf_goodIn my_X8_at.1) rfl rfl rfl (C.2.2.2.2.1 _ my_X8_at.1.2.1) (C.2.2.2.2.1 _ m_8_115) my_X8_at.1.2.2 hRR, C.2.2.2.2.1 _ my_X8_at.2⟩ ⟨fun a U g mk h => ⟨h.1, h.2.1, h.2.2.moved (Vm.Alike.refl U.vm)⟩, fun U hU hW => ⟨rfl, by rw [hU], by rw [hU]; exact hT2.moved hW.alike⟩⟩ rfl rfl hL.1 rfl (lv_room (by rw [bf_rest]; exact hroom)) hd2 ⟨hR.2.2.1, hR.2.2.2⟩
  refine va_calli hrun hS (fun q hq h => absurd hq (Nat.not_lt.mpr h)) (fun q h => C.2.2.2.2.2.2.2.2.2 q (Nat.le_trans hS.1 h)) (fun r u t2 H1 locs1 ht hvm hw hB hz1 hk1 hS1 => ?_)
  subst hw
  exact kk H1 locs1 ls (fun k q hq => (hP k q hq).kept (hk1 q.1 (hP k q hq).lt (Nat.not_le.mpr (hP k q hq).lt))) hD hS1 hL
theorem c_X8_set (l : Launch) (dC : Nat → ClassId) (dI : Nat → Nat → Nat) (ac : Nat → ClassId) (al : Nat → Nat) (S : bT8) (a1 : Int32) (a2 : Int32) (Q : Int32 → bT8 → Prop) (h : wp_X8_set S a1 a2 Q) : bf_MG l yX8_set cX8_set 3 (some .boolean) 1 21 dC dI ac al [.ref 0, .int a1, .int a2] (bW8 S) (bf_Ki dC dI ac al bW8 Q) := by
  refine bf_startG [some (.ref 0), some (.int a1), some (.int a2)] (by decide) (Nat.le_of_ble_eq_true rfl) (bf_s1 (bf_s1 (bf_s1 bf_s0))) ?_
  intro X hl C hR e1 e2 e3 e4 hG
  subst e1; subst e2; subst e3; subst e4
  have hF : (a1 < 0 ∨ (6 : Int32) ≤ a1 ∨ a2 < bf_at6 bf_least a1 ∨ bf_at6 bf_most a1 < a2) → bf_A X (bf_Q X (bf_Ki (xdC X) (xdI X) (xac X) (xal X) bW8 Q)) 3 32 [some (.ref 0), some (.int a1), some (.int a2)] [] (bW8 S) := by
    intro hc
    refine bs_iconst C (bf_dk dd_X8_set 15 rfl) (0 : Int32) (by decide) ?_
    exact bs_zret (u := S) C (bf_dk dd_X8_set 16 rfl) rfl rfl (h.1 hc)
  refine bs_iload_n C (bf_dk dd_X8_set 0 rfl) rfl ?_
  refine bs_if_lt C (bf_dk dd_X8_set 1 rfl) (tgt := 32) rfl (fun c1 => hF (Or.inl c1)) (fun c1 => ?_)
  refine bs_iload_n C (bf_dk dd_X8_set 2 rfl) rfl ?_
  refine bs_bipush C (bf_dk dd_X8_set 3 rfl) (6 : Int32) (by decide) ?_
  refine bs_icmp_ge C (bf_dk dd_X8_set 4 rfl) (tgt := 32) rfl (fun c2 => hF (Or.inr (Or.inl c2))) (fun c2 => ?_)
  refine bs_iload_n C (bf_dk dd_X8_set 5 rfl) rfl ?_
  refine bs_atst C hR hG.2.1 (bf_dk dd_X8_set 6 rfl) (bf_dk dd_X8_set 7 rfl) (bf_dk dd_X8_set 8 rfl) rfl f_8_111 (Nat.le_of_ble_eq_true rfl) (Nat.le_of_ble_eq_true rfl) (Nat.le_of_ble_eq_true rfl) ?_
  refine bs_icmp_lt C (bf_dk dd_X8_set 9 rfl) (tgt := 32) rfl (fun c3 => hF (Or.inr (Or.inr (Or.inl c3)))) (fun c3 => ?_)
  refine bs_iload_n C (bf_dk dd_X8_set 10 rfl) rfl ?_
  refine bs_atst C hR hG.2.2.1 (bf_dk dd_X8_set 11 rfl) (bf_dk dd_X8_set 12 rfl) (bf_dk dd_X8_set 13 rfl) rfl f_8_119 (Nat.le_of_ble_eq_true rfl) (Nat.le_of_ble_eq_true rfl) (Nat.le_of_ble_eq_true rfl) ?_
  refine bs_icmp_le C (bf_dk dd_X8_set 14 rfl) (tgt := 34) rfl (fun c4 => ?_) (fun c4 => hF (Or.inr (Or.inr (Or.inr (Int32.not_le.mp c4)))))
  obtain ⟨hin, hq⟩ := h.2 c1 c2 c3 (Int32.not_lt.mpr c4)
  refine bs_aload_n C (bf_dk dd_X8_set 17 rfl) rfl ?_
  refine bs_get C (bf_dk dd_X8_set 18 rfl) cl_8 in_8 0 (Nat.le_of_ble_eq_true rfl) rfl f_8_12 (ge_bW8_0 S) rfl ?_
  refine bs_get C (bf_dk dd_X8_set 19 rfl) cl_2 in_2 0 (Nat.le_of_ble_eq_true rfl) rfl f_8_87 (ge_bW8_1 S) rfl ?_
  refine bs_get C (bf_dk dd_X8_set 20 rfl) cl_3 in_3 1 (Nat.le_of_ble_eq_true rfl) rfl f_8_122 (ge_bW8_2 S) rfl ?_
  refine bs_iload_n C (bf_dk dd_X8_set 21 rfl) rfl ?_
  refine bs_iload_n C (bf_dk dd_X8_set 22 rfl) rfl ?_
  refine bs_iast C (bf_dk dd_X8_set 23 rfl) (ge_bW8_6 S) hin (ar_bW8_6 S _) ?_
  refine bs_iconst C (bf_dk dd_X8_set 24 rfl) (1 : Int32) (by decide) ?_
  exact bs_zret (u := (b8s_now S (b2s_told (b8g_now S) (b3s_values (b2g_told (b8g_now S)) (upd (b3g_values (b2g_told (b8g_now S))) a1.toNatClampNeg a2))))) C (bf_dk dd_X8_set 25 rfl) rfl rfl (hq _ rfl)
theorem bf_is_zero (lo : Nat) (T : bT4) : bf_is lo 0 T (-1) := Or.inr ⟨rfl, fun k hk => absurd hk (by omega)⟩
theorem bf_is_yes {lo k : Nat} {T : bT4} (h : bf_sp (lo + k) T) : bf_is lo (k + 1) T (nI k) := Or.inl ⟨k, by omega, rfl, h, fun j h1 h2 => absurd h2 (by omega)⟩
theorem bf_is_no {lo k : Nat} {T : bT4} {r : Int32} (hi : bf_is lo k T r) (h : ¬ bf_sp (lo + k) T) : bf_is lo (k + 1) T r := by
  rcases hi with ⟨i, h1, h2, h3, h4⟩ | ⟨h1, h2⟩
  · refine Or.inl ⟨i, by omega, h2, h3, fun j g1 g2 => ?_⟩
    rcases Nat.lt_or_ge j k with q | q
    · exact h4 j g1 q
    · have e : j = k := by omega
      rw [e]; exact h
  · refine Or.inr ⟨h1, fun j g => ?_⟩
    rcases Nat.lt_or_ge j k with q | q
    · exact h2 j q
    · have e : j = k := by omega
      rw [e]; exact h

theorem bs_sp_modeName {X : bf_X} {Q : State → Prop} {nL : Nat} {ret : Option FieldType} {cc : ByteArray} (C : bf_C X RX8 cc nL ret) {fr0 lo0 : Nat} (hR : bf_Rm X fr0 lo0) (hG : bf_G (xA X) (xs X) (xs X).heap) (S : bT8) {k : Nat} (hk : k < 4) {pc pc1 pc2 pc3 : Nat} {lv : bf_V} (hd0 : bf_D cc pc (.iload_n 2) 1 pc1) (hd1 : bf_D cc pc1 (.invokestatic 79) 3 pc2) (hd2 : bf_D cc pc2 (.invokevirtual 83) 3 pc3) (hl2 : lv[2]? = some (some (.int (nI k)))) (hfr : 4 + 1 ≤ fr0) (hlo : 8 + (3 + 11) + 85 ≤ lo0) (kk : ∀ r : Int32, ((r = 1 ∧ bf_sp (0 + k) (b8g_tape S)) ∨ (r = 0 ∧ ¬ bf_sp (0 + k) (b8g_tape S))) → bf_A X Q nL pc3 lv [.int r] (bW8 S)) : bf_A X Q nL pc lv [.ref 64] (bW8 S) := by
  intro H locs ls hP hD hS hL
  obtain ⟨hd0, rfl⟩ := hd0
  obtain ⟨hd1, rfl⟩ := hd1
  obtain ⟨hd2, rfl⟩ := hd2
  obtain ⟨-, -, -, ⟨adK, adV, hK1, hR1⟩, hz1, hz2⟩ := hG
  have hO : bf_O adK adV (xA X) (xs X) (xs X).heap := ⟨hK1, hz1, hz2⟩
  have hk10 : 0 + k < 10 := by omega
  have hRR0 : (bf_rm 0 0).frames + 1 ≤ (xR X).frames ∧ 8 + (1 + 11) + (bf_rm 0 0).locals ≤ (xR X).locals := ⟨Nat.le_trans (Nat.le_trans (Nat.le_of_ble_eq_true rfl) hfr) hR.1, Nat.le_trans (Nat.le_trans (Nat.le_of_ble_eq_true rfl) hlo) hR.2.1⟩
  have hRR : (bf_rm 4 85).frames + 1 ≤ (xR X).frames ∧ 8 + (3 + 11) + (bf_rm 4 85).locals ≤ (xR X).locals := ⟨Nat.le_trans hfr hR.1, Nat.le_trans hlo hR.2.1⟩
  refine lv_iload_n C.1 C.2.1 hd0 rfl (hL.2.2 2 _ hl2) ?_
  refine va_callr (va_runS (As := [.int (nI k)]) (rest := [.ref (xal X 64)]) ⟨C.1, C.2.1, C.2.2.1, C.2.2.2.1, C.2.2.2.2.1⟩ (c_modeName (xl X) adK k hk H.size) ⟨callB_of 1 C.2.2.2.2.1 (bf_goodIn my_X8_modeName.1) rfl rfl rfl (C.2.2.2.2.1 _ my_X8_modeName.1.2.1) (C.2.2.2.2.1 _ m_8_79) my_X8_modeName.1.2.2 hRR0, C.2.2.2.2.1 _ my_X8_modeName.2⟩ ⟨bf_PN_blind _ _ _, fun U hU hW => ⟨rfl, by rw [hU], fun i hi => (hR1 i hi).warm hW⟩⟩ rfl rfl hL.1 rfl (lv_room (Nat.le_of_ble_eq_true rfl)) hd1 ⟨hR.2.2.1, hR.2.2.2⟩) hS (fun q hq h => absurd hq (Nat.not_lt.mpr h)) (fun q h => C.2.2.2.2.2.2.2.2.2 q (Nat.le_trans hS.1 h)) (fun u ra t H1 locs1 ht hvm hw hB hz1 hk1 hS1 => ?_)
  have hra : ra = adK (0 + k) := hB
  subst hra
  have hP1 : va_P (xdC X, xdI X) bf_cl (bf_cw (xac X) (xal X) (bW8 S)) H1 := fun k q hq => (hP k q hq).kept (hk1 q.1 (hP k q hq).lt (Nat.not_le.mpr (hP k q hq).lt))
  obtain ⟨al2, hal⟩ : ∃ al2 : Nat → Nat, al2 = fun j => if j = 1000 then adK (0 + k) else bf_alc (xal X) [64, 65] j := ⟨_, rfl⟩
  have h1000 : al2 1000 = adK (0 + k) := by rw [hal]; rfl
  have hcw : ∀ T : bT4, bf_cw (xac X) al2 (bW4 T) = bf_cw (xac X) (bf_alc (xal X) [64, 65]) (bW4 T) := fun T => by rw [hal]; rfl
  have hsub := su_bW8_64_bW4 S
  have hPc : va_P (xdC X, xdI X) bf_cl (bf_cw (xac X) al2 (bW4 (b8g_tape S))) H1 := by
    rw [hcw]
    exact hP1.sub [64, 65] (by
      have h := hsub.conc (ac := xac X) (al := xal X)
      have h2 : ([64, 65] : List Nat).filterMap (fun i => (bf_cw (xac X) (xal X) (bW8 S))[i]?) = (([64, 65] : List Nat).map (fun i => (bf_cw (xac X) (xal X) (bW8 S))[i]?)).filterMap id := by rw [List.filterMap_map]; rfl
      rw [h2, h, List.filterMap_map]
      simp [Function.comp_def])
  have hDc : va_D (xA X) (bf_cw (xac X) al2 (bW4 (b8g_tape S))) := by
    rw [hcw]
    exact hD.sub [64, 65] rfl hsub.conc
  have hFc : ∀ q, bf_fr (xac X) al2 (bW4 (b8g_tape S)) H1.size q → xA X q := by
    intro q hq
    rcases hq with ⟨j, e, hj⟩ | hq
    · exact hDc.2 j (q, e) hj
    · exact C.2.2.2.2.2.2.2.2.2 q (Nat.le_trans hS1.1 hq)
  have h64 : al2 0 = xal X 64 := by rw [hal]; rfl
  have hrun := va_runV (As := [.ref (adK (0 + k))]) (b := xal X 64) (rest := []) (locs := locs1) (e := xe X) (below := xb X) (meth := xh X) (l := xl X) (g := F0 (xm X) (pc + 1 + 3) ls [.ref (adK (0 + k)), .ref (xal X 64)]) ⟨C.1, C.2.1, C.2.2.1, C.2.2.2.1, C.2.2.2.2.1⟩ (c_X4_spells (xl X) (xdC X) (xdI X) (xac X) al2 adK adV (b8g_tape S) (0 + k) hk10 h1000 H1.size) ⟨callB_of 1 C.2.2.2.2.1 (bf_goodIn my_X4_spells.1) rfl rfl rfl (C.2.2.2.2.1 _ my_X4_spells.1.2.1) (C.2.2.2.2.1 _ m_8_83) my_X4_spells.1.2.2 hRR, C.2.2.2.2.1 _ my_X4_spells.2.1, C.2.2.2.2.1 _ my_X4_spells.2.2⟩ ⟨fun a U g mk h => ⟨bf_blind _ _ _ _ _ _ _ a U g mk h.1, h.2.1.moved (Vm.Alike.refl U.vm), h.2.2.1.moved (Vm.Alike.refl U.vm), h.2.2.2.moved (Vm.Alike.refl U.vm)⟩, by rw [← h64]; exact va_recv C.2.2.2.2.2.1 hPc cl_4 (bf_cw_some (ge_bW4_0 (b8g_tape S))), fun U hU hW => ⟨⟨by rw [← h1000, ← h64]; rfl, by rw [hU], by rw [hU]; exact hPc, va_K.moved hW.alike C.2.2.2.2.2.1, hDc.weaken (fun _ _ _ _ => trivial), C.2.2.2.2.2.2.1.warm hW⟩, by rw [hU]; exact hO.at hS1 hFc hW.alike⟩⟩ rfl rfl hL.1 rfl (lv_room (Nat.le_of_ble_eq_true rfl)) hd2 ⟨hR.2.2.1, hR.2.2.2⟩
  refine va_calli hrun hS1 (fun q _ h => hFc q h) hFc (fun r u2 t2 H2 locs2 ht2 hvm2 hw2 hB2 hz2 hk2 hS2 => ?_)
  obtain ⟨rfl, hw2⟩ := hw2
  obtain ⟨hP2, hK2, hD2⟩ := hB2
  rw [ht2, hcw] at hP2
  unfold bf_fr at hk2
  rw [hcw] at hk2
  have hP3 := bf_back hP1 hD hsub rfl rfl hk2 hP2
  rw [bf_put_self hsub] at hP3
  exact kk r hw2 H2 locs2 ls hP3 hD hS2 hL
theorem bs_sp_rowName {X : bf_X} {Q : State → Prop} {nL : Nat} {ret : Option FieldType} {cc : ByteArray} (C : bf_C X RX8 cc nL ret) {fr0 lo0 : Nat} (hR : bf_Rm X fr0 lo0) (hG : bf_G (xA X) (xs X) (xs X).heap) (S : bT8) {k : Nat} (hk : k < 6) {pc pc1 pc2 pc3 : Nat} {lv : bf_V} (hd0 : bf_D cc pc (.iload_n 2) 1 pc1) (hd1 : bf_D cc pc1 (.invokestatic 96) 3 pc2) (hd2 : bf_D cc pc2 (.invokevirtual 83) 3 pc3) (hl2 : lv[2]? = some (some (.int (nI k)))) (hfr : 4 + 1 ≤ fr0) (hlo : 8 + (3 + 11) + 85 ≤ lo0) (kk : ∀ r : Int32, ((r = 1 ∧ bf_sp (4 + k) (b8g_tape S)) ∨ (r = 0 ∧ ¬ bf_sp (4 + k) (b8g_tape S))) → bf_A X Q nL pc3 lv [.int r] (bW8 S)) : bf_A X Q nL pc lv [.ref 64] (bW8 S) := by
  intro H locs ls hP hD hS hL
  obtain ⟨hd0, rfl⟩ := hd0
  obtain ⟨hd1, rfl⟩ := hd1
  obtain ⟨hd2, rfl⟩ := hd2
  obtain ⟨-, -, -, ⟨adK, adV, hK1, hR1⟩, hz1, hz2⟩ := hG
  have hO : bf_O adK adV (xA X) (xs X) (xs X).heap := ⟨hK1, hz1, hz2⟩
  have hk10 : 4 + k < 10 := by omega
  have hRR0 : (bf_rm 0 0).frames + 1 ≤ (xR X).frames ∧ 8 + (1 + 11) + (bf_rm 0 0).locals ≤ (xR X).locals := ⟨Nat.le_trans (Nat.le_trans (Nat.le_of_ble_eq_true rfl) hfr) hR.1, Nat.le_trans (Nat.le_trans (Nat.le_of_ble_eq_true rfl) hlo) hR.2.1⟩
  have hRR : (bf_rm 4 85).frames + 1 ≤ (xR X).frames ∧ 8 + (3 + 11) + (bf_rm 4 85).locals ≤ (xR X).locals := ⟨Nat.le_trans hfr hR.1, Nat.le_trans hlo hR.2.1⟩
  refine lv_iload_n C.1 C.2.1 hd0 rfl (hL.2.2 2 _ hl2) ?_
  refine va_callr (va_runS (As := [.int (nI k)]) (rest := [.ref (xal X 64)]) ⟨C.1, C.2.1, C.2.2.1, C.2.2.2.1, C.2.2.2.2.1⟩ (c_rowName (xl X) adK k hk H.size) ⟨callB_of 1 C.2.2.2.2.1 (bf_goodIn my_X8_rowName.1) rfl rfl rfl (C.2.2.2.2.1 _ my_X8_rowName.1.2.1) (C.2.2.2.2.1 _ m_8_96) my_X8_rowName.1.2.2 hRR0, C.2.2.2.2.1 _ my_X8_rowName.2⟩ ⟨bf_PN_blind _ _ _, fun U hU hW => ⟨rfl, by rw [hU], fun i hi => (hR1 i hi).warm hW⟩⟩ rfl rfl hL.1 rfl (lv_room (Nat.le_of_ble_eq_true rfl)) hd1 ⟨hR.2.2.1, hR.2.2.2⟩) hS (fun q hq h => absurd hq (Nat.not_lt.mpr h)) (fun q h => C.2.2.2.2.2.2.2.2.2 q (Nat.le_trans hS.1 h)) (fun u ra t H1 locs1 ht hvm hw hB hz1 hk1 hS1 => ?_)
  have hra : ra = adK (4 + k) := hB
  subst hra
  have hP1 : va_P (xdC X, xdI X) bf_cl (bf_cw (xac X) (xal X) (bW8 S)) H1 := fun k q hq => (hP k q hq).kept (hk1 q.1 (hP k q hq).lt (Nat.not_le.mpr (hP k q hq).lt))
  obtain ⟨al2, hal⟩ : ∃ al2 : Nat → Nat, al2 = fun j => if j = 1000 then adK (4 + k) else bf_alc (xal X) [64, 65] j := ⟨_, rfl⟩
  have h1000 : al2 1000 = adK (4 + k) := by rw [hal]; rfl
  have hcw : ∀ T : bT4, bf_cw (xac X) al2 (bW4 T) = bf_cw (xac X) (bf_alc (xal X) [64, 65]) (bW4 T) := fun T => by rw [hal]; rfl
  have hsub := su_bW8_64_bW4 S
  have hPc : va_P (xdC X, xdI X) bf_cl (bf_cw (xac X) al2 (bW4 (b8g_tape S))) H1 := by
    rw [hcw]
    exact hP1.sub [64, 65] (by
      have h := hsub.conc (ac := xac X) (al := xal X)
      have h2 : ([64, 65] : List Nat).filterMap (fun i => (bf_cw (xac X) (xal X) (bW8 S))[i]?) = (([64, 65] : List Nat).map (fun i => (bf_cw (xac X) (xal X) (bW8 S))[i]?)).filterMap id := by rw [List.filterMap_map]; rfl
      rw [h2, h, List.filterMap_map]
      simp [Function.comp_def])
  have hDc : va_D (xA X) (bf_cw (xac X) al2 (bW4 (b8g_tape S))) := by
    rw [hcw]
    exact hD.sub [64, 65] rfl hsub.conc
  have hFc : ∀ q, bf_fr (xac X) al2 (bW4 (b8g_tape S)) H1.size q → xA X q := by
    intro q hq
    rcases hq with ⟨j, e, hj⟩ | hq
    · exact hDc.2 j (q, e) hj
    · exact C.2.2.2.2.2.2.2.2.2 q (Nat.le_trans hS1.1 hq)
  have h64 : al2 0 = xal X 64 := by rw [hal]; rfl
  have hrun := va_runV (As := [.ref (adK (4 + k))]) (b := xal X 64) (rest := []) (locs := locs1) (e := xe X) (below := xb X) (meth := xh X) (l := xl X) (g := F0 (xm X) (pc + 1 + 3) ls [.ref (adK (4 + k)), .ref (xal X 64)]) ⟨C.1, C.2.1, C.2.2.1, C.2.2.2.1, C.2.2.2.2.1⟩ (c_X4_spells (xl X) (xdC X) (xdI X) (xac X) al2 adK adV (b8g_tape S) (4 + k) hk10 h1000 H1.size) ⟨callB_of 1 C.2.2.2.2.1 (bf_goodIn my_X4_spells.1) rfl rfl rfl (C.2.2.2.2.1 _ my_X4_spells.1.2.1) (C.2.2.2.2.1 _ m_8_83) my_X4_spells.1.2.2 hRR, C.2.2.2.2.1 _ my_X4_spells.2.1, C.2.2.2.2.1 _ my_X4_spells.2.2⟩ ⟨fun a U g mk h => ⟨bf_blind _ _ _ _ _ _ _ a U g mk h.1, h.2.1.moved (Vm.Alike.refl U.vm), h.2.2.1.moved (Vm.Alike.refl U.vm), h.2.2.2.moved (Vm.Alike.refl U.vm)⟩, by rw [← h64]; exact va_recv C.2.2.2.2.2.1 hPc cl_4 (bf_cw_some (ge_bW4_0 (b8g_tape S))), fun U hU hW => ⟨⟨by rw [← h1000, ← h64]; rfl, by rw [hU], by rw [hU]; exact hPc, va_K.moved hW.alike C.2.2.2.2.2.1, hDc.weaken (fun _ _ _ _ => trivial), C.2.2.2.2.2.2.1.warm hW⟩, by rw [hU]; exact hO.at hS1 hFc hW.alike⟩⟩ rfl rfl hL.1 rfl (lv_room (Nat.le_of_ble_eq_true rfl)) hd2 ⟨hR.2.2.1, hR.2.2.2⟩
  refine va_calli hrun hS1 (fun q _ h => hFc q h) hFc (fun r u2 t2 H2 locs2 ht2 hvm2 hw2 hB2 hz2 hk2 hS2 => ?_)
  obtain ⟨rfl, hw2⟩ := hw2
  obtain ⟨hP2, hK2, hD2⟩ := hB2
  rw [ht2, hcw] at hP2
  unfold bf_fr at hk2
  rw [hcw] at hk2
  have hP3 := bf_back hP1 hD hsub rfl rfl hk2 hP2
  rw [bf_put_self hsub] at hP3
  exact kk r hw2 H2 locs2 ls hP3 hD hS2 hL
theorem c_X8_mode (l : Launch) (dC : Nat → ClassId) (dI : Nat → Nat → Nat) (ac : Nat → ClassId) (al : Nat → Nat) (S : bT8) (Q : Int32 → bT8 → Prop) (h : wp_X8_mode S Q) : bf_MG l yX8_mode cX8_mode 3 (some .int) 5 107 dC dI ac al [.ref 0] (bW8 S) (bf_Ki dC dI ac al bW8 Q) := by
  refine bf_startG [some (.ref 0), none, none] (by decide) (Nat.le_of_ble_eq_true rfl) (bf_s1 (bf_en 2)) ?_
  intro X hl C hR e1 e2 e3 e4 hG
  subst e1; subst e2; subst e3; subst e4
  refine bs_iconst C (bf_dk dd_X8_mode 0 rfl) (-1 : Int32) (by decide) ?_
  refine bs_istore_n C (bf_dk dd_X8_mode 1 rfl) rfl (Nat.le_of_ble_eq_true rfl) (Nat.le_of_ble_eq_true rfl) (lv2 := [some (.ref 0), some (.int (-1 : Int32)), none]) rfl ?_
  refine bs_iconst C (bf_dk dd_X8_mode 2 rfl) (0 : Int32) (by decide) ?_
  refine bs_istore_n C (bf_dk dd_X8_mode 3 rfl) rfl (Nat.le_of_ble_eq_true rfl) (Nat.le_of_ble_eq_true rfl) (lv2 := [some (.ref 0), some (.int (-1 : Int32)), some (.int (nI 0))]) rfl ?_
  have key : ∀ (d k : Nat) (f : Int32), k + d = 4 → bf_is 0 k (b8g_tape S) f → bf_A X (bf_Q X (bf_Ki (xdC X) (xdI X) (xac X) (xal X) bW8 Q)) 3 4 [some (.ref 0), some (.int f), some (.int (nI k))] [] (bW8 S) := by
    intro d
    induction d with
    | zero =>
      intro k f hk hi
      have hk4 : k = 4 := by omega
      subst hk4
      refine bs_iload_n C (bf_dk dd_X8_mode 4 rfl) rfl ?_
      refine bs_iconst C (bf_dk dd_X8_mode 5 rfl) (4 : Int32) (by decide) ?_
      refine bs_icmp_ge C (bf_dk dd_X8_mode 6 rfl) (tgt := 31) rfl (fun _ => ?_) (fun c2 => absurd (by decide) c2)
      refine bs_aload_n C (bf_dk dd_X8_mode 17 rfl) rfl ?_
      refine bs_get C (bf_dk dd_X8_mode 18 rfl) cl_8 in_8 7 (Nat.le_of_ble_eq_true rfl) rfl f_8_54 (ge_bW8_0 S) rfl ?_
      refine bs_iconst C (bf_dk dd_X8_mode 19 rfl) (0 : Int32) (by decide) ?_
      refine bs_put C (bf_dk dd_X8_mode 20 rfl) tyX4_ok nmX4 cl_4 in_4 1 (Nat.le_of_ble_eq_true rfl) rfl f_8_72 rfl (ge_bW8_64 S) (Nat.le_of_ble_eq_true rfl) rfl rfl (pu_bW8_64_1 S 0) ?_
      refine bs_nameS bW8 (fun S1 eS1 => ?_)
      have hq := h f hi S1 eS1
      refine bs_iload_n C (bf_dk dd_X8_mode 21 rfl) rfl ?_
      refine bs_iconst C (bf_dk dd_X8_mode 22 rfl) (-1 : Int32) (by decide) ?_
      refine bs_icmp_eq C (bf_dk dd_X8_mode 23 rfl) (tgt := 55) rfl (fun c3 => ?_) (fun c3 => ?_)
      · refine bs_iload_n C (bf_dk dd_X8_mode 29 rfl) rfl ?_
        exact bs_iret (u := S1) C (bf_dk dd_X8_mode 30 rfl) rfl (hq.1 c3)
      · refine bs_aload_n C (bf_dk dd_X8_mode 24 rfl) rfl ?_
        refine bs_get C (bf_dk dd_X8_mode 25 rfl) cl_8 in_8 0 (Nat.le_of_ble_eq_true rfl) rfl f_8_12 (ge_bW8_0 S1) rfl ?_
        refine bs_get C (bf_dk dd_X8_mode 26 rfl) cl_2 in_2 0 (Nat.le_of_ble_eq_true rfl) rfl f_8_87 (ge_bW8_1 S1) rfl ?_
        refine bs_iload_n C (bf_dk dd_X8_mode 27 rfl) rfl ?_
        refine bs_put C (bf_dk dd_X8_mode 28 rfl) tyX3_ok nmX3 cl_3 in_3 2 (Nat.le_of_ble_eq_true rfl) rfl f_8_91 rfl (ge_bW8_2 S1) (Nat.le_of_ble_eq_true rfl) rfl rfl (pu_bW8_2_2 S1 f) ?_
        refine bs_nameS bW8 (fun S2 eS2 => ?_)
        refine bs_iload_n C (bf_dk dd_X8_mode 29 rfl) rfl ?_
        exact bs_iret (u := S2) C (bf_dk dd_X8_mode 30 rfl) rfl (hq.2 c3 S2 eS2)
    | succ d ih =>
      intro k f hk hi
      have hkl : k < 4 := by omega
      refine bs_iload_n C (bf_dk dd_X8_mode 4 rfl) rfl ?_
      refine bs_iconst C (bf_dk dd_X8_mode 5 rfl) (4 : Int32) (by decide) ?_
      refine bs_icmp_ge C (bf_dk dd_X8_mode 6 rfl) (tgt := 31) rfl (fun c2 => absurd (show nI 4 ≤ nI k from c2) (nI_ge hkl (by decide))) (fun _ => ?_)
      refine bs_aload_n C (bf_dk dd_X8_mode 7 rfl) rfl ?_
      refine bs_get C (bf_dk dd_X8_mode 8 rfl) cl_8 in_8 7 (Nat.le_of_ble_eq_true rfl) rfl f_8_54 (ge_bW8_0 S) rfl ?_
      refine bs_sp_modeName C hR hG S hkl (bf_dk dd_X8_mode 9 rfl) (bf_dk dd_X8_mode 10 rfl) (bf_dk dd_X8_mode 11 rfl) rfl (Nat.le_of_ble_eq_true rfl) (Nat.le_of_ble_eq_true rfl) (fun r hr => ?_)
      have hstep : ∀ f2 : Int32, bf_is 0 (k + 1) (b8g_tape S) f2 → bf_A X (bf_Q X (bf_Ki (xdC X) (xdI X) (xac X) (xal X) bW8 Q)) 3 25 [some (.ref 0), some (.int f2), some (.int (nI k))] [] (bW8 S) := by
        intro f2 hi2
        refine bs_iinc C (bf_dk dd_X8_mode 15 rfl) (nI (k + 1)) rfl (nI_succ k).symm (Nat.le_of_ble_eq_true rfl) (Nat.le_of_ble_eq_true rfl) (lv2 := [some (.ref 0), some (.int f2), some (.int (nI (k + 1)))]) rfl ?_
        refine bs_goto C (bf_dk dd_X8_mode 16 rfl) (tgt := 4) rfl ?_
        exact ih (k + 1) f2 (by omega) hi2
      rcases hr with ⟨rfl, hsp⟩ | ⟨rfl, hsp⟩
      · refine bs_if_eq C (bf_dk dd_X8_mode 12 rfl) (tgt := 25) rfl (fun c3 => absurd c3 (by decide)) (fun _ => ?_)
        refine bs_iload_n C (bf_dk dd_X8_mode 13 rfl) rfl ?_
        refine bs_istore_n C (bf_dk dd_X8_mode 14 rfl) rfl (Nat.le_of_ble_eq_true rfl) (Nat.le_of_ble_eq_true rfl) (lv2 := [some (.ref 0), some (.int (nI k)), some (.int (nI k))]) rfl ?_
        exact hstep _ (bf_is_yes hsp)
      · refine bs_if_eq C (bf_dk dd_X8_mode 12 rfl) (tgt := 25) rfl (fun _ => ?_) (fun c3 => absurd rfl c3)
        exact hstep _ (bf_is_no hi hsp)
  exact key 4 0 (-1) (by decide) (bf_is_zero 0 (b8g_tape S))
theorem c_X8_row (l : Launch) (dC : Nat → ClassId) (dI : Nat → Nat → Nat) (ac : Nat → ClassId) (al : Nat → Nat) (S : bT8) (Q : Int32 → bT8 → Prop) (h : wp_X8_row S Q) : bf_MG l yX8_row cX8_row 3 (some .int) 5 107 dC dI ac al [.ref 0] (bW8 S) (bf_Ki dC dI ac al bW8 Q) := by
  refine bf_startG [some (.ref 0), none, none] (by decide) (Nat.le_of_ble_eq_true rfl) (bf_s1 (bf_en 2)) ?_
  intro X hl C hR e1 e2 e3 e4 hG
  subst e1; subst e2; subst e3; subst e4
  refine bs_iconst C (bf_dk dd_X8_row 0 rfl) (-1 : Int32) (by decide) ?_
  refine bs_istore_n C (bf_dk dd_X8_row 1 rfl) rfl (Nat.le_of_ble_eq_true rfl) (Nat.le_of_ble_eq_true rfl) (lv2 := [some (.ref 0), some (.int (-1 : Int32)), none]) rfl ?_
  refine bs_iconst C (bf_dk dd_X8_row 2 rfl) (0 : Int32) (by decide) ?_
  refine bs_istore_n C (bf_dk dd_X8_row 3 rfl) rfl (Nat.le_of_ble_eq_true rfl) (Nat.le_of_ble_eq_true rfl) (lv2 := [some (.ref 0), some (.int (-1 : Int32)), some (.int (nI 0))]) rfl ?_
  have key : ∀ (d k : Nat) (f : Int32), k + d = 6 → bf_is 4 k (b8g_tape S) f → bf_A X (bf_Q X (bf_Ki (xdC X) (xdI X) (xac X) (xal X) bW8 Q)) 3 4 [some (.ref 0), some (.int f), some (.int (nI k))] [] (bW8 S) := by
    intro d
    induction d with
    | zero =>
      intro k f hk hi
      have hk4 : k = 6 := by omega
      subst hk4
      refine bs_iload_n C (bf_dk dd_X8_row 4 rfl) rfl ?_
      refine bs_bipush C (bf_dk dd_X8_row 5 rfl) (6 : Int32) (by decide) ?_
      refine bs_icmp_ge C (bf_dk dd_X8_row 6 rfl) (tgt := 32) rfl (fun _ => ?_) (fun c2 => absurd (by decide) c2)
      refine bs_aload_n C (bf_dk dd_X8_row 17 rfl) rfl ?_
      refine bs_get C (bf_dk dd_X8_row 18 rfl) cl_8 in_8 7 (Nat.le_of_ble_eq_true rfl) rfl f_8_54 (ge_bW8_0 S) rfl ?_
      refine bs_iconst C (bf_dk dd_X8_row 19 rfl) (0 : Int32) (by decide) ?_
      refine bs_put C (bf_dk dd_X8_row 20 rfl) tyX4_ok nmX4 cl_4 in_4 1 (Nat.le_of_ble_eq_true rfl) rfl f_8_72 rfl (ge_bW8_64 S) (Nat.le_of_ble_eq_true rfl) rfl rfl (pu_bW8_64_1 S 0) ?_
      refine bs_nameS bW8 (fun S1 eS1 => ?_)
      have hq := h f hi S1 eS1
      refine bs_iload_n C (bf_dk dd_X8_row 21 rfl) rfl ?_
      refine bs_iconst C (bf_dk dd_X8_row 22 rfl) (-1 : Int32) (by decide) ?_
      refine bs_icmp_eq C (bf_dk dd_X8_row 23 rfl) (tgt := 50) rfl (fun c3 => ?_) (fun c3 => ?_)
      · refine bs_iload_n C (bf_dk dd_X8_row 27 rfl) rfl ?_
        exact bs_iret (u := S1) C (bf_dk dd_X8_row 28 rfl) rfl (hq.1 c3)
      · refine bs_aload_n C (bf_dk dd_X8_row 24 rfl) rfl ?_
        refine bs_iload_n C (bf_dk dd_X8_row 25 rfl) rfl ?_
        refine bs_put C (bf_dk dd_X8_row 26 rfl) tyX8_ok nmX8 cl_8 in_8 9 (Nat.le_of_ble_eq_true rfl) rfl f_8_65 rfl (ge_bW8_0 S1) (Nat.le_of_ble_eq_true rfl) rfl rfl (pu_bW8_0_9 S1 f) ?_
        refine bs_nameS bW8 (fun S2 eS2 => ?_)
        refine bs_iload_n C (bf_dk dd_X8_row 27 rfl) rfl ?_
        exact bs_iret (u := S2) C (bf_dk dd_X8_row 28 rfl) rfl (hq.2 c3 S2 eS2)
    | succ d ih =>
      intro k f hk hi
      have hkl : k < 6 := by omega
      refine bs_iload_n C (bf_dk dd_X8_row 4 rfl) rfl ?_
      refine bs_bipush C (bf_dk dd_X8_row 5 rfl) (6 : Int32) (by decide) ?_
      refine bs_icmp_ge C (bf_dk dd_X8_row 6 rfl) (tgt := 32) rfl (fun c2 => absurd (show nI 6 ≤ nI k from c2) (nI_ge hkl (by decide))) (fun _ => ?_)
      refine bs_aload_n C (bf_dk dd_X8_row 7 rfl) rfl ?_
      refine bs_get C (bf_dk dd_X8_row 8 rfl) cl_8 in_8 7 (Nat.le_of_ble_eq_true rfl) rfl f_8_54 (ge_bW8_0 S) rfl ?_
      refine bs_sp_rowName C hR hG S hkl (bf_dk dd_X8_row 9 rfl) (bf_dk dd_X8_row 10 rfl) (bf_dk dd_X8_row 11 rfl) rfl (Nat.le_of_ble_eq_true rfl) (Nat.le_of_ble_eq_true rfl) (fun r hr => ?_)
      have hstep : ∀ f2 : Int32, bf_is 4 (k + 1) (b8g_tape S) f2 → bf_A X (bf_Q X (bf_Ki (xdC X) (xdI X) (xac X) (xal X) bW8 Q)) 3 26 [some (.ref 0), some (.int f2), some (.int (nI k))] [] (bW8 S) := by
        intro f2 hi2
        refine bs_iinc C (bf_dk dd_X8_row 15 rfl) (nI (k + 1)) rfl (nI_succ k).symm (Nat.le_of_ble_eq_true rfl) (Nat.le_of_ble_eq_true rfl) (lv2 := [some (.ref 0), some (.int f2), some (.int (nI (k + 1)))]) rfl ?_
        refine bs_goto C (bf_dk dd_X8_row 16 rfl) (tgt := 4) rfl ?_
        exact ih (k + 1) f2 (by omega) hi2
      rcases hr with ⟨rfl, hsp⟩ | ⟨rfl, hsp⟩
      · refine bs_if_eq C (bf_dk dd_X8_row 12 rfl) (tgt := 26) rfl (fun c3 => absurd c3 (by decide)) (fun _ => ?_)
        refine bs_iload_n C (bf_dk dd_X8_row 13 rfl) rfl ?_
        refine bs_istore_n C (bf_dk dd_X8_row 14 rfl) rfl (Nat.le_of_ble_eq_true rfl) (Nat.le_of_ble_eq_true rfl) (lv2 := [some (.ref 0), some (.int (nI k)), some (.int (nI k))]) rfl ?_
        exact hstep _ (bf_is_yes hsp)
      · refine bs_if_eq C (bf_dk dd_X8_row 12 rfl) (tgt := 26) rfl (fun _ => ?_) (fun c3 => absurd rfl c3)
        exact hstep _ (bf_is_no hi hsp)
  exact key 6 0 (-1) (by decide) (bf_is_zero 4 (b8g_tape S))

