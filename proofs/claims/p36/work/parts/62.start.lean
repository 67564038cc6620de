def bf_flat : List Cond := flatC (Jvm.Cond.and given_1 narrow_1)
theorem bf_Ga_of {args : Array Value} {s : State} {nm : String} {f : List Int32} {A : Nat → Prop} (hs : ∀ c ∈ bf_flat, c.before args s = true) (hl : (Cond.laysStatic "BeginningsFilter" nm "[I").before args s = true) (hi : (Cond.initialized "BeginningsFilter").before args s = true) (h1 : Cond.arrayOf (.static "BeginningsFilter" nm "[I") .int ∈ bf_flat) (h2 : Cond.eq (.length (.static "BeginningsFilter" nm "[I")) (.int (Int32.ofNat 6)) ∈ bf_flat) (h3 : ∀ j : Nat, j < 6 → Cond.eq (.elem (.static "BeginningsFilter" nm "[I") (.int (Int32.ofNat j))) (.int (f.getD j 0)) ∈ bf_flat) (hA : ∀ a : Nat, a < s.heap.size → ¬ A a) : bf_Ga nm f A s s.heap := by
  obtain ⟨t, ht, hT⟩ := va_Tof (N := 6) (f := fun j => .int (f.getD j 0)) (by decide) (hs _ h1) (va_eqt (hs _ h2)) (fun j hj => va_eqt (hs _ (h3 j hj))) hA
  exact ⟨t, va_Zref hl hi ht hA, hT⟩
theorem ga_TOLD_AT_FIRST {args : Array Value} {s : State} {A : Nat → Prop} (hs : ∀ c ∈ bf_flat, c.before args s = true) (hts : ∀ w ∈ lw_tbl, w.before args s = true) (hA : ∀ a : Nat, a < s.heap.size → ¬ A a) : bf_Ga "TOLD_AT_FIRST" bf_first A s s.heap :=
  bf_Ga_of hs (hts _ (bf_fN bf_c1 59 (w := .laysStatic "BeginningsFilter" "TOLD_AT_FIRST" "[I") rfl)) (hts _ (bf_fN bf_c1 1 (w := .initialized "BeginningsFilter") rfl)) (by decide +kernel) (by decide +kernel) (by decide +kernel) hA
theorem ga_TOLD_LEAST {args : Array Value} {s : State} {A : Nat → Prop} (hs : ∀ c ∈ bf_flat, c.before args s = true) (hts : ∀ w ∈ lw_tbl, w.before args s = true) (hA : ∀ a : Nat, a < s.heap.size → ¬ A a) : bf_Ga "TOLD_LEAST" bf_least A s s.heap :=
  bf_Ga_of hs (hts _ (bf_fN bf_c3 108 (w := .laysStatic "BeginningsFilter" "TOLD_LEAST" "[I") rfl)) (hts _ (bf_fN bf_c1 1 (w := .initialized "BeginningsFilter") rfl)) (by decide +kernel) (by decide +kernel) (by decide +kernel) hA
theorem ga_TOLD_MOST {args : Array Value} {s : State} {A : Nat → Prop} (hs : ∀ c ∈ bf_flat, c.before args s = true) (hts : ∀ w ∈ lw_tbl, w.before args s = true) (hA : ∀ a : Nat, a < s.heap.size → ¬ A a) : bf_Ga "TOLD_MOST" bf_most A s s.heap :=
  bf_Ga_of hs (hts _ (bf_fN bf_c3 110 (w := .laysStatic "BeginningsFilter" "TOLD_MOST" "[I") rfl)) (hts _ (bf_fN bf_c1 1 (w := .initialized "BeginningsFilter") rfl)) (by decide +kernel) (by decide +kernel) (by decide +kernel) hA
def bf_tm (i : Nat) : Term := .string "BeginningsFilter" (bf_sidx.getD i 0)
theorem gs_1 : ∀ i : Nat, i < 10 → bf_slen.getD i 0 < 2 ^ 31 := by decide
theorem gs_2 : ∀ i : Nat, i < 10 → Cond.exactly (bf_tm i) "java/lang/String" ∈ bf_flat := by decide +kernel
theorem gs_3 : ∀ i : Nat, i < 10 → Cond.eq (.field (bf_tm i) "java/lang/String" "coder" "B") (.int 0) ∈ bf_flat := by decide +kernel
theorem gs_4 : ∀ i : Nat, i < 10 → Cond.arrayOf (.field (bf_tm i) "java/lang/String" "value" "[B") .byte ∈ bf_flat := by decide +kernel
theorem gs_5 : ∀ i : Nat, i < 10 → Cond.eq (.length (.field (bf_tm i) "java/lang/String" "value" "[B")) (.int (Int32.ofNat (bf_slen.getD i 0))) ∈ bf_flat := by decide +kernel
def bf_fsp : List Nat := [40, 48, 57, 67, 78, 92, 105, 119, 135, 152]
def bf_fnp : List Nat := [0, 52, 61, 71, 84, 96, 109, 124, 140, 158]
theorem gs_6 : ∀ i : Nat, i < 10 → ∀ j : Nat, j < bf_slen.getD i 0 → Cond.eq (.elem (.field (bf_tm i) "java/lang/String" "value" "[B") (.int (Int32.ofNat j))) (.int ((bf_sbyt.getD i []).getD j 0)) ∈ bf_flat := by
  first
    | exact fun i hi j hj => List.mem_of_getElem? ((by decide +kernel : ∀ i : Nat, i < 10 → ∀ j : Nat, j < bf_slen.getD i 0 → bf_flat[bf_fsp.getD i 0 + j]? = some (Cond.eq (.elem (.field (bf_tm i) "java/lang/String" "value" "[B") (.int (Int32.ofNat j))) (.int ((bf_sbyt.getD i []).getD j 0)))) i hi j hj)
    | decide +kernel
theorem gs_7 : ∀ i : Nat, i < 10 → ∀ j : Nat, j < 10 → i ≠ j → Cond.not (Cond.eq (bf_tm i) (bf_tm j)) ∈ bf_flat ∨ Cond.not (Cond.eq (bf_tm j) (bf_tm i)) ∈ bf_flat := by
  first
    | exact fun i hi j hj hij => by
        have k7 : ∀ j : Nat, j < 10 → ∀ i : Nat, i < j → bf_flat[bf_fnp.getD j 0 + i]? = some (Cond.not (Cond.eq (bf_tm i) (bf_tm j))) := by decide +kernel
        rcases Nat.lt_or_gt_of_ne hij with h | h
        · exact Or.inl (List.mem_of_getElem? (k7 j hj i h))
        · exact Or.inr (List.mem_of_getElem? (k7 i hi j h))
    | decide +kernel
theorem gs_8 : ∀ i : Nat, i < 10 → Cond.stringRef "BeginningsFilter" (bf_sidx.getD i 0) (bf_stxt.getD i "") ∈ lw_tbl := by
  intro i hi
  match i, hi with
  | 0, _ => exact bf_fN bf_c2 233 rfl
  | 1, _ => exact bf_fN bf_c2 234 rfl
  | 2, _ => exact bf_fN bf_c2 235 rfl
  | 3, _ => exact bf_fN bf_c2 236 rfl
  | 4, _ => exact bf_fN bf_c3 58 rfl
  | 5, _ => exact bf_fN bf_c3 59 rfl
  | 6, _ => exact bf_fN bf_c3 60 rfl
  | 7, _ => exact bf_fN bf_c3 61 rfl
  | 8, _ => exact bf_fN bf_c3 62 rfl
  | 9, _ => exact bf_fN bf_c3 63 rfl
  | i + 10, h => omega
theorem bf_G_start {args : Array Value} {s : State} {A : Nat → Prop} (hs : ∀ c ∈ bf_flat, c.before args s = true) (hts : ∀ w ∈ lw_tbl, w.before args s = true) (hA : ∀ a : Nat, a < s.heap.size → ¬ A a) : bf_G A s s.heap := by
  refine ⟨ga_TOLD_AT_FIRST hs hts hA, ga_TOLD_LEAST hs hts hA, ga_TOLD_MOST hs hts hA, ?_, va_Zof (hts _ (bf_fN bf_c3 10 (w := .laysStatic "java/lang/String" "COMPACT_STRINGS" "Z") rfl)) (hts _ (bf_fN bf_c1 13 (w := .initialized "java/lang/String") rfl)) (va_eqi (hs _ (by decide +kernel))) hA, va_Zqof (hts _ (bf_fN bf_c3 26 (w := .laysStatic "jdk/internal/util/Preconditions" "SIOOBE_FORMATTER" "Ljava/util/function/BiFunction;") rfl)) (hts _ (bf_fN bf_c1 15 (w := .initialized "jdk/internal/util/Preconditions") rfl)) (hs _ (by decide +kernel)) hA⟩
  obtain ⟨adK, adV, h1, h2⟩ := vk_Sof (tm := bf_tm) gs_1 (fun i hi => hs _ (gs_2 i hi)) (fun i hi => hs _ (gs_3 i hi)) (fun i hi => hs _ (gs_4 i hi)) (fun i hi => hs _ (gs_5 i hi)) (fun i hi j hj => hs _ (gs_6 i hi j hj)) (fun i j hi hj hij => (gs_7 i hi j hj hij).imp (hs _) (hs _)) hA
  exact ⟨adK, adV, h1, fun i hi => vk_R.of (hts _ (gs_8 i hi)) (h2 i hi)⟩
theorem bf_arr {ty : FieldType} {args : Array Value} {s : State} (h : (Cond.arrayClass ty).before args s = true) : ∃ cA : ClassId, s.vm.findClass ("[" ++ ty.toString) = some cA ∧ ArrOfT s cA ty := by
  obtain ⟨c, k, comp, h1, h2, h3⟩ := Cond.arrayClass_spec h
  exact ⟨c, h1, fun n z => ⟨fun k h => (by cases h), k, h2, comp, h3⟩⟩
theorem bf_K_start {args : Array Value} {s : State} (htg : ∀ w ∈ lw_good, w.before args s = true) : ∃ (dC : Nat → ClassId) (dI : Nat → Nat → Nat) (ac : Nat → ClassId), va_K (dC, dI) bf_cl (bf_tys ac) s := by
  obtain ⟨c0, i0, hk0⟩ := u_known (C := RX0) (T := TX0) (N := 3) (n := 3) htg in_0 (htg _ ins_0.1)
  obtain ⟨c1, i1, hk1⟩ := u_known (C := RX1) (T := TX1) (N := 10) (n := 10) htg in_1 (htg _ ins_1.1)
  obtain ⟨c2, i2, hk2⟩ := u_known (C := RX2) (T := TX2) (N := 5) (n := 5) htg in_2 (htg _ ins_2.1)
  obtain ⟨c3, i3, hk3⟩ := u_known (C := RX3) (T := TX3) (N := 3) (n := 3) htg in_3 (htg _ ins_3.1)
  obtain ⟨c4, i4, hk4⟩ := u_known (C := RX4) (T := TX4) (N := 2) (n := 2) htg in_4 (htg _ ins_4.1)
  obtain ⟨c5, i5, hk5⟩ := u_known (C := RX5) (T := TX5) (N := 2) (n := 2) htg in_5 (htg _ ins_5.1)
  obtain ⟨c6, i6, hk6⟩ := u_known (C := RX6) (T := TX6) (N := 19) (n := 19) htg in_6 (htg _ ins_6.1)
  obtain ⟨c7, i7, hk7⟩ := u_known (C := RX7) (T := TX7) (N := 6) (n := 6) htg in_7 (htg _ ins_7.1)
  obtain ⟨c8, i8, hk8⟩ := u_known (C := RX8) (T := TX8) (N := 10) (n := 10) htg in_8 (htg _ ins_8.1)
  obtain ⟨c9, i9, hk9⟩ := u_known (C := RX9) (T := TX9) (N := 46) (n := 46) htg in_9 (htg _ ins_9.1)
  obtain ⟨a0, ha0, hb0⟩ := bf_arr (ty := .int) (htg _ ac_int)
  obtain ⟨a1, ha1, hb1⟩ := bf_arr (ty := .long) (htg _ ac_long)
  obtain ⟨a2, ha2, hb2⟩ := bf_arr (ty := .char) (htg _ ac_char)
  refine ⟨fun k => if k = 0 then c0 else if k = 1 then c1 else if k = 2 then c2 else if k = 3 then c3 else if k = 4 then c4 else if k = 5 then c5 else if k = 6 then c6 else if k = 7 then c7 else if k = 8 then c8 else c9, fun k => if k = 0 then i0 else if k = 1 then i1 else if k = 2 then i2 else if k = 3 then i3 else if k = 4 then i4 else if k = 5 then i5 else if k = 6 then i6 else if k = 7 then i7 else if k = 8 then i8 else i9, fun k => if k = 0 then a0 else if k = 1 then a1 else a2, ?_, ?_⟩
  · intro k q hq
    match k, hq with
    | 0, hq => cases hq; exact hk0
    | 1, hq => cases hq; exact hk1
    | 2, hq => cases hq; exact hk2
    | 3, hq => cases hq; exact hk3
    | 4, hq => cases hq; exact hk4
    | 5, hq => cases hq; exact hk5
    | 6, hq => cases hq; exact hk6
    | 7, hq => cases hq; exact hk7
    | 8, hq => cases hq; exact hk8
    | 9, hq => cases hq; exact hk9
    | k + 10, hq => simp [bf_cl] at hq
  · intro k q hq
    match k, hq with
    | 0, hq => cases hq; exact ⟨hb0, ha0⟩
    | 1, hq => cases hq; exact ⟨hb1, ha1⟩
    | 2, hq => cases hq; exact ⟨hb2, ha2⟩
    | k + 3, hq => simp [bf_tys] at hq
theorem lw_w8 (S8 : bT8) : ([] : bf_W) ++ (bW8 S8).map (bf_she 0) = bW8 S8 := by
  simp only [bW8, List.map_cons, List.map_nil, bf_she, bf_shv, List.nil_append, Nat.add_zero]
theorem lw_w89 (S8 : bT8) : bW8 S8 ++ (iw9_98).map (bf_she 68) = bW8_9 (S8, bi9) := by
  rw [bi9_w]
  simp only [bW8, bW9, bW8_9, List.map_cons, List.map_nil, bf_she, bf_shv, List.cons_append, List.nil_append, Nat.reduceAdd]
set_option maxHeartbeats 4000000 in
set_option maxRecDepth 20000 in
theorem whole_walk {p : Program} {e : Env} {s : State} {m : MethodId} {below : List Frame} {meth : Method} {c : Code} (l : Launch) {b L : Nat} {scr : Nat → Int32} (C0 : lw_At p s m meth c b L scr) (P : bT8 → Prop) (hP8 : wp_X8_rebuild bi8 P) (hlaw : ∀ S8 : bT8, P S8 → wp_L_law L scr (S8, bi9) 0) : W p l e room_1 s m #[Value.ref b] below meth c s.heap [] 0 0 (lw_Z below #[Value.ref b] s) (entryFrame m ([Value.ref b] : List Value).toArray 4) := by
  obtain ⟨hx, hb, hr, hml, hown, hts, hX, hbl, hlocks, hgv⟩ := C0
  have htg : ∀ w ∈ lw_good, w.before #[Value.ref b] s = true := fun w hw => hts w (List.mem_filter.mp hw).1
  obtain ⟨dC, dI, ac, hK⟩ := bf_K_start htg
  have hA0 : ∀ a : Nat, a < s.heap.size → ¬ (fun q : Nat => s.heap.size ≤ q) a := fun a h => Nat.not_le.mpr h
  have hG : bf_G (fun q : Nat => s.heap.size ≤ q) s s.heap := bf_G_start (flat_of_before _ hgv) hts hA0
  have hN : bf_N s := fun w hw hn => va_Nw.of (by cases w <;> first | rfl | (simp [bf_isN] at hn)) (hts w hw)
  obtain ⟨X, hXe⟩ : ∃ X : bf_X, X = (p, l, e, room_1, s, m, #[Value.ref b], below, meth, c, dC, dI, ac, fun _ => b, fun q : Nat => s.heap.size ≤ q, 0, 0) := ⟨_, rfl⟩
  have C : bf_C X R_law code 4 ret := by subst hXe; exact ⟨hx, hb, hml, hown, htg, hK, hN, hr, hlocks, fun _ h => h⟩
  have hE : bf_A X (lw_Z (xb X) (xa X) (xs X)) 4 0 [some (.ref 1000), none, none, none] [] [] := by
    have hk0 : xk X = 0 := by subst hXe; rfl
    have hn0 : xn X = 0 := by subst hXe; rfl
    have hR0 : xR X = room_1 := by subst hXe; rfl
    have ha0 : xal X 1000 = b := by subst hXe; rfl
    have hG0 : bf_G (xA X) (xs X) (xs X).heap := by subst hXe; exact hG
    have hXs : va_X b L scr (xs X) (xs X).heap := by subst hXe; exact hX
    have hXA : ∀ q, xA X q → (xs X).heap.size ≤ q := by subst hXe; exact fun _ h => h
    have hbl0 : b < (xs X).heap.size := by subst hXe; exact hbl
    have hxa : xa X = #[Value.ref b] := by subst hXe; rfl
    clear hXe
    refine bs_new C (bf_dk dd_L_law_0 0 rfl) cl_8 in_8 tyX8_ok cn_L_7 ins_8.1 ins_8.2 0 rfl df_8 rfl (by rw [hk0, hR0]; exact Nat.le_of_ble_eq_true rfl) (by rw [hn0, hR0]; exact Nat.le_of_ble_eq_true rfl) (fun q => ?_)
    have C1 := C.grow (bf_ua (xal X) 0 q) 1 10
    have ha1 : xal (bf_Xn X (bf_ua (xal X) 0 q) 1 10) 1000 = b := ha0
    generalize hX1 : bf_Xn X (bf_ua (xal X) 0 q) 1 10 = X1 at C1 ha1 ⊢
    refine bs_dup C1 (bf_dk dd_L_law_0 1 rfl) rfl ?_
    refine bs_init (w := []) C1 (by subst hX1; exact hG0) (ci_X8 _ _ _ _ P hP8) mi_8.1 mi_8.2 rfl m_L_9 (bf_dk dd_L_law_0 2 rfl) 0 rfl rfl rfl 100 (Nat.le_of_ble_eq_true rfl) (fun _ => ⟨rfl, Nat.le_of_ble_eq_true rfl⟩) (by subst hX1; show _ ≤ (xR X).frames; rw [hR0]; exact Nat.le_of_ble_eq_true rfl) (by subst hX1; show _ ≤ (xR X).locals; rw [hR0]; exact Nat.le_of_ble_eq_true rfl) (by subst hX1; show xk X + 1 + _ ≤ (xR X).cells; rw [hk0, hR0]; exact Nat.le_of_ble_eq_true rfl) (by subst hX1; show xn X + _ + _ ≤ (xR X).slots; rw [hn0, hR0]; exact Nat.le_of_ble_eq_true rfl) (Nat.le_of_ble_eq_true rfl) (fun al2 S8 hS8 => ?_)
    have C2 := C1.grow (bf_jo (xal X1) 0 al2) 67 4297
    have ha2 : xal (bf_Xn X1 (bf_jo (xal X1) 0 al2) 67 4297) 1000 = b := by show bf_jo (xal X1) 0 al2 1000 = b; rw [bf_jo_low _ _ _ _ (Or.inr rfl)]; exact ha1
    generalize hX2 : bf_Xn X1 (bf_jo (xal X1) 0 al2) 67 4297 = X2 at C2 ha2 ⊢
    refine bs_w (w2 := bW8 S8) (lw_w8 S8) ?_
    refine bs_astore_n C2 (bf_dk dd_L_law_0 3 rfl) rfl (Nat.le_of_ble_eq_true rfl) (Nat.le_of_ble_eq_true rfl) (lv2 := [some (.ref 1000), some (.ref 0), none, none]) rfl ?_
    refine bs_new C2 (bf_dk dd_L_law_0 4 rfl) cl_9 in_9 tyX9_ok cn_L_10 ins_9.1 ins_9.2 68 rfl df_9 rfl (by subst hX2; subst hX1; show xk X + 1 + _ + 1 ≤ (xR X).cells; rw [hk0, hR0]; exact Nat.le_of_ble_eq_true rfl) (by subst hX2; subst hX1; show xn X + _ + _ + _ ≤ (xR X).slots; rw [hn0, hR0]; exact Nat.le_of_ble_eq_true rfl) (fun q9 => ?_)
    have C3 := C2.grow (bf_ua (xal X2) 68 q9) 1 46
    have ha3 : xal (bf_Xn X2 (bf_ua (xal X2) 68 q9) 1 46) 1000 = b := by show bf_ua (xal X2) 68 q9 1000 = b; rw [bf_ua_low _ _ _ (Nat.le_of_ble_eq_true rfl) _ (Or.inr rfl)]; exact ha2
    generalize hX3 : bf_Xn X2 (bf_ua (xal X2) 68 q9) 1 46 = X3 at C3 ha3 ⊢
    refine bs_dup C3 (bf_dk dd_L_law_0 5 rfl) rfl ?_
    refine bs_init (w := bW8 S8) C3 (by subst hX3; subst hX2; subst hX1; exact hG0) (ci_X9 _ _ _ _) mi_9.1 mi_9.2 rfl m_L_12 (bf_dk dd_L_law_0 6 rfl) 68 rfl rfl rfl 100 (Nat.le_of_ble_eq_true rfl) (fun _ => ⟨rfl, Nat.le_of_ble_eq_true rfl⟩) (by subst hX3; subst hX2; subst hX1; show _ ≤ (xR X).frames; rw [hR0]; exact Nat.le_of_ble_eq_true rfl) (by subst hX3; subst hX2; subst hX1; show _ ≤ (xR X).locals; rw [hR0]; exact Nat.le_of_ble_eq_true rfl) (by subst hX3; subst hX2; subst hX1; show xk X + 1 + _ + 1 + _ ≤ (xR X).cells; rw [hk0, hR0]; exact Nat.le_of_ble_eq_true rfl) (by subst hX3; subst hX2; subst hX1; show xn X + _ + _ + _ + _ ≤ (xR X).slots; rw [hn0, hR0]; exact Nat.le_of_ble_eq_true rfl) (Nat.le_of_ble_eq_true rfl) (fun al4 _ _ => ?_)
    have C4 := C3.grow (bf_jo (xal X3) 68 al4) 20 5631
    have ha4 : xal (bf_Xn X3 (bf_jo (xal X3) 68 al4) 20 5631) 1000 = b := by show bf_jo (xal X3) 68 al4 1000 = b; rw [bf_jo_low _ _ _ _ (Or.inr rfl)]; exact ha3
    have hk4 : xk (bf_Xn X3 (bf_jo (xal X3) 68 al4) 20 5631) = 89 := by subst hX3; subst hX2; subst hX1; show xk X + 1 + 67 + 1 + 20 = 89; rw [hk0]
    have hn4 : xn (bf_Xn X3 (bf_jo (xal X3) 68 al4) 20 5631) = 9984 := by subst hX3; subst hX2; subst hX1; show xn X + 10 + 4297 + 46 + 5631 = 9984; rw [hn0]
    have hs4 : (xb X, xa X, xs X, xA X, xR X) = (xb (bf_Xn X3 (bf_jo (xal X3) 68 al4) 20 5631), xa (bf_Xn X3 (bf_jo (xal X3) 68 al4) 20 5631), xs (bf_Xn X3 (bf_jo (xal X3) 68 al4) 20 5631), xA (bf_Xn X3 (bf_jo (xal X3) 68 al4) 20 5631), xR (bf_Xn X3 (bf_jo (xal X3) 68 al4) 20 5631)) := by subst hX3; subst hX2; subst hX1; rfl
    generalize bf_Xn X3 (bf_jo (xal X3) 68 al4) 20 5631 = X4 at C4 ha4 hk4 hn4 hs4 ⊢
    simp only [Prod.mk.injEq] at hs4
    obtain ⟨e1, e2, e3, e4, e5⟩ := hs4
    rw [e1, e2, e3]
    rw [e4, e3] at hG0 hXA
    rw [e3] at hXs hbl0
    rw [e5] at hR0
    rw [e2] at hxa
    refine bs_w (w2 := bW8_9 (S8, bi9)) (lw_w89 S8) ?_
    refine bs_astore_n C4 (bf_dk dd_L_law_0 7 rfl) rfl (Nat.le_of_ble_eq_true rfl) (Nat.le_of_ble_eq_true rfl) (lv2 := [some (.ref 1000), some (.ref 0), some (.ref 68), none]) rfl ?_
    refine bs_iconst C4 (bf_dk dd_L_law_0 8 rfl) (0 : Int32) (by decide) ?_
    refine bs_istore_n C4 (bf_dk dd_L_law_0 9 rfl) rfl (Nat.le_of_ble_eq_true rfl) (Nat.le_of_ble_eq_true rfl) (lv2 := [some (.ref 1000), some (.ref 0), some (.ref 68), some (.int (0 : Int32))]) rfl ?_
    exact t_L_law C4 ⟨by rw [hR0]; exact Nat.le_of_ble_eq_true rfl, by rw [hR0]; exact Nat.le_of_ble_eq_true rfl, by rw [hR0, hk4]; exact Nat.le_of_ble_eq_true rfl, by rw [hR0, hn4]; exact Nat.le_of_ble_eq_true rfl⟩ hG0 hXs ⟨hR0, hxa, hk4, hn4, hXA, hbl0, ha4⟩ (S8, bi9) 0 (hlaw S8 hS8)
  subst hXe
  rw [lg_entry_eq]
  refine hE s.heap [] _ (fun k q h => by simp [bf_cw] at h) ⟨fun i j p q h => by simp [bf_cw] at h, fun k q h => by simp [bf_cw] at h⟩ va_S.rf ?_
  have he := lv_entry ([.ref b]) (n := 4) (Nat.le_of_ble_eq_true rfl)
  refine ⟨he.1, he.2.1, fun i v hi => ?_⟩
  match i, hi with
  | 0, hi => cases hi; exact he.2.2 (0, .ref b) List.mem_cons_self
  | 1, hi => cases hi
  | 2, hi => cases hi
  | 3, hi => cases hi
  | i + 4, hi => simp at hi
