/-! the judgement: everything that stays through a method is in one tuple -/
abbrev bf_X : Type := Program × Launch × Env × Room × State × MethodId × Array Value × List Frame × Method × Code × (Nat → ClassId) × (Nat → Nat → Nat) × (Nat → ClassId) × (Nat → Nat) × (Nat → Prop) × Nat × Nat
abbrev xp (X : bf_X) : Program := X.1
abbrev xl (X : bf_X) : Launch := X.2.1
abbrev xe (X : bf_X) : Env := X.2.2.1
abbrev xR (X : bf_X) : Room := X.2.2.2.1
abbrev xs (X : bf_X) : State := X.2.2.2.2.1
abbrev xm (X : bf_X) : MethodId := X.2.2.2.2.2.1
abbrev xa (X : bf_X) : Array Value := X.2.2.2.2.2.2.1
abbrev xb (X : bf_X) : List Frame := X.2.2.2.2.2.2.2.1
abbrev xh (X : bf_X) : Method := X.2.2.2.2.2.2.2.2.1
abbrev xc (X : bf_X) : Code := X.2.2.2.2.2.2.2.2.2.1
abbrev xdC (X : bf_X) : Nat → ClassId := X.2.2.2.2.2.2.2.2.2.2.1
abbrev xdI (X : bf_X) : Nat → Nat → Nat := X.2.2.2.2.2.2.2.2.2.2.2.1
abbrev xac (X : bf_X) : Nat → ClassId := X.2.2.2.2.2.2.2.2.2.2.2.2.1
abbrev xal (X : bf_X) : Nat → Nat := X.2.2.2.2.2.2.2.2.2.2.2.2.2.1
abbrev xA (X : bf_X) : Nat → Prop := X.2.2.2.2.2.2.2.2.2.2.2.2.2.2.1
abbrev xk (X : bf_X) : Nat := X.2.2.2.2.2.2.2.2.2.2.2.2.2.2.2.1
abbrev xn (X : bf_X) : Nat := X.2.2.2.2.2.2.2.2.2.2.2.2.2.2.2.2
def bf_tys (ac : Nat → ClassId) : List (ClassId × FieldType) := [(ac 0, .int), (ac 1, .long), (ac 2, .char)]
def bf_isN : Cond → Bool
  | .fieldLinkNest .. => true
  | .methodLinkNest .. => true
  | _ => false
def bf_N (U : State) : Prop := ∀ w ∈ lw_tbl, bf_isN w = true → va_Nw w U
theorem bf_N.warm {s U : State} (h : bf_N s) (hW : s.WarmedH U.vm) : bf_N U := by
  intro w hw hn
  have h1 := h w hw hn
  cases w <;> first | (simp [bf_isN] at hn; done) | exact va_Nw.warmF hW h1 | exact va_Nw.warmM hW h1
theorem bf_N.same {s U : State} (h : bf_N s) (hv : s.vm = U.vm) : bf_N U := by
  intro w hw hn
  have h1 := h w hw hn
  cases w <;> first | (simp [bf_isN] at hn; done) | exact va_Nw.same rfl hv h1
def lw_good : List Cond := lw_tbl.filter goodWord
def bf_ws (y : MethodName) (cc : ByteArray) (n : Nat) (ret : Option FieldType) : List Cond := Cond.code y cc n ret :: lw_good
/-- what holds all through a method: machine, code, tables, classes, nest, return type, no locks; what is new may be written -/
def bf_C (X : bf_X) (own : String) (cc : ByteArray) (nL : Nat) (ret : Option FieldType) : Prop :=
  (xp X).tables.exec = Jvm.exec ∧ (xc X).code = cc ∧ (xc X).maxLocals = nL ∧ (xs X).vm.findClass own = some (xm X).cls ∧ (∀ w ∈ lw_good, w.before (xa X) (xs X) = true) ∧ va_K (xdC X, xdI X) bf_cl (bf_tys (xac X)) (xs X) ∧ bf_N (xs X) ∧ (xh X).sig.returnType = ret ∧ (xh X).locks = false ∧ (∀ q : Nat, (xs X).heap.size ≤ q → xA X q)
/-- from pc, with these locals, this stack and this world, the machine comes to Q -/
def bf_A (X : bf_X) (Q : State → Prop) (nL : Nat) (pc : Nat) (lv : bf_V) (st : List Value) (w : bf_W) : Prop :=
  ∀ (H : Heap) (locs : List Loc) (ls : Array Slot), va_P (xdC X, xdI X) bf_cl (bf_cw (xac X) (xal X) w) H → va_D (xA X) (bf_cw (xac X) (xal X) w) → va_S (xA X) (xs X).heap H locs → bf_L (xal X) ls nL lv →
    W (xp X) (xl X) (xe X) (xR X) (xs X) (xm X) (xa X) (xb X) (xh X) (xc X) H locs (xk X) (xn X) Q (F0 (xm X) pc ls (st.map (bf_cv (xal X))))
def bf_D (cc : ByteArray) (pc : Nat) (i : Instr) (n pc2 : Nat) : Prop := decode cc pc = .ok (i, n) ∧ pc + n = pc2
def bf_J (pc : Nat) (off : Int) (tgt : Nat) : Prop := (pc : Int) + off = (tgt : Int)
theorem bf_mem {L : List Cond} {w : Cond} (i : Nat) (h : L[i]? = some w) : w ∈ L := List.mem_of_getElem? h
theorem bf_gd {w : Cond} (h : w ∈ lw_tbl) (hg : goodWord w = true) : w ∈ lw_good := List.mem_filter.mpr ⟨h, hg⟩
section BFR
variable {X : bf_X} {Q : State → Prop} {own : String} {cc : ByteArray} {nL : Nat} {ret : Option FieldType} {pc pc2 : Nat} {lv : bf_V} {st : List Value} {w : bf_W}
theorem bs_weak {lv2 : bf_V} (hs : bf_sub lv2 lv) (k : bf_A X Q nL pc lv2 st w) : bf_A X Q nL pc lv st w := fun H locs ls hP hD hS hL => k H locs ls hP hD hS (hL.weak hs)

theorem bs_iconst (C : bf_C X own cc nL ret) {n : Int} (hd : bf_D cc pc (.iconst n) 1 pc2) (v : Int32) (hv : Int32.ofInt n = v) (k : bf_A X Q nL pc2 lv (.int v :: st) w) : bf_A X Q nL pc lv (st) w := by
  intro H locs ls hP hD hS hL
  obtain ⟨hd, rfl⟩ := hd
  exact lv_iconst C.1 C.2.1 hd hv (k H locs ls hP hD hS hL)
theorem bs_bipush (C : bf_C X own cc nL ret) {n : Int} (hd : bf_D cc pc (.bipush n) 2 pc2) (v : Int32) (hv : (Int8.ofInt n).toInt32 = v) (k : bf_A X Q nL pc2 lv (.int v :: st) w) : bf_A X Q nL pc lv (st) w := by
  intro H locs ls hP hD hS hL
  obtain ⟨hd, rfl⟩ := hd
  exact lv_bipush C.1 C.2.1 hd hv (k H locs ls hP hD hS hL)
theorem bs_sipush (C : bf_C X own cc nL ret) {n : Int} (hd : bf_D cc pc (.sipush n) 3 pc2) (v : Int32) (hv : (Int16.ofInt n).toInt32 = v) (k : bf_A X Q nL pc2 lv (.int v :: st) w) : bf_A X Q nL pc lv (st) w := by
  intro H locs ls hP hD hS hL
  obtain ⟨hd, rfl⟩ := hd
  exact lv_sipush C.1 C.2.1 hd hv (k H locs ls hP hD hS hL)
theorem bs_lconst (C : bf_C X own cc nL ret) {n : Fin 2} (hd : bf_D cc pc (.lconst n) 1 pc2) (v : Int64) (hv : Int64.ofNat (n : Nat) = v) (k : bf_A X Q nL pc2 lv (.long v :: st) w) : bf_A X Q nL pc lv (st) w := by
  intro H locs ls hP hD hS hL
  obtain ⟨hd, rfl⟩ := hd
  exact lv_lconst C.1 C.2.1 hd hv (k H locs ls hP hD hS hL)
theorem bs_ldc (C : bf_C X own cc nL ret) {i : Nat} {v : Int32} (hd : bf_D cc pc (.ldc i) 2 pc2) (hc : Cond.constant own i v ∈ lw_good) (k : bf_A X Q nL pc2 lv (.int v :: st) w) : bf_A X Q nL pc lv (st) w := by
  intro H locs ls hP hD hS hL
  obtain ⟨hd, rfl⟩ := hd
  exact lv_ldc C.1 C.2.1 C.2.2.2.1 (C.2.2.2.2.1 _ hc) hd (k H locs ls hP hD hS hL)
theorem bs_ldcw (C : bf_C X own cc nL ret) {i : Nat} {v : Int32} (hd : bf_D cc pc (.ldc_w i) 3 pc2) (hc : Cond.constant own i v ∈ lw_good) (k : bf_A X Q nL pc2 lv (.int v :: st) w) : bf_A X Q nL pc lv (st) w := by
  intro H locs ls hP hD hS hL
  obtain ⟨hd, rfl⟩ := hd
  exact lv_ldcw C.1 C.2.1 C.2.2.2.1 (C.2.2.2.2.1 _ hc) hd (k H locs ls hP hD hS hL)
theorem bs_ldc2 (C : bf_C X own cc nL ret) {i : Nat} {v : Int64} (hd : bf_D cc pc (.ldc2_w i) 3 pc2) (hc : Cond.constantLong own i v ∈ lw_good) (k : bf_A X Q nL pc2 lv (.long v :: st) w) : bf_A X Q nL pc lv (st) w := by
  intro H locs ls hP hD hS hL
  obtain ⟨hd, rfl⟩ := hd
  exact lv_ldc2 C.1 C.2.1 C.2.2.2.1 (C.2.2.2.2.1 _ hc) hd (k H locs ls hP hD hS hL)
theorem bs_iload_n (C : bf_C X own cc nL ret) {k : Fin 4} {x : Int32} (hd : bf_D cc pc (.iload_n k) 1 pc2) (hl : lv[(k : Nat)]? = some (some (.int x))) (k : bf_A X Q nL pc2 lv (.int x :: st) w) : bf_A X Q nL pc lv (st) w := by
  intro H locs ls hP hD hS hL
  obtain ⟨hd, rfl⟩ := hd
  exact lv_iload_n C.1 C.2.1 hd rfl (hL.2.2 _ _ hl) (k H locs ls hP hD hS hL)
theorem bs_iload (C : bf_C X own cc nL ret) {i : Nat} {x : Int32} (hd : bf_D cc pc (.iload i) 2 pc2) (hl : lv[i]? = some (some (.int x))) (k : bf_A X Q nL pc2 lv (.int x :: st) w) : bf_A X Q nL pc lv (st) w := by
  intro H locs ls hP hD hS hL
  obtain ⟨hd, rfl⟩ := hd
  exact lv_iload C.1 C.2.1 hd (hL.2.2 _ _ hl) (k H locs ls hP hD hS hL)
theorem bs_lload_n (C : bf_C X own cc nL ret) {k : Fin 4} {x : Int64} (hd : bf_D cc pc (.lload_n k) 1 pc2) (hl : lv[(k : Nat)]? = some (some (.long x))) (k : bf_A X Q nL pc2 lv (.long x :: st) w) : bf_A X Q nL pc lv (st) w := by
  intro H locs ls hP hD hS hL
  obtain ⟨hd, rfl⟩ := hd
  exact lv_lload_n C.1 C.2.1 hd rfl (hL.2.2 _ _ hl) (k H locs ls hP hD hS hL)
theorem bs_lload (C : bf_C X own cc nL ret) {i : Nat} {x : Int64} (hd : bf_D cc pc (.lload i) 2 pc2) (hl : lv[i]? = some (some (.long x))) (k : bf_A X Q nL pc2 lv (.long x :: st) w) : bf_A X Q nL pc lv (st) w := by
  intro H locs ls hP hD hS hL
  obtain ⟨hd, rfl⟩ := hd
  exact lv_lload C.1 C.2.1 hd (hL.2.2 _ _ hl) (k H locs ls hP hD hS hL)
theorem bs_aload_n (C : bf_C X own cc nL ret) {k : Fin 4} {x : Nat} (hd : bf_D cc pc (.aload_n k) 1 pc2) (hl : lv[(k : Nat)]? = some (some (.ref x))) (k : bf_A X Q nL pc2 lv (.ref x :: st) w) : bf_A X Q nL pc lv (st) w := by
  intro H locs ls hP hD hS hL
  obtain ⟨hd, rfl⟩ := hd
  exact lv_aload_n C.1 C.2.1 hd rfl (hL.2.2 _ _ hl) (k H locs ls hP hD hS hL)
theorem bs_aload (C : bf_C X own cc nL ret) {i : Nat} {x : Nat} (hd : bf_D cc pc (.aload i) 2 pc2) (hl : lv[i]? = some (some (.ref x))) (k : bf_A X Q nL pc2 lv (.ref x :: st) w) : bf_A X Q nL pc lv (st) w := by
  intro H locs ls hP hD hS hL
  obtain ⟨hd, rfl⟩ := hd
  exact lv_aload C.1 C.2.1 hd (hL.2.2 _ _ hl) (k H locs ls hP hD hS hL)
theorem bs_istore_n (C : bf_C X own cc nL ret) {k : Fin 4} {i : Nat} {x : Int32} (hd : bf_D cc pc (.istore_n k) 1 pc2) (hi : (k : Nat) = i) (hn : i < nL) (hlen : lv.length ≤ nL) {lv2 : bf_V} (hlv2 : bf_st1 lv i (.int x) = lv2) (k : bf_A X Q nL pc2 lv2 st w) : bf_A X Q nL pc lv (.int x :: st) w := by
  intro H locs ls hP hD hS hL
  obtain ⟨hd, rfl⟩ := hd
  subst hlv2
  exact lv_istore_n C.1 C.2.1 hd hi (bf_has hL) hn rfl (fun ls2 h2 => k H locs ls2 hP hD hS (bf_L1 (v := .int x) rfl h2.1 h2 hlen))
theorem bs_istore (C : bf_C X own cc nL ret) {i : Nat} {x : Int32} (hd : bf_D cc pc (.istore i) 2 pc2) (hn : i < nL) (hlen : lv.length ≤ nL) {lv2 : bf_V} (hlv2 : bf_st1 lv i (.int x) = lv2) (k : bf_A X Q nL pc2 lv2 st w) : bf_A X Q nL pc lv (.int x :: st) w := by
  intro H locs ls hP hD hS hL
  obtain ⟨hd, rfl⟩ := hd
  subst hlv2
  exact lv_istore C.1 C.2.1 hd (bf_has hL) hn rfl (fun ls2 h2 => k H locs ls2 hP hD hS (bf_L1 (v := .int x) rfl h2.1 h2 hlen))
theorem bs_lstore_n (C : bf_C X own cc nL ret) {k : Fin 4} {i : Nat} {x : Int64} (hd : bf_D cc pc (.lstore_n k) 1 pc2) (hi : (k : Nat) = i) (hn : i + 1 < nL) (hlen : lv.length ≤ nL) {lv2 : bf_V} (hlv2 : bf_st2 lv i (.long x) = lv2) (k : bf_A X Q nL pc2 lv2 st w) : bf_A X Q nL pc lv (.long x :: st) w := by
  intro H locs ls hP hD hS hL
  obtain ⟨hd, rfl⟩ := hd
  subst hlv2
  exact lv_lstore_n C.1 C.2.1 hd hi (bf_has hL) hn rfl (fun ls2 h2 => k H locs ls2 hP hD hS (bf_L2 (v := .long x) rfl h2.1 h2 hlen))
theorem bs_lstore (C : bf_C X own cc nL ret) {i : Nat} {x : Int64} (hd : bf_D cc pc (.lstore i) 2 pc2) (hn : i + 1 < nL) (hlen : lv.length ≤ nL) {lv2 : bf_V} (hlv2 : bf_st2 lv i (.long x) = lv2) (k : bf_A X Q nL pc2 lv2 st w) : bf_A X Q nL pc lv (.long x :: st) w := by
  intro H locs ls hP hD hS hL
  obtain ⟨hd, rfl⟩ := hd
  subst hlv2
  exact lv_lstore C.1 C.2.1 hd (bf_has hL) hn rfl (fun ls2 h2 => k H locs ls2 hP hD hS (bf_L2 (v := .long x) rfl h2.1 h2 hlen))
theorem bs_astore_n (C : bf_C X own cc nL ret) {k : Fin 4} {i : Nat} {x : Nat} (hd : bf_D cc pc (.astore_n k) 1 pc2) (hi : (k : Nat) = i) (hn : i < nL) (hlen : lv.length ≤ nL) {lv2 : bf_V} (hlv2 : bf_st1 lv i (.ref x) = lv2) (k : bf_A X Q nL pc2 lv2 st w) : bf_A X Q nL pc lv (.ref x :: st) w := by
  intro H locs ls hP hD hS hL
  obtain ⟨hd, rfl⟩ := hd
  subst hlv2
  exact lv_astore_n C.1 C.2.1 hd hi (bf_has hL) hn rfl (fun ls2 h2 => k H locs ls2 hP hD hS (bf_L1 (v := .ref x) rfl h2.1 h2 hlen))
theorem bs_astore (C : bf_C X own cc nL ret) {i : Nat} {x : Nat} (hd : bf_D cc pc (.astore i) 2 pc2) (hn : i < nL) (hlen : lv.length ≤ nL) {lv2 : bf_V} (hlv2 : bf_st1 lv i (.ref x) = lv2) (k : bf_A X Q nL pc2 lv2 st w) : bf_A X Q nL pc lv (.ref x :: st) w := by
  intro H locs ls hP hD hS hL
  obtain ⟨hd, rfl⟩ := hd
  subst hlv2
  exact lv_astore C.1 C.2.1 hd (bf_has hL) hn rfl (fun ls2 h2 => k H locs ls2 hP hD hS (bf_L1 (v := .ref x) rfl h2.1 h2 hlen))
theorem bs_iinc (C : bf_C X own cc nL ret) {i : Nat} {n : Int} {x : Int32} (hd : bf_D cc pc (.iinc i n) 3 pc2) (v : Int32) (hl : lv[i]? = some (some (.int x))) (hv : x + Int32.ofInt n = v) (hn : i < nL) (hlen : lv.length ≤ nL) {lv2 : bf_V} (hlv2 : bf_st1 lv i (.int v) = lv2) (k : bf_A X Q nL pc2 lv2 st w) : bf_A X Q nL pc lv st w := by
  intro H locs ls hP hD hS hL
  obtain ⟨hd, rfl⟩ := hd
  subst hlv2
  obtain ⟨j, hj⟩ := List.getElem?_of_mem (bf_list_mem (al := xal X) (nL := nL) hl hn)
  exact lv_iinc C.1 C.2.1 hd (bf_has hL) hj hv hn rfl (fun ls2 h2 => k H locs ls2 hP hD hS (bf_L1 (v := .int v) rfl h2.1 h2 hlen))
theorem bs_iadd (C : bf_C X own cc nL ret) {x y : Int32} (hd : bf_D cc pc .iadd 1 pc2)  (k : bf_A X Q nL pc2 lv (.int (x + y) :: st) w) : bf_A X Q nL pc lv (.int y :: .int x :: st) w := by
  intro H locs ls hP hD hS hL
  obtain ⟨hd, rfl⟩ := hd
  exact lv_iadd C.1 C.2.1 hd (k H locs ls hP hD hS hL)
theorem bs_isub (C : bf_C X own cc nL ret) {x y : Int32} (hd : bf_D cc pc .isub 1 pc2)  (k : bf_A X Q nL pc2 lv (.int (x - y) :: st) w) : bf_A X Q nL pc lv (.int y :: .int x :: st) w := by
  intro H locs ls hP hD hS hL
  obtain ⟨hd, rfl⟩ := hd
  exact lv_isub C.1 C.2.1 hd (k H locs ls hP hD hS hL)
theorem bs_imul (C : bf_C X own cc nL ret) {x y : Int32} (hd : bf_D cc pc .imul 1 pc2)  (k : bf_A X Q nL pc2 lv (.int (x * y) :: st) w) : bf_A X Q nL pc lv (.int y :: .int x :: st) w := by
  intro H locs ls hP hD hS hL
  obtain ⟨hd, rfl⟩ := hd
  exact lv_imul C.1 C.2.1 hd (k H locs ls hP hD hS hL)
theorem bs_iand (C : bf_C X own cc nL ret) {x y : Int32} (hd : bf_D cc pc .iand 1 pc2)  (k : bf_A X Q nL pc2 lv (.int (x &&& y) :: st) w) : bf_A X Q nL pc lv (.int y :: .int x :: st) w := by
  intro H locs ls hP hD hS hL
  obtain ⟨hd, rfl⟩ := hd
  exact lv_iand C.1 C.2.1 hd (k H locs ls hP hD hS hL)
theorem bs_ior (C : bf_C X own cc nL ret) {x y : Int32} (hd : bf_D cc pc .ior 1 pc2)  (k : bf_A X Q nL pc2 lv (.int (x ||| y) :: st) w) : bf_A X Q nL pc lv (.int y :: .int x :: st) w := by
  intro H locs ls hP hD hS hL
  obtain ⟨hd, rfl⟩ := hd
  exact lv_ior C.1 C.2.1 hd (k H locs ls hP hD hS hL)
theorem bs_ixor (C : bf_C X own cc nL ret) {x y : Int32} (hd : bf_D cc pc .ixor 1 pc2)  (k : bf_A X Q nL pc2 lv (.int (x ^^^ y) :: st) w) : bf_A X Q nL pc lv (.int y :: .int x :: st) w := by
  intro H locs ls hP hD hS hL
  obtain ⟨hd, rfl⟩ := hd
  exact lv_ixor C.1 C.2.1 hd (k H locs ls hP hD hS hL)
theorem bs_ishl (C : bf_C X own cc nL ret) {x y : Int32} (hd : bf_D cc pc .ishl 1 pc2)  (k : bf_A X Q nL pc2 lv (.int (x <<< (y &&& 31)) :: st) w) : bf_A X Q nL pc lv (.int y :: .int x :: st) w := by
  intro H locs ls hP hD hS hL
  obtain ⟨hd, rfl⟩ := hd
  exact lv_ishl C.1 C.2.1 hd (k H locs ls hP hD hS hL)
theorem bs_ishr (C : bf_C X own cc nL ret) {x y : Int32} (hd : bf_D cc pc .ishr 1 pc2)  (k : bf_A X Q nL pc2 lv (.int (x >>> (y &&& 31)) :: st) w) : bf_A X Q nL pc lv (.int y :: .int x :: st) w := by
  intro H locs ls hP hD hS hL
  obtain ⟨hd, rfl⟩ := hd
  exact lv_ishr C.1 C.2.1 hd (k H locs ls hP hD hS hL)
theorem bs_idiv (C : bf_C X own cc nL ret) {x y : Int32} (hd : bf_D cc pc .idiv 1 pc2)  (hne : ¬ y = 0) (k : bf_A X Q nL pc2 lv (.int (x / y) :: st) w) : bf_A X Q nL pc lv (.int y :: .int x :: st) w := by
  intro H locs ls hP hD hS hL
  obtain ⟨hd, rfl⟩ := hd
  exact lv_idiv C.1 C.2.1 hd hne (k H locs ls hP hD hS hL)
theorem bs_irem (C : bf_C X own cc nL ret) {x y : Int32} (hd : bf_D cc pc .irem 1 pc2)  (hne : ¬ y = 0) (k : bf_A X Q nL pc2 lv (.int (x - x / y * y) :: st) w) : bf_A X Q nL pc lv (.int y :: .int x :: st) w := by
  intro H locs ls hP hD hS hL
  obtain ⟨hd, rfl⟩ := hd
  exact lv_irem C.1 C.2.1 hd hne (k H locs ls hP hD hS hL)
theorem bs_iushr (C : bf_C X own cc nL ret) {x y : Int32} (hd : bf_D cc pc .iushr 1 pc2)  (k : bf_A X Q nL pc2 lv (.int ((x.toUInt32 >>> (y.toUInt32 &&& Int32.toUInt32 31)).toInt32) :: st) w) : bf_A X Q nL pc lv (.int y :: .int x :: st) w := by
  intro H locs ls hP hD hS hL
  obtain ⟨hd, rfl⟩ := hd
  exact lv_iushr C.1 C.2.1 hd rfl (k H locs ls hP hD hS hL)
theorem bs_ladd (C : bf_C X own cc nL ret) {x y : Int64} (hd : bf_D cc pc .ladd 1 pc2)  (k : bf_A X Q nL pc2 lv (.long (x + y) :: st) w) : bf_A X Q nL pc lv (.long y :: .long x :: st) w := by
  intro H locs ls hP hD hS hL
  obtain ⟨hd, rfl⟩ := hd
  exact lv_ladd C.1 C.2.1 hd (k H locs ls hP hD hS hL)
theorem bs_lsub (C : bf_C X own cc nL ret) {x y : Int64} (hd : bf_D cc pc .lsub 1 pc2)  (k : bf_A X Q nL pc2 lv (.long (x - y) :: st) w) : bf_A X Q nL pc lv (.long y :: .long x :: st) w := by
  intro H locs ls hP hD hS hL
  obtain ⟨hd, rfl⟩ := hd
  exact lv_lsub C.1 C.2.1 hd (k H locs ls hP hD hS hL)
theorem bs_land (C : bf_C X own cc nL ret) {x y : Int64} (hd : bf_D cc pc .land 1 pc2)  (k : bf_A X Q nL pc2 lv (.long (x &&& y) :: st) w) : bf_A X Q nL pc lv (.long y :: .long x :: st) w := by
  intro H locs ls hP hD hS hL
  obtain ⟨hd, rfl⟩ := hd
  exact lv_land C.1 C.2.1 hd (k H locs ls hP hD hS hL)
theorem bs_lor (C : bf_C X own cc nL ret) {x y : Int64} (hd : bf_D cc pc .lor 1 pc2)  (k : bf_A X Q nL pc2 lv (.long (x ||| y) :: st) w) : bf_A X Q nL pc lv (.long y :: .long x :: st) w := by
  intro H locs ls hP hD hS hL
  obtain ⟨hd, rfl⟩ := hd
  exact lv_lor C.1 C.2.1 hd (k H locs ls hP hD hS hL)
theorem bs_lxor (C : bf_C X own cc nL ret) {x y : Int64} (hd : bf_D cc pc .lxor 1 pc2)  (k : bf_A X Q nL pc2 lv (.long (x ^^^ y) :: st) w) : bf_A X Q nL pc lv (.long y :: .long x :: st) w := by
  intro H locs ls hP hD hS hL
  obtain ⟨hd, rfl⟩ := hd
  exact lv_lxor C.1 C.2.1 hd (k H locs ls hP hD hS hL)
theorem bs_lushr (C : bf_C X own cc nL ret) {x : Int64} {y : Int32} (hd : bf_D cc pc .lushr 1 pc2)  (k : bf_A X Q nL pc2 lv (.long ((x.toUInt64 >>> (y.toInt64.toUInt64 &&& Int64.toUInt64 63)).toInt64) :: st) w) : bf_A X Q nL pc lv (.int y :: .long x :: st) w := by
  intro H locs ls hP hD hS hL
  obtain ⟨hd, rfl⟩ := hd
  exact lv_lushr C.1 C.2.1 hd rfl (k H locs ls hP hD hS hL)
theorem bs_lshl (C : bf_C X own cc nL ret) {x : Int64} {y : Int32} (hd : bf_D cc pc .lshl 1 pc2)  (k : bf_A X Q nL pc2 lv (.long (x <<< (y.toInt64 &&& 63)) :: st) w) : bf_A X Q nL pc lv (.int y :: .long x :: st) w := by
  intro H locs ls hP hD hS hL
  obtain ⟨hd, rfl⟩ := hd
  exact lv_lshl C.1 C.2.1 hd rfl (k H locs ls hP hD hS hL)
theorem bs_i2l (C : bf_C X own cc nL ret) {x : Int32} (hd : bf_D cc pc .i2l 1 pc2)  (k : bf_A X Q nL pc2 lv (.long x.toInt64 :: st) w) : bf_A X Q nL pc lv (.int x :: st) w := by
  intro H locs ls hP hD hS hL
  obtain ⟨hd, rfl⟩ := hd
  exact lv_i2l C.1 C.2.1 hd rfl (k H locs ls hP hD hS hL)
theorem bs_l2i (C : bf_C X own cc nL ret) {x : Int64} (hd : bf_D cc pc .l2i 1 pc2)  (k : bf_A X Q nL pc2 lv (.int x.toInt32 :: st) w) : bf_A X Q nL pc lv (.long x :: st) w := by
  intro H locs ls hP hD hS hL
  obtain ⟨hd, rfl⟩ := hd
  exact lv_l2i C.1 C.2.1 hd rfl (k H locs ls hP hD hS hL)
theorem bs_i2c (C : bf_C X own cc nL ret) {x : Int32} (hd : bf_D cc pc .i2c 1 pc2)  (k : bf_A X Q nL pc2 lv (.int (x.toUInt32 % 65536).toInt32 :: st) w) : bf_A X Q nL pc lv (.int x :: st) w := by
  intro H locs ls hP hD hS hL
  obtain ⟨hd, rfl⟩ := hd
  exact lv_i2c C.1 C.2.1 hd rfl (k H locs ls hP hD hS hL)
theorem bs_lcmp (C : bf_C X own cc nL ret) {x y : Int64} (hd : bf_D cc pc .lcmp 1 pc2)  (k : bf_A X Q nL pc2 lv (.int (lg_cmp x y) :: st) w) : bf_A X Q nL pc lv (.long y :: .long x :: st) w := by
  intro H locs ls hP hD hS hL
  obtain ⟨hd, rfl⟩ := hd
  exact W.lcmp C.1 C.2.1 hd (k H locs ls hP hD hS hL)
theorem bs_dup (C : bf_C X own cc nL ret) {v : Value} (hd : bf_D cc pc .dup 1 pc2) (hv : v.category = 1) (k : bf_A X Q nL pc2 lv (v :: v :: st) w) : bf_A X Q nL pc lv (v :: st) w := by
  intro H locs ls hP hD hS hL
  obtain ⟨hd, rfl⟩ := hd
  exact lv_dup C.1 C.2.1 hd (by rw [bf_cv_cat]; exact hv) (k H locs ls hP hD hS hL)
theorem bs_pop (C : bf_C X own cc nL ret) {v : Value} (hd : bf_D cc pc .pop 1 pc2) (hv : v.category = 1) (k : bf_A X Q nL pc2 lv (st) w) : bf_A X Q nL pc lv (v :: st) w := by
  intro H locs ls hP hD hS hL
  obtain ⟨hd, rfl⟩ := hd
  exact lv_pop C.1 C.2.1 hd (by rw [bf_cv_cat]; exact hv) (k H locs ls hP hD hS hL)
theorem bs_pop2 (C : bf_C X own cc nL ret) {v : Value} (hd : bf_D cc pc .pop2 1 pc2) (hv : v.category = 2) (k : bf_A X Q nL pc2 lv (st) w) : bf_A X Q nL pc lv (v :: st) w := by
  intro H locs ls hP hD hS hL
  obtain ⟨hd, rfl⟩ := hd
  exact lv_pop2_2 C.1 C.2.1 hd (by rw [bf_cv_cat]; exact hv) (k H locs ls hP hD hS hL)
theorem bs_dup2 (C : bf_C X own cc nL ret) {v u : Value} (hd : bf_D cc pc .dup2 1 pc2) (hv : v.category = 1) (hu : u.category = 1) (k : bf_A X Q nL pc2 lv (v :: u :: v :: u :: st) w) : bf_A X Q nL pc lv (v :: u :: st) w := by
  intro H locs ls hP hD hS hL
  obtain ⟨hd, rfl⟩ := hd
  exact lv_dup2_11 C.1 C.2.1 hd (by rw [bf_cv_cat]; exact hv) (by rw [bf_cv_cat]; exact hu) (k H locs ls hP hD hS hL)
theorem bs_dupx1 (C : bf_C X own cc nL ret) {v u : Value} (hd : bf_D cc pc .dup_x1 1 pc2) (hv : v.category = 1) (hu : u.category = 1) (k : bf_A X Q nL pc2 lv (v :: u :: v :: st) w) : bf_A X Q nL pc lv (v :: u :: st) w := by
  intro H locs ls hP hD hS hL
  obtain ⟨hd, rfl⟩ := hd
  exact lv_dup_x1 C.1 C.2.1 hd (by rw [bf_cv_cat]; exact hv) (by rw [bf_cv_cat]; exact hu) (k H locs ls hP hD hS hL)
theorem bs_if_eq (C : bf_C X own cc nL ret) {x : Int32} {off : Int} {tgt : Nat} (hd : bf_D cc pc (.ifCond .eq off) 3 pc2) (ht : bf_J pc off tgt) (kt : x = 0 → bf_A X Q nL tgt lv st w) (kf : ¬ x = 0 → bf_A X Q nL pc2 lv st w) : bf_A X Q nL pc lv (.int x :: st) w := by
  intro H locs ls hP hD hS hL
  obtain ⟨hd, rfl⟩ := hd
  exact lv_if_eq C.1 C.2.1 hd ht (fun c => kt c H locs ls hP hD hS hL) (fun c => kf c H locs ls hP hD hS hL)
theorem bs_icmp_eq (C : bf_C X own cc nL ret) {x y : Int32} {off : Int} {tgt : Nat} (hd : bf_D cc pc (.if_icmp .eq off) 3 pc2) (ht : bf_J pc off tgt) (kt : x = y → bf_A X Q nL tgt lv st w) (kf : ¬ x = y → bf_A X Q nL pc2 lv st w) : bf_A X Q nL pc lv (.int y :: .int x :: st) w := by
  intro H locs ls hP hD hS hL
  obtain ⟨hd, rfl⟩ := hd
  exact lv_icmp_eq C.1 C.2.1 hd ht (fun c => kt c H locs ls hP hD hS hL) (fun c => kf c H locs ls hP hD hS hL)
theorem bs_if_ne (C : bf_C X own cc nL ret) {x : Int32} {off : Int} {tgt : Nat} (hd : bf_D cc pc (.ifCond .ne off) 3 pc2) (ht : bf_J pc off tgt) (kt : ¬ x = 0 → bf_A X Q nL tgt lv st w) (kf : x = 0 → bf_A X Q nL pc2 lv st w) : bf_A X Q nL pc lv (.int x :: st) w := by
  intro H locs ls hP hD hS hL
  obtain ⟨hd, rfl⟩ := hd
  exact lv_if_ne C.1 C.2.1 hd ht (fun c => kt c H locs ls hP hD hS hL) (fun c => kf c H locs ls hP hD hS hL)
theorem bs_icmp_ne (C : bf_C X own cc nL ret) {x y : Int32} {off : Int} {tgt : Nat} (hd : bf_D cc pc (.if_icmp .ne off) 3 pc2) (ht : bf_J pc off tgt) (kt : ¬ x = y → bf_A X Q nL tgt lv st w) (kf : x = y → bf_A X Q nL pc2 lv st w) : bf_A X Q nL pc lv (.int y :: .int x :: st) w := by
  intro H locs ls hP hD hS hL
  obtain ⟨hd, rfl⟩ := hd
  exact lv_icmp_ne C.1 C.2.1 hd ht (fun c => kt c H locs ls hP hD hS hL) (fun c => kf c H locs ls hP hD hS hL)
theorem bs_if_lt (C : bf_C X own cc nL ret) {x : Int32} {off : Int} {tgt : Nat} (hd : bf_D cc pc (.ifCond .lt off) 3 pc2) (ht : bf_J pc off tgt) (kt : x < 0 → bf_A X Q nL tgt lv st w) (kf : ¬ x < 0 → bf_A X Q nL pc2 lv st w) : bf_A X Q nL pc lv (.int x :: st) w := by
  intro H locs ls hP hD hS hL
  obtain ⟨hd, rfl⟩ := hd
  exact lv_if_lt C.1 C.2.1 hd ht (fun c => kt c H locs ls hP hD hS hL) (fun c => kf c H locs ls hP hD hS hL)
theorem bs_icmp_lt (C : bf_C X own cc nL ret) {x y : Int32} {off : Int} {tgt : Nat} (hd : bf_D cc pc (.if_icmp .lt off) 3 pc2) (ht : bf_J pc off tgt) (kt : x < y → bf_A X Q nL tgt lv st w) (kf : ¬ x < y → bf_A X Q nL pc2 lv st w) : bf_A X Q nL pc lv (.int y :: .int x :: st) w := by
  intro H locs ls hP hD hS hL
  obtain ⟨hd, rfl⟩ := hd
  exact lv_icmp_lt C.1 C.2.1 hd ht (fun c => kt c H locs ls hP hD hS hL) (fun c => kf c H locs ls hP hD hS hL)
theorem bs_if_ge (C : bf_C X own cc nL ret) {x : Int32} {off : Int} {tgt : Nat} (hd : bf_D cc pc (.ifCond .ge off) 3 pc2) (ht : bf_J pc off tgt) (kt : 0 ≤ x → bf_A X Q nL tgt lv st w) (kf : ¬ 0 ≤ x → bf_A X Q nL pc2 lv st w) : bf_A X Q nL pc lv (.int x :: st) w := by
  intro H locs ls hP hD hS hL
  obtain ⟨hd, rfl⟩ := hd
  exact lv_if_ge C.1 C.2.1 hd ht (fun c => kt c H locs ls hP hD hS hL) (fun c => kf c H locs ls hP hD hS hL)
theorem bs_icmp_ge (C : bf_C X own cc nL ret) {x y : Int32} {off : Int} {tgt : Nat} (hd : bf_D cc pc (.if_icmp .ge off) 3 pc2) (ht : bf_J pc off tgt) (kt : y ≤ x → bf_A X Q nL tgt lv st w) (kf : ¬ y ≤ x → bf_A X Q nL pc2 lv st w) : bf_A X Q nL pc lv (.int y :: .int x :: st) w := by
  intro H locs ls hP hD hS hL
  obtain ⟨hd, rfl⟩ := hd
  exact lv_icmp_ge C.1 C.2.1 hd ht (fun c => kt c H locs ls hP hD hS hL) (fun c => kf c H locs ls hP hD hS hL)
theorem bs_if_gt (C : bf_C X own cc nL ret) {x : Int32} {off : Int} {tgt : Nat} (hd : bf_D cc pc (.ifCond .gt off) 3 pc2) (ht : bf_J pc off tgt) (kt : 0 < x → bf_A X Q nL tgt lv st w) (kf : ¬ 0 < x → bf_A X Q nL pc2 lv st w) : bf_A X Q nL pc lv (.int x :: st) w := by
  intro H locs ls hP hD hS hL
  obtain ⟨hd, rfl⟩ := hd
  exact lv_if_gt C.1 C.2.1 hd ht (fun c => kt c H locs ls hP hD hS hL) (fun c => kf c H locs ls hP hD hS hL)
theorem bs_icmp_gt (C : bf_C X own cc nL ret) {x y : Int32} {off : Int} {tgt : Nat} (hd : bf_D cc pc (.if_icmp .gt off) 3 pc2) (ht : bf_J pc off tgt) (kt : y < x → bf_A X Q nL tgt lv st w) (kf : ¬ y < x → bf_A X Q nL pc2 lv st w) : bf_A X Q nL pc lv (.int y :: .int x :: st) w := by
  intro H locs ls hP hD hS hL
  obtain ⟨hd, rfl⟩ := hd
  exact lv_icmp_gt C.1 C.2.1 hd ht (fun c => kt c H locs ls hP hD hS hL) (fun c => kf c H locs ls hP hD hS hL)
theorem bs_if_le (C : bf_C X own cc nL ret) {x : Int32} {off : Int} {tgt : Nat} (hd : bf_D cc pc (.ifCond .le off) 3 pc2) (ht : bf_J pc off tgt) (kt : x ≤ 0 → bf_A X Q nL tgt lv st w) (kf : ¬ x ≤ 0 → bf_A X Q nL pc2 lv st w) : bf_A X Q nL pc lv (.int x :: st) w := by
  intro H locs ls hP hD hS hL
  obtain ⟨hd, rfl⟩ := hd
  exact lv_if_le C.1 C.2.1 hd ht (fun c => kt c H locs ls hP hD hS hL) (fun c => kf c H locs ls hP hD hS hL)
theorem bs_icmp_le (C : bf_C X own cc nL ret) {x y : Int32} {off : Int} {tgt : Nat} (hd : bf_D cc pc (.if_icmp .le off) 3 pc2) (ht : bf_J pc off tgt) (kt : x ≤ y → bf_A X Q nL tgt lv st w) (kf : ¬ x ≤ y → bf_A X Q nL pc2 lv st w) : bf_A X Q nL pc lv (.int y :: .int x :: st) w := by
  intro H locs ls hP hD hS hL
  obtain ⟨hd, rfl⟩ := hd
  exact lv_icmp_le C.1 C.2.1 hd ht (fun c => kt c H locs ls hP hD hS hL) (fun c => kf c H locs ls hP hD hS hL)
theorem bs_goto (C : bf_C X own cc nL ret) {off : Int} {tgt : Nat} (hd : bf_D cc pc (.goto off) 3 pc2) (ht : bf_J pc off tgt) (k : bf_A X Q nL tgt lv st w) : bf_A X Q nL pc lv st w := by
  intro H locs ls hP hD hS hL
  obtain ⟨hd, rfl⟩ := hd
  exact lv_goto C.1 C.2.1 hd ht (k H locs ls hP hD hS hL)
theorem bs_table (C : bf_C X own cc nL ret) {x : Int32} {dflt lo hi : Int} {offs : Array Int} {len tdef : Nat} (tg : Nat → Nat) (n : Nat) (hd : bf_D cc pc (.tableswitch dflt lo hi offs) len pc2) (hn : hi - lo + 1 = (n : Int)) (htd : bf_J pc dflt tdef) (ht : ∀ k, k < n → ∃ off, offs[k]? = some off ∧ bf_J pc off (tg k))
    (kd : x.toInt < lo ∨ hi < x.toInt → bf_A X Q nL tdef lv st w) (kc : ∀ k : Nat, k < n → x.toInt = lo + (k : Int) → bf_A X Q nL (tg k) lv st w) : bf_A X Q nL pc lv (.int x :: st) w := by
  intro H locs ls hP hD hS hL
  obtain ⟨hd, rfl⟩ := hd
  by_cases h1 : x.toInt < lo
  · exact lv_tableOut C.1 C.2.1 hd (Or.inl h1) htd (kd (Or.inl h1) H locs ls hP hD hS hL)
  · by_cases h2 : hi < x.toInt
    · exact lv_tableOut C.1 C.2.1 hd (Or.inr h2) htd (kd (Or.inr h2) H locs ls hP hD hS hL)
    · obtain ⟨k, hk⟩ : ∃ k : Nat, (x.toInt - lo).toNat = k := ⟨_, rfl⟩
      have hkn : k < n := by omega
      obtain ⟨off, h3, h4⟩ := ht k hkn
      exact lv_tableIn C.1 C.2.1 hd h1 h2 (by rw [hk]; exact h3) h4 (kc k hkn (by omega) H locs ls hP hD hS hL)
theorem bs_get (C : bf_C X own cc nL ret) {i q ci : Nat} {fs : List Value} {v : Value} {ref R : String} {T : u_T} {N : Nat} (hd : bf_D cc pc (.getfield i) 3 pc2) (hcl : bf_cl[ci]? = some (R, T, N)) (hin : ∀ w ∈ u_ws R T N, w ∈ lw_good) (k : Nat) (hk : k < N) (href : (T k).1 = ref) (hlk : Cond.fieldLink own i ref (T k).2.1 (T k).2.2.1 ∈ lw_good) (he : w[q]? = some (.inr (ci, fs))) (hv : fs[k]? = some v) (kk : bf_A X Q nL pc2 lv (v :: st) w) : bf_A X Q nL pc lv (.ref q :: st) w := by
  intro H locs ls hP hD hS hL
  obtain ⟨hd, rfl⟩ := hd
  subst href
  exact va_get (v := bf_cv (xal X) v) C.1 C.2.1 C.2.2.2.2.1 hin C.2.2.2.1 C.2.2.2.2.2.1 hP q (bf_cw_some he) hcl k hk (C.2.2.2.2.1 _ hlk) (fun _ h => h) (by rw [List.getElem?_map, hv]; rfl) hd (kk H locs ls hP hD hS hL)
theorem bs_getN (C : bf_C X own cc nL ret) {i q ci : Nat} {fs : List Value} {v : Value} {ref host R : String} {T : u_T} {N : Nat} (hd : bf_D cc pc (.getfield i) 3 pc2) (hcl : bf_cl[ci]? = some (R, T, N)) (hin : ∀ w ∈ u_ws R T N, w ∈ lw_good) (k : Nat) (hk : k < N) (href : (T k).1 = ref) (hlk : Cond.fieldLinkNest own i ref (T k).2.1 (T k).2.2.1 host ∈ lw_tbl) (he : w[q]? = some (.inr (ci, fs))) (hv : fs[k]? = some v) (kk : bf_A X Q nL pc2 lv (v :: st) w) : bf_A X Q nL pc lv (.ref q :: st) w := by
  intro H locs ls hP hD hS hL
  obtain ⟨hd, rfl⟩ := hd
  subst href
  exact va_getN (v := bf_cv (xal X) v) C.1 C.2.1 C.2.2.2.2.1 hin C.2.2.2.1 C.2.2.2.2.2.1 hP q (bf_cw_some he) hcl k hk (va_Nw.use rfl (C.2.2.2.2.2.2.1 _ hlk rfl)) (fun _ h => h) (by rw [List.getElem?_map, hv]; rfl) hd (kk H locs ls hP hD hS hL)
theorem bs_put (C : bf_C X own cc nL ret) {i q ci : Nat} {fs : List Value} {v : Value} {ref R : String} {T : u_T} {N : Nat} {ty0 : Nat → FieldType} (hd : bf_D cc pc (.putfield i) 3 pc2) (hty : ∀ k, k < N → parseFieldDescriptor (T k).2.2.1 = some (ty0 k)) (hnm : ∀ a, a < N → ∀ b, b < N → a ≠ b → (T a).2.1 ≠ (T b).2.1) (hcl : bf_cl[ci]? = some (R, T, N)) (hin : ∀ w ∈ u_ws R T N, w ∈ lw_good) (k : Nat) (hk : k < N) (href : (T k).1 = ref) (hlk : Cond.fieldLink own i ref (T k).2.1 (T k).2.2.1 ∈ lw_good) (hfin : (T k).2.2.2 = false) (he : w[q]? = some (.inr (ci, fs))) (hl : k < fs.length) (hn : narrow (ty0 k) (bf_cv (xal X) v) = bf_cv (xal X) v) (hfit : fits (ty0 k) (bf_cv (xal X) v) = true) {w2 : bf_W} (hw2 : w.set q (.inr (ci, fs.set k v)) = w2) (kk : bf_A X Q nL pc2 lv st w2) : bf_A X Q nL pc lv (v :: .ref q :: st) w := by
  intro H locs ls hP hD hS hL
  obtain ⟨hd, rfl⟩ := hd
  subst href
  have hwe : (bf_cw (xac X) (xal X) w).set q (xal X q, .inr (ci, (fs.map (bf_cv (xal X))).set k (bf_cv (xal X) v))) = bf_cw (xac X) (xal X) w2 := by
    rw [← hw2, ← bf_cw_set]
    simp [bf_ce, List.map_set]
  refine va_put (v := bf_cv (xal X) v) (ty := ty0 k) C.1 C.2.1 C.2.2.2.2.1 hin ty0 hty hnm C.2.2.2.1 C.2.2.2.2.2.1 hP hD hS q (bf_cw_some he) hcl k hk (C.2.2.2.2.1 _ hlk) (fun _ h => h) hfin (hty k hk) hn hfit (by simpa using hl) hd (fun H1 locs1 hP1 hD1 hS1 => ?_)
  rw [hwe] at hP1 hD1
  exact kk H1 locs1 ls hP1 hD1 hS1 hL
theorem bs_iald (C : bf_C X own cc nL ret) {q n : Nat} {f : Nat → Int32} {i : Int32} (hd : bf_D cc pc .iaload 1 pc2) (he : w[q]? = some (.inl (0, n, .inl f))) (hin : vp_in i n) (kk : bf_A X Q nL pc2 lv (.int (f i.toNatClampNeg) :: st) w) : bf_A X Q nL pc lv (.int i :: .ref q :: st) w := by
  intro H locs ls hP hD hS hL
  obtain ⟨hd, rfl⟩ := hd
  exact va_iald C.1 C.2.1 C.2.2.2.2.2.1 hP q 0 (bf_cw_some he) rfl hin hd (kk H locs ls hP hD hS hL)
theorem bs_cald (C : bf_C X own cc nL ret) {q n : Nat} {f : Nat → Int32} {i : Int32} (hd : bf_D cc pc .caload 1 pc2) (he : w[q]? = some (.inl (2, n, .inl f))) (hin : vp_in i n) (kk : bf_A X Q nL pc2 lv (.int (f i.toNatClampNeg) :: st) w) : bf_A X Q nL pc lv (.int i :: .ref q :: st) w := by
  intro H locs ls hP hD hS hL
  obtain ⟨hd, rfl⟩ := hd
  exact va_cald C.1 C.2.1 C.2.2.2.2.2.1 hP q 2 (bf_cw_some he) rfl hin hd (kk H locs ls hP hD hS hL)
theorem bs_lald (C : bf_C X own cc nL ret) {q n : Nat} {f : Nat → Int64} {i : Int32} (hd : bf_D cc pc .laload 1 pc2) (he : w[q]? = some (.inl (1, n, .inr (.inl f)))) (hin : vp_in i n) (kk : bf_A X Q nL pc2 lv (.long (f i.toNatClampNeg) :: st) w) : bf_A X Q nL pc lv (.int i :: .ref q :: st) w := by
  intro H locs ls hP hD hS hL
  obtain ⟨hd, rfl⟩ := hd
  exact va_lald C.1 C.2.1 C.2.2.2.2.2.1 hP q 1 (bf_cw_some he) rfl hin hd (kk H locs ls hP hD hS hL)
theorem bs_alenI (C : bf_C X own cc nL ret) {q n : Nat} {f : Nat → Int32} (hd : bf_D cc pc .arraylength 1 pc2) (v : Int32) (hv : Int32.ofNat n = v) (he : w[q]? = some (.inl (0, n, .inl f))) (kk : bf_A X Q nL pc2 lv (.int v :: st) w) : bf_A X Q nL pc lv (.ref q :: st) w := by
  intro H locs ls hP hD hS hL
  obtain ⟨hd, rfl⟩ := hd
  exact va_alen C.1 C.2.1 C.2.2.2.2.2.1 hP q 0 (bf_cw_some he) rfl hv hd (kk H locs ls hP hD hS hL)
theorem bs_iast (C : bf_C X own cc nL ret) {q n : Nat} {f : Nat → Int32} {i x : Int32} (hd : bf_D cc pc .iastore 1 pc2) (he : w[q]? = some (.inl (0, n, .inl f))) (hin : vp_in i n) {w2 : bf_W} (hw2 : w.set q (.inl (0, n, .inl (upd f i.toNatClampNeg x))) = w2) (kk : bf_A X Q nL pc2 lv st w2) : bf_A X Q nL pc lv (.int x :: .int i :: .ref q :: st) w := by
  intro H locs ls hP hD hS hL
  obtain ⟨hd, rfl⟩ := hd
  have hwe := bf_cw_set (xac X) (xal X) w q (.inl (0, n, .inl (upd f i.toNatClampNeg x)))
  rw [hw2] at hwe
  refine va_iast C.1 C.2.1 C.2.2.2.2.2.1 hP hD hS q 0 (bf_cw_some he) rfl hin hd (fun H1 locs1 hP1 hD1 hS1 => ?_)
  exact kk H1 locs1 ls (hwe ▸ hP1) (hwe ▸ hD1) hS1 hL
theorem bs_cast (C : bf_C X own cc nL ret) {q n : Nat} {f : Nat → Int32} {i x : Int32} (hd : bf_D cc pc .castore 1 pc2) (he : w[q]? = some (.inl (2, n, .inl f))) (hin : vp_in i n) {w2 : bf_W} (hw2 : w.set q (.inl (2, n, .inl (upd f i.toNatClampNeg (vp_nar .char x)))) = w2) (kk : bf_A X Q nL pc2 lv st w2) : bf_A X Q nL pc lv (.int x :: .int i :: .ref q :: st) w := by
  intro H locs ls hP hD hS hL
  obtain ⟨hd, rfl⟩ := hd
  have hwe := bf_cw_set (xac X) (xal X) w q (.inl (2, n, .inl (upd f i.toNatClampNeg (vp_nar .char x))))
  rw [hw2] at hwe
  refine va_cast C.1 C.2.1 C.2.2.2.2.2.1 hP hD hS q 2 (bf_cw_some he) rfl hin hd (fun H1 locs1 hP1 hD1 hS1 => ?_)
  exact kk H1 locs1 ls (hwe ▸ hP1) (hwe ▸ hD1) hS1 hL
theorem bs_last (C : bf_C X own cc nL ret) {q n : Nat} {f : Nat → Int64} {i : Int32} {x : Int64} (hd : bf_D cc pc .lastore 1 pc2) (he : w[q]? = some (.inl (1, n, .inr (.inl f)))) (hin : vp_in i n) {w2 : bf_W} (hw2 : w.set q (.inl (1, n, .inr (.inl (vp_updL f i.toNatClampNeg x)))) = w2) (kk : bf_A X Q nL pc2 lv st w2) : bf_A X Q nL pc lv (.long x :: .int i :: .ref q :: st) w := by
  intro H locs ls hP hD hS hL
  obtain ⟨hd, rfl⟩ := hd
  have hwe := bf_cw_set (xac X) (xal X) w q (.inl (1, n, .inr (.inl (vp_updL f i.toNatClampNeg x))))
  rw [hw2] at hwe
  refine va_last C.1 C.2.1 C.2.2.2.2.2.1 hP hD hS q 1 (bf_cw_some he) rfl hin hd (fun H1 locs1 hP1 hD1 hS1 => ?_)
  exact kk H1 locs1 ls (hwe ▸ hP1) (hwe ▸ hD1) hS1 hL
theorem bs_name {x : Int32} (k : ∀ v : Int32, v = x → bf_A X Q nL pc lv (.int v :: st) w) : bf_A X Q nL pc lv (.int x :: st) w := k x rfl
theorem bs_nameL {x : Int64} (k : ∀ v : Int64, v = x → bf_A X Q nL pc lv (.long v :: st) w) : bf_A X Q nL pc lv (.long x :: st) w := k x rfl
theorem bs_nameS {T : Type} (wf : T → bf_W) {x : T} (k : ∀ S : T, S = x → bf_A X Q nL pc lv st (wf S)) : bf_A X Q nL pc lv st (wf x) := k x rfl
end BFR

