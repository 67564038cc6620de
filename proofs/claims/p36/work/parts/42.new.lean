/-! CONSTRUCTORS: worlds that grow; a new cell's place is the world's length -/
def bf_ua (al : Nat → Nat) (n q : Nat) : Nat → Nat := fun i => if i = n then q else al i
def bf_Xn (X : bf_X) (al : Nat → Nat) (dk dn : Nat) : bf_X := (xp X, xl X, xe X, xR X, xs X, xm X, xa X, xb X, xh X, xc X, xdC X, xdI X, xac X, al, xA X, xk X + dk, xn X + dn)
theorem bf_C.grow {X : bf_X} {own : String} {cc : ByteArray} {nL : Nat} {ret : Option FieldType} (h : bf_C X own cc nL ret) (al : Nat → Nat) (dk dn : Nat) : bf_C (bf_Xn X al dk dn) own cc nL ret := h
/-- all references lie below n -/
def bf_bv (n : Nat) : Value → Bool
  | .ref i => decide (i < n ∨ i = 1000)
  | _ => true
/-- no reference; references below m alone -/
def bf_nr : Value → Bool
  | .ref _ => false
  | _ => true
def bf_sv (m : Nat) : Value → Bool
  | .ref i => decide (i < m)
  | _ => true
def bf_se (m : Nat) : bf_E → Bool
  | .inl _ => true
  | .inr o => o.2.all (bf_sv m)
def bf_be (n : Nat) : bf_E → Bool
  | .inl _ => true
  | .inr o => o.2.all (bf_bv n)
def bf_bo (n : Nat) : Option Value → Bool
  | some v => bf_bv n v
  | none => true
theorem bf_cv_low {al al2 : Nat → Nat} {n : Nat} (h : ∀ i, (i < n ∨ i = 1000) → al2 i = al i) {v : Value} (hv : bf_bv n v = true) : bf_cv al2 v = bf_cv al v := by
  cases v <;> first | rfl | (simp only [bf_bv, decide_eq_true_eq] at hv; simp only [bf_cv, h _ hv])
theorem bf_ce_low {ac : Nat → ClassId} {al al2 : Nat → Nat} {n : Nat} (h : ∀ i, (i < n ∨ i = 1000) → al2 i = al i) {e : bf_E} (he : bf_be n e = true) : bf_ce ac al2 e = bf_ce ac al e := by
  cases e with
  | inl a => rfl
  | inr o =>
    simp only [bf_be] at he
    simp only [bf_ce]
    congr 2
    apply List.map_congr_left
    intro v hv
    exact bf_cv_low h (List.all_eq_true.mp he v hv)
theorem bf_cw_low {ac : Nat → ClassId} {al al2 : Nat → Nat} {w : bf_W} {n : Nat} (h : ∀ i, (i < n ∨ i = 1000) → al2 i = al i) (hw : w.length ≤ n) (hb : w.all (bf_be n) = true) : bf_cw ac al2 w = bf_cw ac al w := by
  apply List.ext_getElem?
  intro i
  rw [bf_cw_get, bf_cw_get]
  cases hi : w[i]? with
  | none => rfl
  | some e =>
    have h1 : i < w.length := (List.getElem?_eq_some_iff.mp hi).1
    simp only [Option.map_some, Option.some.injEq]
    rw [h i (Or.inl (by omega)), bf_ce_low h (List.all_eq_true.mp hb e (List.mem_of_getElem? hi))]
theorem bf_cw_app (ac : Nat → ClassId) (al : Nat → Nat) (w w2 : bf_W) : bf_cw ac al (w ++ w2) = bf_cw ac al w ++ w2.mapIdx (fun i e => (al (i + w.length), bf_ce ac al e)) := by
  simp [bf_cw, List.mapIdx_append]
theorem bf_L_low {al al2 : Nat → Nat} {ls : Array Slot} {nL n : Nat} {lv : bf_V} (h : ∀ i, (i < n ∨ i = 1000) → al2 i = al i) (hb : lv.all (bf_bo n) = true) (hL : bf_L al ls nL lv) : bf_L al2 ls nL lv :=
  ⟨hL.1, hL.2.1, fun i v hi => by
    have h1 := List.all_eq_true.mp hb _ (List.mem_of_getElem? hi)
    rw [bf_cv_low h h1]
    exact hL.2.2 i v hi⟩
theorem bf_st_low {al al2 : Nat → Nat} {n : Nat} {st : List Value} (h : ∀ i, (i < n ∨ i = 1000) → al2 i = al i) (hb : st.all (bf_bv n) = true) : st.map (bf_cv al2) = st.map (bf_cv al) :=
  List.map_congr_left (fun v hv => bf_cv_low h (List.all_eq_true.mp hb v hv))
theorem bf_ua_low (al : Nat → Nat) (n q : Nat) (hn : n < 1000) : ∀ i, (i < n ∨ i = 1000) → bf_ua al n q i = al i := fun i hi => if_neg (by omega)
def bf_low (n : Nat) (w : bf_W) (lv : bf_V) (st : List Value) : Bool := (Nat.beq w.length n && Nat.ble (n + 1) 1000) && (w.all (bf_be n) && (lv.all (bf_bo n) && st.all (bf_bv n)))
theorem bf_low_of {n : Nat} {w : bf_W} {lv : bf_V} {st : List Value} (h : bf_low n w lv st = true) : w.length = n ∧ w.all (bf_be n) = true ∧ lv.all (bf_bo n) = true ∧ st.all (bf_bv n) = true ∧ n < 1000 := by
  simp only [bf_low, Bool.and_eq_true] at h
  exact ⟨Nat.eq_of_beq_eq_true h.1.1, h.2.1, h.2.2.1, h.2.2.2, Nat.le_of_ble_eq_true h.1.2⟩
section BFNEW
variable {X : bf_X} {Q : State → Prop} {own : String} {cc : ByteArray} {nL : Nat} {ret : Option FieldType} {pc pc2 : Nat} {lv : bf_V} {st : List Value} {w : bf_W}
theorem bs_new (C : bf_C X own cc nL ret) {index ci N : Nat} {R : String} {T : u_T} {ty : Nat → FieldType} {fs : List Value} (hd : bf_D cc pc (.new index) 3 pc2) (hcl : bf_cl[ci]? = some (R, T, N)) (hin : ∀ w ∈ u_ws R T N, w ∈ lw_good) (hty : ∀ k, k < N → parseFieldDescriptor (T k).2.2.1 = some (ty k)) (hlk : Cond.classLink own index R ∈ lw_good) (hinst : Cond.instantiable R N ∈ lw_good) (hini : Cond.initialized R ∈ lw_good) (n : Nat) (hlow : bf_low n w lv st = true) (hfs : ∀ j, j < N → defaultValue (ty j) = vp_V fs j) (hf0 : fs.all bf_nr = true) (hk : xk X + 1 ≤ (xR X).cells) (hn : xn X + N ≤ (xR X).slots)
    (kk : ∀ q : Nat, bf_A (bf_Xn X (bf_ua (xal X) n q) 1 N) Q nL pc2 lv (.ref n :: st) (w ++ [.inr (ci, fs)])) : bf_A X Q nL pc lv st w := by
  intro H locs ls hP hD hS hL
  obtain ⟨hd, rfl⟩ := hd
  obtain ⟨h1, h2, h3, h4, h5⟩ := bf_low_of hlow
  refine va_new C.1 C.2.1 C.2.2.2.2.1 hin ty hty C.2.2.2.1 (C.2.2.2.2.1 _ hlk) (C.2.2.2.2.1 _ hinst) (C.2.2.2.2.1 _ hini) C.2.2.2.2.2.1 hP hD hS C.2.2.2.2.2.2.2.2.2 hcl hfs hk hn hd (fun q H1 hP1 hD1 hS1 => ?_)
  have hlo := bf_ua_low (xal X) n q h5
  have hfv : fs.map (bf_cv (bf_ua (xal X) n q)) = fs := by
    have e : fs.map (bf_cv (bf_ua (xal X) n q)) = fs.map id := List.map_congr_left (fun v hv => by
      have h9 := List.all_eq_true.mp hf0 v hv
      cases v <;> first | rfl | (simp [bf_nr] at h9))
    rw [e, List.map_id]
  have hwe : bf_cw (xac X) (bf_ua (xal X) n q) (w ++ [.inr (ci, fs)]) = bf_cw (xac X) (xal X) w ++ [(q, .inr (ci, fs))] := by
    rw [bf_cw_app, bf_cw_low hlo (by omega) h2]
    simp [bf_ce, hfv, bf_ua, h1]
  have hq := kk q H1 locs ls (by rw [← hwe] at hP1; exact hP1) (by rw [← hwe] at hD1; exact hD1) hS1 (bf_L_low hlo h3 hL)
  have hst : (Value.ref n :: st).map (bf_cv (bf_ua (xal X) n q)) = .ref q :: st.map (bf_cv (xal X)) := by
    rw [List.map_cons, bf_st_low hlo h4]
    simp [bf_cv, bf_ua]
  have hq2 : W (xp X) (xl X) (xe X) (xR X) (xs X) (xm X) (xa X) (xb X) (xh X) (xc X) H1 locs (xk X + 1) (xn X + N) Q (F0 (xm X) (pc + 3) ls ((Value.ref n :: st).map (bf_cv (bf_ua (xal X) n q)))) := hq
  rw [hst] at hq2
  exact hq2
theorem bs_newarr (C : bf_C X own cc nL ret) {atype : ArrayType} {v : Int32} {N kd : Nat} {ty : FieldType} {a0 : vp_A} (hd : bf_D cc pc (.newarray atype) 2 pc2) (hty : newarray.typeOf atype = ty) (hkd : ∀ ac : Nat → ClassId, (bf_tys ac)[kd]? = some (ac kd, ty)) (hra : ∀ (U : State) (cA : ClassId), va_RA U cA ty → U.vm.findClass ("[" ++ ty.toString) = some cA) (harr : Cond.arrayClass (newarray.typeOf atype) ∈ lw_good) (n : Nat) (hlow : bf_low n w lv st = true) (ha : ∀ cA : ClassId, vp_cell cA a0 = arrV cA N (fun _ => defaultValue ty)) (hv : ¬ v < 0) (hN : v.toNatClampNeg = N) (hbytes : N * componentBytes ty ≤ 536870912) (hk : xk X + 1 ≤ (xR X).cells) (hn : xn X + N ≤ (xR X).slots)
    (kk : ∀ q : Nat, bf_A (bf_Xn X (bf_ua (xal X) n q) 1 N) Q nL pc2 lv (.ref n :: st) (w ++ [.inl (kd, a0)])) : bf_A X Q nL pc lv (.int v :: st) w := by
  intro H locs ls hP hD hS hL
  obtain ⟨hd, rfl⟩ := hd
  obtain ⟨h1, h2, h3, h4, h5⟩ := bf_low_of hlow
  refine va_newa (atype := atype) C.1 C.2.1 (C.2.2.2.2.1 _ harr) hty C.2.2.2.2.2.1 hP hD hS C.2.2.2.2.2.2.2.2.2 ha hv hN hbytes hk hn hd (fun q cA H1 hK1 hP1 hD1 hS1 => ?_)
  have hcA : cA = xac X kd := by
    have e1 := hra _ _ ((hK1.2 3 (cA, ty) (by simp [bf_tys])).2)
    have e2 := hra _ _ ((C.2.2.2.2.2.1.2 kd (xac X kd, ty) (hkd (xac X))).2)
    exact Option.some.inj (e1.symm.trans e2)
  subst hcA
  have hlo := bf_ua_low (xal X) n q h5
  have hwe : bf_cw (xac X) (bf_ua (xal X) n q) (w ++ [.inl (kd, a0)]) = bf_cw (xac X) (xal X) w ++ [(q, .inl (xac X kd, a0))] := by
    rw [bf_cw_app, bf_cw_low hlo (by omega) h2]
    simp [bf_ce, bf_ua, h1]
  have hq := kk q H1 locs ls (by rw [← hwe] at hP1; exact hP1) (by rw [← hwe] at hD1; exact hD1) hS1 (bf_L_low hlo h3 hL)
  have hst : (Value.ref n :: st).map (bf_cv (bf_ua (xal X) n q)) = .ref q :: st.map (bf_cv (xal X)) := by
    rw [List.map_cons, bf_st_low hlo h4]
    simp [bf_cv, bf_ua]
  have hq2 : W (xp X) (xl X) (xe X) (xR X) (xs X) (xm X) (xa X) (xb X) (xh X) (xc X) H1 locs (xk X + 1) (xn X + N) Q (F0 (xm X) (pc + 2) ls ((Value.ref n :: st).map (bf_cv (bf_ua (xal X) n q)))) := hq
  rw [hst] at hq2
  exact hq2
theorem bs_objInit (C : bf_C X own cc nL ret) {index q : Nat} (hd : bf_D cc pc (.invokespecial index) 3 pc2) (hlk : Cond.methodLink own index objectInit ∈ lw_good) (hi : Cond.instanceMethod objectInit ∈ lw_good) (hc : Cond.code objectInit ⟨#[0xb1]⟩ 1 none ∈ lw_good) (hfr : 1 ≤ (xR X).frames) (hlo : (st.map fun v => v.category).sum + 12 ≤ (xR X).locals) (kk : bf_A X Q nL pc2 lv st w) : bf_A X Q nL pc lv (.ref q :: st) w := by
  intro H locs ls hP hD hS hL
  obtain ⟨hd, rfl⟩ := hd
  refine W.objInit C.1 C.2.1 C.2.2.2.1 (C.2.2.2.2.1 _ hlk) (C.2.2.2.2.1 _ hi) (C.2.2.2.2.1 _ hc) rfl (hL.1.trans C.2.2.1.symm) rfl hd hfr (by show 2 * 0 + ((st.map (bf_cv (xal X))).map fun v => v.category).sum + 12 ≤ _; rw [bf_rest]; omega) (kk H locs ls hP hD hS hL)
theorem bs_putF (C : bf_C X own cc nL ret) {i q ci : Nat} {fs : List Value} {v : Value} {ref R : String} {T : u_T} {N : Nat} {ty0 : Nat → FieldType} (hd : bf_D cc pc (.putfield i) 3 pc2) (hnmI : (xh X).name = "<init>") (hty : ∀ k, k < N → parseFieldDescriptor (T k).2.2.1 = some (ty0 k)) (hnm : ∀ a, a < N → ∀ b, b < N → a ≠ b → (T a).2.1 ≠ (T b).2.1) (hcl : bf_cl[ci]? = some (R, T, N)) (hin : ∀ w ∈ u_ws R T N, w ∈ lw_good) (k : Nat) (hk : k < N) (href : (T k).1 = ref) (hown : (T k).1 = own) (hlk : Cond.fieldLink own i ref (T k).2.1 (T k).2.2.1 ∈ lw_good) (hfin : (T k).2.2.2 = true) (he : w[q]? = some (.inr (ci, fs))) (hl : k < fs.length) (hn : narrow (ty0 k) (bf_cv (xal X) v) = bf_cv (xal X) v) (hfit : fits (ty0 k) (bf_cv (xal X) v) = true) {w2 : bf_W} (hw2 : w.set q (.inr (ci, fs.set k v)) = w2) (kk : bf_A X Q nL pc2 lv st w2) : bf_A X Q nL pc lv (v :: .ref q :: st) w := by
  intro H locs ls hP hD hS hL
  obtain ⟨hd, rfl⟩ := hd
  subst href
  have hwe : (bf_cw (xac X) (xal X) w).set q (xal X q, .inr (ci, (fs.map (bf_cv (xal X))).set k (bf_cv (xal X) v))) = bf_cw (xac X) (xal X) w2 := by
    rw [← hw2, ← bf_cw_set]
    simp [bf_ce, List.map_set]
  refine va_putF (v := bf_cv (xal X) v) (ty := ty0 k) C.1 C.2.1 C.2.2.2.2.1 hin ty0 hty hnm C.2.2.2.1 C.2.2.2.2.2.1 hP hD hS q (bf_cw_some he) hcl k hk (C.2.2.2.2.1 _ hlk) (fun _ h => h) hfin hnmI hown (hty k hk) hn hfit (by simpa using hl) hd (fun H1 locs1 hP1 hD1 hS1 => ?_)
  rw [hwe] at hP1 hD1
  exact kk H1 locs1 ls hP1 hD1 hS1 hL
end BFNEW
def bf_rmI (fr lo mc ms : Nat) : Room := { frames := fr, cells := mc, slots := ms, locals := lo }
def bf_BI (dC : Nat → ClassId) (dI : Nat → Nat → Nat) (ac : Nat → ClassId) (A : Nat → Prop) {T : Type} (wf : T → bf_W) (u : (Nat → Nat) × T) (t : State) : Prop :=
  va_P (dC, dI) bf_cl (bf_cw ac u.1 (wf u.2)) t.heap ∧ va_K (dC, dI) bf_cl (bf_tys ac) t ∧ va_D A (bf_cw ac u.1 (wf u.2))
/-- a constructor's contract: from the cell w0 of a new object to the world w1; mc cells of ms slots come -/
def bf_MI (l : Launch) (y : MethodName) (cc : ByteArray) (n : Nat) (fr lo mc ms : Nat) (dC : Nat → ClassId) (dI : Nat → Nat → Nat) (ac : Nat → ClassId) (w0 : bf_W) {T : Type} (wf : T → bf_W) (P : T → Prop) : Prop :=
  ∀ (al : Nat → Nat) (sz : Nat), Met l y (bf_ws y cc n none) (bf_rmI fr lo mc ms) (bf_PreG dC dI ac al sz [.ref 0] w0) (va_Qv (fun u : (Nat → Nat) × T => u.1 0 = al 0 ∧ P u.2) (bf_BI dC dI ac (bf_fr ac al w0 sz) wf) (bf_fr ac al w0 sz)) mc ms (bf_fr ac al w0 sz)
def bf_QI (X : bf_X) (mc ms a0 : Nat) {T : Type} (wf : T → bf_W) (P : T → Prop) : State → Prop := MQ (xb X) (va_Qv (fun u : (Nat → Nat) × T => u.1 0 = a0 ∧ P u.2) (bf_BI (xdC X) (xdI X) (xac X) (xA X) wf) (xA X)) (xa X) (xs X) mc ms (xA X)
/-- what a constructor's body has -/
def bf_CI (X : bf_X) (fr lo mc ms : Nat) : Prop := xR X = bf_rmI fr lo mc ms ∧ xk X = 0 ∧ xn X = 0 ∧ (xh X).name = "<init>" ∧ bf_G (xA X) (xs X) (xs X).heap
theorem bf_startI {l : Launch} {y : MethodName} {cc : ByteArray} {n : Nat} {fr lo mc ms : Nat} {dC : Nat → ClassId} {dI : Nat → Nat → Nat} {ac : Nat → ClassId} {w0 : bf_W} {T : Type} {wf : T → bf_W} {P : T → Prop} (lv : bf_V)
    (hy : plainName y.cls = true) (hin : y.name = "<init>") (hlen : 1 ≤ n) (hlv : bf_sub lv [some (.ref 0)])
    (body : ∀ X : bf_X, xl X = l → bf_C X y.cls cc n none → bf_CI X fr lo mc ms → xdC X = dC → xdI X = dI → xac X = ac → bf_A X (bf_QI X mc ms (xal X 0) wf P) n 0 lv [] w0) : bf_MI l y cc n fr lo mc ms dC dI ac w0 wf P := by
  intro al sz
  refine Met.ofW (cc := cc) (maxL := n) (ret := none) hy rfl ?_
  intro p e s m args below meth c s₁ B hml hv
  obtain ⟨⟨rfl, rfl, hP, hK, hD0, hN⟩, hG⟩ := hv
  have hts := atoms_spec (ws := bf_ws y cc n none) B.pre
  have hD := hD0.self (sz := s.heap.size)
  have hC : bf_C (p, l, e, bf_rmI fr lo mc ms, s, m, (([.ref 0] : List Value).map (bf_cv al)).toArray, below, meth, c, dC, dI, ac, al, va_A (bf_cw ac al w0) s.heap.size, 0, 0) y.cls cc n none :=
    ⟨B.exec, B.bytes, hml, findClass_of_methodNamed B.named, fun q hq => hts q (List.mem_cons_of_mem _ hq), hK, hN, B.returns, B.notSynchronized, fun q h => Or.inr h⟩
  have hb := body (p, l, e, bf_rmI fr lo mc ms, s, m, (([.ref 0] : List Value).map (bf_cv al)).toArray, below, meth, c, dC, dI, ac, al, va_A (bf_cw ac al w0) s.heap.size, 0, 0) rfl hC ⟨rfl, rfl, rfl, hin ▸ (name_of_methodNamed B.named B.method).1, hG⟩ rfl rfl rfl
  rw [lg_entry_eq]
  refine hb s.heap [] _ hP hD va_S.rf ?_
  have hsl := bf_ent_sl al [.ref 0]
  have he := lv_entry (([.ref 0] : List Value).map (bf_cv al)) (n := n) (by rw [hsl, List.length_map]; exact hlen)
  refine ⟨he.1, he.2.1, fun i v hi => ?_⟩
  have h2 : (bf_ent [.ref 0])[i]? = some (some v) := bf_sub_get _ _ hlv i v hi
  have h3 : i < (bf_ent [.ref 0]).length := (List.getElem?_eq_some_iff.mp h2).1
  show (lg_sl (([.ref 0] : List Value).map (bf_cv al)) ++ List.replicate (n - (lg_sl (([.ref 0] : List Value).map (bf_cv al))).length) Slot.unset).toArray[i]? = _
  rw [hsl, List.getElem?_toArray, List.getElem?_append_left (by simpa using h3), List.getElem?_map, h2]
  rfl
def bf_shv (n : Nat) : Value → Value
  | .ref i => .ref (i + n)
  | .int x => .int x
  | .long x => .long x
  | .null => .null
  | .float x => .float x
  | .double x => .double x
  | .retAddr x => .retAddr x
def bf_she (n : Nat) : bf_E → bf_E
  | .inl a => .inl a
  | .inr o => .inr (o.1, o.2.map (bf_shv n))
def bf_jo (al : Nat → Nat) (n : Nat) (al2 : Nat → Nat) : Nat → Nat := fun i => if i < n then al i else if i = 1000 then al i else al2 (i - n)
theorem bf_jo_low (al : Nat → Nat) (n : Nat) (al2 : Nat → Nat) : ∀ i, (i < n ∨ i = 1000) → bf_jo al n al2 i = al i := by
  intro i hi
  unfold bf_jo
  by_cases h : i < n
  · rw [if_pos h]
  · rw [if_neg h, if_pos (by omega)]
theorem bf_jo_hi (al : Nat → Nat) (n : Nat) (al2 : Nat → Nat) (i : Nat) (hi : i + n < 1000) : bf_jo al n al2 (i + n) = al2 i := by
  unfold bf_jo
  rw [if_neg (by omega), if_neg (by omega), Nat.add_sub_cancel]
theorem bf_cv_sh (al : Nat → Nat) (n : Nat) (al2 : Nat → Nat) {m : Nat} (hm : m + n ≤ 1000) (v : Value) (hv : bf_sv m v = true) : bf_cv (bf_jo al n al2) (bf_shv n v) = bf_cv al2 v := by
  match v, hv with
  | .ref i, hv => exact congrArg Value.ref (bf_jo_hi al n al2 i (by have h9 : (i : Nat) < m := of_decide_eq_true hv; exact Nat.lt_of_lt_of_le (Nat.add_lt_add_right h9 n) hm))
  | .int _, _ => rfl
  | .long _, _ => rfl
  | .null, _ => rfl
  | .float _, _ => rfl
  | .double _, _ => rfl
  | .retAddr _, _ => rfl
theorem bf_ce_sh (ac : Nat → ClassId) (al : Nat → Nat) (n : Nat) (al2 : Nat → Nat) {m : Nat} (hm : m + n ≤ 1000) (e : bf_E) (he : bf_se m e = true) : bf_ce ac (bf_jo al n al2) (bf_she n e) = bf_ce ac al2 e := by
  cases e with
  | inl a => rfl
  | inr o =>
    simp only [bf_se] at he
    simp only [bf_ce, bf_she, List.map_map]
    congr 2
    apply List.map_congr_left
    intro v hv
    exact bf_cv_sh al n al2 hm v (List.all_eq_true.mp he v hv)
section BFINI
variable {X : bf_X} {Q : State → Prop} {own : String} {cc : ByteArray} {nL : Nat} {ret : Option FieldType} {pc pc2 : Nat} {lv : bf_V} {st : List Value} {w : bf_W}
theorem bs_iniret (C : bf_C X own cc nL none) {X0 : bf_X} {mc ms a0 : Nat} {T : Type} {wf : T → bf_W} {P : T → Prop} (u : T) (hu : P u) (hd : bf_D cc pc .return_ 1 pc2) (hX : (xb X0, xdC X0, xdI X0, xac X0, xA X0, xa X0, xs X0) = (xb X, xdC X, xdI X, xac X, xA X, xa X, xs X)) (hk : xk X ≤ mc) (hn : xn X ≤ ms) (ha : xal X 0 = a0) (hw : w = wf u) : bf_A X (bf_QI X0 mc ms a0 wf P) nL pc lv [] w := by
  intro H locs ls hP hD hS hL
  subst hw
  simp only [Prod.mk.injEq] at hX
  obtain ⟨e1, e2, e3, e4, e5, e6, e7⟩ := hX
  unfold bf_QI
  rw [e1, e2, e3, e4, e5, e6, e7]
  obtain ⟨hx, hb, -, -, -, hK, -, hr, hlk, -⟩ := C
  refine W.widen (k := mc) (n := ms) hk hn ?_
  exact W.vret hx hb hr (fun t ht hW => ⟨⟨(xal X, u), rfl, ⟨ha, hu⟩, by rw [ht]; exact hP, va_K.moved hW.alike hK, hD⟩, hS.F ht⟩) hS.2.2 hd.1 hlk
theorem bs_init (C : bf_C X own cc nL ret) (hG : bf_G (xA X) (xs X) (xs X).heap) {y : MethodName} {bytes : ByteArray} {maxL fr lo mc ms index ci : Nat} {fs : List Value} {T : Type} {wf : T → bf_W} {P : T → Prop} (hM : bf_MI (xl X) y bytes maxL fr lo mc ms (xdC X) (xdI X) (xac X) [.inr (ci, fs)] wf P) (hm : bf_MB y bytes maxL none 0) (hmi : Cond.instanceMethod y ∈ lw_good) (hyn : y.name = "<init>") (hlk : Cond.methodLink own index y ∈ lw_good) (hd : bf_D cc pc (.invokespecial index) 3 pc2) (n : Nat) (hlow : bf_low n w lv [] = true) (hst1 : st.all (bf_bv (n + 1)) = true) (hf0 : fs.all bf_nr = true) (M : Nat) (hMn : M + n ≤ 1000) (hwu : ∀ u : T, (wf u).all (bf_se M) = true ∧ (wf u).length ≤ M) (hfr : fr + 1 ≤ (xR X).frames) (hlo : 8 + (maxL + 11) + lo ≤ (xR X).locals) (hk : xk X + mc ≤ (xR X).cells) (hn : xn X + ms ≤ (xR X).slots) (hroom : (st.map fun v => v.category).sum ≤ 8)
    (kk : ∀ (al2 : Nat → Nat) (u : T), P u → bf_A (bf_Xn X (bf_jo (xal X) n al2) mc ms) Q nL pc2 lv st (w ++ (wf u).map (bf_she n))) : bf_A X Q nL pc lv (.ref n :: st) (w ++ [.inr (ci, fs)]) := by
  intro H locs ls hP hD hS hL
  obtain ⟨h1, h2, h3, h4, h5⟩ := bf_low_of hlow
  have hfv : ∀ al : Nat → Nat, bf_ce (xac X) al (.inr (ci, fs)) = .inr (ci, fs) := fun al => by
    have e : fs.map (bf_cv al) = fs.map id := List.map_congr_left (fun v hv => by
      have h9 := List.all_eq_true.mp hf0 v hv
      cases v <;> first | rfl | (simp [bf_nr] at h9))
    simp [bf_ce, e]
  have hcN : (bf_cw (xac X) (xal X) (w ++ [.inr (ci, fs)]))[n]? = some (xal X n, .inr (ci, fs)) := by
    have e : (w ++ [(.inr (ci, fs) : bf_E)])[n]? = some (.inr (ci, fs)) := by rw [← h1]; simp
    rw [bf_cw_some e, hfv]
  have hsub : bf_cw (xac X) (fun _ => xal X n) [.inr (ci, fs)] = [(xal X n, .inr (ci, fs))] := by
    simp [bf_cw, hfv]
  have hPc : va_P (xdC X, xdI X) bf_cl (bf_cw (xac X) (fun _ => xal X n) [.inr (ci, fs)]) H := by
    rw [hsub]
    exact hP.sub [n] (by simp [hcN])
  have hDc : va_D (xA X) (bf_cw (xac X) (fun _ => xal X n) [.inr (ci, fs)]) := by
    rw [hsub]
    exact hD.sub [n] rfl (by simp [hcN])
  have hFc : ∀ q, bf_fr (xac X) (fun _ => xal X n) [.inr (ci, fs)] H.size q → xA X q := by
    intro q hq
    rcases hq with ⟨k, e, hk⟩ | hq
    · exact hDc.2 k (q, e) hk
    · exact C.2.2.2.2.2.2.2.2.2 q (Nat.le_trans hS.1 hq)
  have hRR : (bf_rmI fr lo mc ms).frames + 1 ≤ (xR X).frames ∧ 8 + (maxL + 11) + (bf_rmI fr lo mc ms).locals ≤ (xR X).locals := ⟨hfr, hlo⟩
  have hpre : ∀ U : State, U.heap = H → (xs X).WarmedH U.vm → bf_PreG (xdC X) (xdI X) (xac X) (fun _ => xal X n) H.size [.ref 0] [.inr (ci, fs)] ([Value.ref (xal X n)] : List Value).toArray U := fun U hU hW => ⟨⟨rfl, by rw [hU], by rw [hU]; exact hPc, va_K.moved hW.alike C.2.2.2.2.2.1, hDc.weaken (fun _ _ _ _ => trivial), C.2.2.2.2.2.2.1.warm hW⟩, hG.warm (fun a h1 h2 => by rw [hU]; exact hS.2.1 a h1 h2) hFc hW⟩
  have hrun := va_runI (As := []) (rest := st.map (bf_cv (xal X))) (b := xal X n) (locs := locs) (e := xe X) (below := xb X) (meth := xh X) (g := F0 (xm X) pc ls ((Value.ref n :: st).map (bf_cv (xal X)))) ⟨C.1, C.2.1, C.2.2.1, C.2.2.2.1, C.2.2.2.2.1⟩ (hM (fun _ => xal X n) H.size) ⟨callB_of 0 C.2.2.2.2.1 (bf_goodIn hm) rfl rfl rfl (C.2.2.2.2.1 _ hm.2.1) (C.2.2.2.2.1 _ hlk) hm.2.2 hRR, hyn, C.2.2.2.2.1 _ hmi⟩ ⟨bf_blindG _ _ _ _ _ _ _, hpre⟩ rfl rfl hL.1 rfl (lv_room (by rw [bf_rest]; exact hroom)) hd.1 ⟨hk, hn⟩
  obtain ⟨hd1, hd2⟩ := hd
  subst hd2
  refine va_callv hrun hS (fun q _ h => hFc q h) hFc (fun au t H1 locs1 ht hvm hw hB hz1 hk1 hS1 => ?_)
  obtain ⟨al2, u⟩ := au
  obtain ⟨w1, hw1⟩ : ∃ z, z = wf u := ⟨_, rfl⟩
  obtain ⟨hP1, hK1, hD1⟩ := hB
  rw [ht] at hP1
  dsimp only at hP1 hD1 hw
  rw [← hw1] at hP1 hD1
  obtain ⟨hu1, hu2⟩ := hwu u
  rw [← hw1] at hu1 hu2
  have hlo2 := bf_jo_low (xal X) n al2
  have hwe : bf_cw (xac X) (bf_jo (xal X) n al2) (w ++ w1.map (bf_she n)) = bf_cw (xac X) (xal X) w ++ bf_cw (xac X) al2 w1 := by
    rw [bf_cw_app, bf_cw_low hlo2 (by omega) h2]
    congr 1
    apply List.ext_getElem?
    intro i
    rw [bf_cw_get]
    simp only [List.getElem?_mapIdx, List.getElem?_map, Option.map_map]
    cases hi : w1[i]? with
    | none => rfl
    | some e0 =>
      have hil : i < w1.length := (List.getElem?_eq_some_iff.mp hi).1
      have he0 := List.all_eq_true.mp hu1 e0 (List.mem_of_getElem? hi)
      simp only [Option.map_some, Function.comp_def]
      rw [h1, bf_jo_hi _ _ _ _ (by omega), bf_ce_sh _ _ _ _ hMn _ he0]
  have hleft : ∀ (k : Nat) (q : Nat × va_E), (bf_cw (xac X) (xal X) w)[k]? = some q → (bf_cw (xac X) (xal X) (w ++ [.inr (ci, fs)]))[k]? = some q ∧ k < n := by
    intro k q hq
    have hkl : k < w.length := by
      have := (List.getElem?_eq_some_iff.mp hq).1
      rwa [bf_cw_len] at this
    rw [bf_cw_app, List.getElem?_append_left (by rw [bf_cw_len]; exact hkl)]
    exact ⟨hq, by omega⟩
  have hapart : ∀ (k : Nat) (q : Nat × va_E), (bf_cw (xac X) (xal X) w)[k]? = some q → ¬ bf_fr (xac X) (fun _ => xal X n) [.inr (ci, fs)] H.size q.1 := by
    intro k q hq hA
    obtain ⟨g1, g2⟩ := hleft k q hq
    have g3 := (hP k q g1).lt
    rcases hA with ⟨j, e, hj⟩ | hA
    · rw [hsub] at hj
      have hj0 : j = 0 ∧ xal X n = q.1 := by
        cases j with
        | zero => simp at hj; exact ⟨rfl, hj.1⟩
        | succ j => simp at hj
      have := hD.1 k n q (xal X n, .inr (ci, fs)) g1 hcN hj0.2.symm
      omega
    · omega
  have hPn : va_P (xdC X, xdI X) bf_cl (bf_cw (xac X) (xal X) w ++ bf_cw (xac X) al2 w1) H1 := va_P.app (fun k q hq => by
    obtain ⟨g1, g2⟩ := hleft k q hq
    exact (hP k q g1).kept (hk1 q.1 (hP k q g1).lt (hapart k q hq))) hP1
  have hDn : va_D (xA X) (bf_cw (xac X) (xal X) w ++ bf_cw (xac X) al2 w1) := va_D.app ⟨fun i j p q hi hj hpq => hD.1 i j p q (hleft i p hi).1 (hleft j q hj).1 hpq, fun k q hk => hD.2 k q (hleft k q hk).1⟩ (hD1.weaken (fun k q _ h => hFc q.1 h)) (fun i j p q hp hq hpq => hapart i p hp (by rw [hpq]; exact hD1.2 j q hq))
  rw [← hwe] at hPn hDn
  rw [hw1] at hPn hDn
  have hq := kk al2 u hw.2 H1 locs1 ls hPn hDn hS1 (bf_L_low hlo2 h3 hL)
  have hq2 : W (xp X) (xl X) (xe X) (xR X) (xs X) (xm X) (xa X) (xb X) (xh X) (xc X) H1 locs1 (xk X + mc) (xn X + ms) Q (F0 (xm X) (pc + 3) ls (st.map (bf_cv (bf_jo (xal X) n al2)))) := hq
  have hlo3 : ∀ i, (i < n + 1 ∨ i = 1000) → bf_jo (xal X) n al2 i = xal X i := by
    intro i hi
    by_cases h : i < n ∨ i = 1000
    · exact hlo2 i h
    · have e : i = 0 + n := by omega
      rw [e, bf_jo_hi _ _ _ _ (by omega), hw.1, Nat.zero_add]
  rw [bf_st_low hlo3 hst1] at hq2
  exact hq2
theorem bs_initN (C : bf_C X own cc nL ret) (hG : bf_G (xA X) (xs X) (xs X).heap) {y : MethodName} {bytes : ByteArray} {maxL fr lo mc ms index ci : Nat} {fs : List Value} {T : Type} {wf : T → bf_W} {P : T → Prop} (hM : bf_MI (xl X) y bytes maxL fr lo mc ms (xdC X) (xdI X) (xac X) [.inr (ci, fs)] wf P) (hm : bf_MB y bytes maxL none 0) (hmi : Cond.instanceMethod y ∈ lw_good) (hyn : y.name = "<init>") {host : String} (hlk : Cond.methodLinkNest own index y host ∈ lw_tbl) (hd : bf_D cc pc (.invokespecial index) 3 pc2) (n : Nat) (hlow : bf_low n w lv [] = true) (hst1 : st.all (bf_bv (n + 1)) = true) (hf0 : fs.all bf_nr = true) (M : Nat) (hMn : M + n ≤ 1000) (hwu : ∀ u : T, (wf u).all (bf_se M) = true ∧ (wf u).length ≤ M) (hfr : fr + 1 ≤ (xR X).frames) (hlo : 8 + (maxL + 11) + lo ≤ (xR X).locals) (hk : xk X + mc ≤ (xR X).cells) (hn : xn X + ms ≤ (xR X).slots) (hroom : (st.map fun v => v.category).sum ≤ 8)
    (kk : ∀ (al2 : Nat → Nat) (u : T), P u → bf_A (bf_Xn X (bf_jo (xal X) n al2) mc ms) Q nL pc2 lv st (w ++ (wf u).map (bf_she n))) : bf_A X Q nL pc lv (.ref n :: st) (w ++ [.inr (ci, fs)]) := by
  intro H locs ls hP hD hS hL
  obtain ⟨h1, h2, h3, h4, h5⟩ := bf_low_of hlow
  have hfv : ∀ al : Nat → Nat, bf_ce (xac X) al (.inr (ci, fs)) = .inr (ci, fs) := fun al => by
    have e : fs.map (bf_cv al) = fs.map id := List.map_congr_left (fun v hv => by
      have h9 := List.all_eq_true.mp hf0 v hv
      cases v <;> first | rfl | (simp [bf_nr] at h9))
    simp [bf_ce, e]
  have hcN : (bf_cw (xac X) (xal X) (w ++ [.inr (ci, fs)]))[n]? = some (xal X n, .inr (ci, fs)) := by
    have e : (w ++ [(.inr (ci, fs) : bf_E)])[n]? = some (.inr (ci, fs)) := by rw [← h1]; simp
    rw [bf_cw_some e, hfv]
  have hsub : bf_cw (xac X) (fun _ => xal X n) [.inr (ci, fs)] = [(xal X n, .inr (ci, fs))] := by
    simp [bf_cw, hfv]
  have hPc : va_P (xdC X, xdI X) bf_cl (bf_cw (xac X) (fun _ => xal X n) [.inr (ci, fs)]) H := by
    rw [hsub]
    exact hP.sub [n] (by simp [hcN])
  have hDc : va_D (xA X) (bf_cw (xac X) (fun _ => xal X n) [.inr (ci, fs)]) := by
    rw [hsub]
    exact hD.sub [n] rfl (by simp [hcN])
  have hFc : ∀ q, bf_fr (xac X) (fun _ => xal X n) [.inr (ci, fs)] H.size q → xA X q := by
    intro q hq
    rcases hq with ⟨k, e, hk⟩ | hq
    · exact hDc.2 k (q, e) hk
    · exact C.2.2.2.2.2.2.2.2.2 q (Nat.le_trans hS.1 hq)
  have hRR : (bf_rmI fr lo mc ms).frames + 1 ≤ (xR X).frames ∧ 8 + (maxL + 11) + (bf_rmI fr lo mc ms).locals ≤ (xR X).locals := ⟨hfr, hlo⟩
  have hpre : ∀ U : State, U.heap = H → (xs X).WarmedH U.vm → bf_PreG (xdC X) (xdI X) (xac X) (fun _ => xal X n) H.size [.ref 0] [.inr (ci, fs)] ([Value.ref (xal X n)] : List Value).toArray U := fun U hU hW => ⟨⟨rfl, by rw [hU], by rw [hU]; exact hPc, va_K.moved hW.alike C.2.2.2.2.2.1, hDc.weaken (fun _ _ _ _ => trivial), C.2.2.2.2.2.2.1.warm hW⟩, hG.warm (fun a h1 h2 => by rw [hU]; exact hS.2.1 a h1 h2) hFc hW⟩
  have hrun := va_runIN (As := []) (rest := st.map (bf_cv (xal X))) (b := xal X n) (locs := locs) (e := xe X) (below := xb X) (meth := xh X) (g := F0 (xm X) pc ls ((Value.ref n :: st).map (bf_cv (xal X)))) ⟨C.1, C.2.1, C.2.2.1, C.2.2.2.1, C.2.2.2.2.1⟩ (hM (fun _ => xal X n) H.size) ⟨va_cnB 0 C.2.2.2.2.1 (bf_goodIn hm) rfl rfl rfl (C.2.2.2.2.2.2.1 _ hlk rfl) (C.2.2.2.2.1 _ hm.2.1) hm.2.2 hRR, hyn, C.2.2.2.2.1 _ hmi⟩ ⟨bf_blindG _ _ _ _ _ _ _, hpre⟩ rfl rfl hL.1 rfl (lv_room (by rw [bf_rest]; exact hroom)) hd.1 ⟨hk, hn⟩
  obtain ⟨hd1, hd2⟩ := hd
  subst hd2
  refine va_callv hrun hS (fun q _ h => hFc q h) hFc (fun au t H1 locs1 ht hvm hw hB hz1 hk1 hS1 => ?_)
  obtain ⟨al2, u⟩ := au
  obtain ⟨w1, hw1⟩ : ∃ z, z = wf u := ⟨_, rfl⟩
  obtain ⟨hP1, hK1, hD1⟩ := hB
  rw [ht] at hP1
  dsimp only at hP1 hD1 hw
  rw [← hw1] at hP1 hD1
  obtain ⟨hu1, hu2⟩ := hwu u
  rw [← hw1] at hu1 hu2
  have hlo2 := bf_jo_low (xal X) n al2
  have hwe : bf_cw (xac X) (bf_jo (xal X) n al2) (w ++ w1.map (bf_she n)) = bf_cw (xac X) (xal X) w ++ bf_cw (xac X) al2 w1 := by
    rw [bf_cw_app, bf_cw_low hlo2 (by omega) h2]
    congr 1
    apply List.ext_getElem?
    intro i
    rw [bf_cw_get]
    simp only [List.getElem?_mapIdx, List.getElem?_map, Option.map_map]
    cases hi : w1[i]? with
    | none => rfl
    | some e0 =>
      have hil : i < w1.length := (List.getElem?_eq_some_iff.mp hi).1
      have he0 := List.all_eq_true.mp hu1 e0 (List.mem_of_getElem? hi)
      simp only [Option.map_some, Function.comp_def]
      rw [h1, bf_jo_hi _ _ _ _ (by omega), bf_ce_sh _ _ _ _ hMn _ he0]
  have hleft : ∀ (k : Nat) (q : Nat × va_E), (bf_cw (xac X) (xal X) w)[k]? = some q → (bf_cw (xac X) (xal X) (w ++ [.inr (ci, fs)]))[k]? = some q ∧ k < n := by
    intro k q hq
    have hkl : k < w.length := by
      have := (List.getElem?_eq_some_iff.mp hq).1
      rwa [bf_cw_len] at this
    rw [bf_cw_app, List.getElem?_append_left (by rw [bf_cw_len]; exact hkl)]
    exact ⟨hq, by omega⟩
  have hapart : ∀ (k : Nat) (q : Nat × va_E), (bf_cw (xac X) (xal X) w)[k]? = some q → ¬ bf_fr (xac X) (fun _ => xal X n) [.inr (ci, fs)] H.size q.1 := by
    intro k q hq hA
    obtain ⟨g1, g2⟩ := hleft k q hq
    have g3 := (hP k q g1).lt
    rcases hA with ⟨j, e, hj⟩ | hA
    · rw [hsub] at hj
      have hj0 : j = 0 ∧ xal X n = q.1 := by
        cases j with
        | zero => simp at hj; exact ⟨rfl, hj.1⟩
        | succ j => simp at hj
      have := hD.1 k n q (xal X n, .inr (ci, fs)) g1 hcN hj0.2.symm
      omega
    · omega
  have hPn : va_P (xdC X, xdI X) bf_cl (bf_cw (xac X) (xal X) w ++ bf_cw (xac X) al2 w1) H1 := va_P.app (fun k q hq => by
    obtain ⟨g1, g2⟩ := hleft k q hq
    exact (hP k q g1).kept (hk1 q.1 (hP k q g1).lt (hapart k q hq))) hP1
  have hDn : va_D (xA X) (bf_cw (xac X) (xal X) w ++ bf_cw (xac X) al2 w1) := va_D.app ⟨fun i j p q hi hj hpq => hD.1 i j p q (hleft i p hi).1 (hleft j q hj).1 hpq, fun k q hk => hD.2 k q (hleft k q hk).1⟩ (hD1.weaken (fun k q _ h => hFc q.1 h)) (fun i j p q hp hq hpq => hapart i p hp (by rw [hpq]; exact hD1.2 j q hq))
  rw [← hwe] at hPn hDn
  rw [hw1] at hPn hDn
  have hq := kk al2 u hw.2 H1 locs1 ls hPn hDn hS1 (bf_L_low hlo2 h3 hL)
  have hq2 : W (xp X) (xl X) (xe X) (xR X) (xs X) (xm X) (xa X) (xb X) (xh X) (xc X) H1 locs1 (xk X + mc) (xn X + ms) Q (F0 (xm X) (pc + 3) ls (st.map (bf_cv (bf_jo (xal X) n al2)))) := hq
  have hlo3 : ∀ i, (i < n + 1 ∨ i = 1000) → bf_jo (xal X) n al2 i = xal X i := by
    intro i hi
    by_cases h : i < n ∨ i = 1000
    · exact hlo2 i h
    · have e : i = 0 + n := by omega
      rw [e, bf_jo_hi _ _ _ _ (by omega), hw.1, Nat.zero_add]
  rw [bf_st_low hlo3 hst1] at hq2
  exact hq2
end BFINI
/-! CONSTRUCTORS, walked: X0 is the start's tuple, X the one now; k cells of n slots are made -/
def bf_I (X0 X : bf_X) (own : String) (cc : ByteArray) (nL : Nat) (rt : Option FieldType) (nm : String) (R : Room) (k n : Nat) : Prop :=
  bf_C X own cc nL rt ∧ (xb X0, xdC X0, xdI X0, xac X0, xA X0, xa X0, xs X0) = (xb X, xdC X, xdI X, xac X, xA X, xa X, xs X) ∧ xl X0 = xl X ∧ xR X = R ∧ (xh X).name = nm ∧ bf_G (xA X) (xs X) (xs X).heap ∧ xk X = k ∧ xn X = n ∧ xal X 0 = xal X0 0
theorem bf_I.grow {X0 X : bf_X} {own : String} {cc : ByteArray} {nL : Nat} {rt : Option FieldType} {nm : String} {R : Room} {k n dk dn k2 n2 : Nat} (h : bf_I X0 X own cc nL rt nm R k n) (al : Nat → Nat) (ha : al 0 = xal X 0) (hk : k + dk = k2) (hn : n + dn = n2) : bf_I X0 (bf_Xn X al dk dn) own cc nL rt nm R k2 n2 := by
  obtain ⟨h1, h2, h3, h4, h5, h6, h7, h8, h9⟩ := h
  exact ⟨h1, h2, h3, h4, h5, h6, by show xk X + dk = k2; rw [h7]; exact hk, by show xn X + dn = n2; rw [h8]; exact hn, ha.trans h9⟩
section BFI
variable {X0 X : bf_X} {Q : State → Prop} {own : String} {cc : ByteArray} {nL : Nat} {rt : Option FieldType} {nm : String} {Rm : Room} {k n : Nat} {pc pc2 : Nat} {lv : bf_V} {st : List Value} {w : bf_W}
theorem bi_new (I : bf_I X0 X own cc nL rt nm Rm k n) {index ci N : Nat} {R : String} {T : u_T} {ty : Nat → FieldType} {fs : List Value} (hd : bf_D cc pc (.new index) 3 pc2) (hcl : bf_cl[ci]? = some (R, T, N)) (hin : ∀ w ∈ u_ws R T N, w ∈ lw_good) (hty : ∀ k, k < N → parseFieldDescriptor (T k).2.2.1 = some (ty k)) (hlk : Cond.classLink own index R ∈ lw_good) (hinst : Cond.instantiable R N ∈ lw_good) (hini : Cond.initialized R ∈ lw_good) (p : Nat) (hp : p = 0 → False) (hlow : bf_low p w lv st = true) (hfs : ∀ j, j < N → defaultValue (ty j) = vp_V fs j) (hf0 : fs.all bf_nr = true) {k2 n2 : Nat} (hk2 : k + 1 = k2) (hn2 : n + N = n2) (hk : k2 ≤ Rm.cells) (hn : n2 ≤ Rm.slots)
    (kk : ∀ X2 : bf_X, bf_I X0 X2 own cc nL rt nm Rm k2 n2 → bf_A X2 Q nL pc2 lv (.ref p :: st) (w ++ [.inr (ci, fs)])) : bf_A X Q nL pc lv st w :=
  bs_new I.1 hd hcl hin hty hlk hinst hini p hlow hfs hf0 (by rw [I.2.2.2.1, I.2.2.2.2.2.2.1, hk2]; exact hk) (by rw [I.2.2.2.1, I.2.2.2.2.2.2.2.1, hn2]; exact hn) (fun q => kk _ (I.grow _ (bf_ua_low _ _ _ (bf_low_of hlow).2.2.2.2 0 (Or.inl (Nat.pos_of_ne_zero hp))) hk2 hn2))
theorem bi_newarr (I : bf_I X0 X own cc nL rt nm Rm k n) {atype : ArrayType} {v : Int32} {N kd : Nat} {ty : FieldType} {a0 : vp_A} (hd : bf_D cc pc (.newarray atype) 2 pc2) (hty : newarray.typeOf atype = ty) (hkd : ∀ ac : Nat → ClassId, (bf_tys ac)[kd]? = some (ac kd, ty)) (hra : ∀ (U : State) (cA : ClassId), va_RA U cA ty → U.vm.findClass ("[" ++ ty.toString) = some cA) (harr : Cond.arrayClass (newarray.typeOf atype) ∈ lw_good) (p : Nat) (hp : p = 0 → False) (hlow : bf_low p w lv st = true) (ha : ∀ cA : ClassId, vp_cell cA a0 = arrV cA N (fun _ => defaultValue ty)) (hv : ¬ v < 0) (hN : v.toNatClampNeg = N) (hbytes : N * componentBytes ty ≤ 536870912) {k2 n2 : Nat} (hk2 : k + 1 = k2) (hn2 : n + N = n2) (hk : k2 ≤ Rm.cells) (hn : n2 ≤ Rm.slots)
    (kk : ∀ X2 : bf_X, bf_I X0 X2 own cc nL rt nm Rm k2 n2 → bf_A X2 Q nL pc2 lv (.ref p :: st) (w ++ [.inl (kd, a0)])) : bf_A X Q nL pc lv (.int v :: st) w :=
  bs_newarr I.1 hd hty hkd hra harr p hlow ha hv hN hbytes (by rw [I.2.2.2.1, I.2.2.2.2.2.2.1, hk2]; exact hk) (by rw [I.2.2.2.1, I.2.2.2.2.2.2.2.1, hn2]; exact hn) (fun q => kk _ (I.grow _ (bf_ua_low _ _ _ (bf_low_of hlow).2.2.2.2 0 (Or.inl (Nat.pos_of_ne_zero hp))) hk2 hn2))
theorem bi_init (I : bf_I X0 X own cc nL rt nm Rm k n) {y : MethodName} {bytes : ByteArray} {maxL fr lo mc ms index ci : Nat} {fs : List Value} {T : Type} {wf : T → bf_W} {P : T → Prop} (hM : bf_MI (xl X) y bytes maxL fr lo mc ms (xdC X) (xdI X) (xac X) [.inr (ci, fs)] wf P) (hm : bf_MB y bytes maxL none 0) (hmi : Cond.instanceMethod y ∈ lw_good) (hyn : y.name = "<init>") (hlk : Cond.methodLink own index y ∈ lw_good) (hd : bf_D cc pc (.invokespecial index) 3 pc2) (p : Nat) (hp : p = 0 → False) (hlow : bf_low p w lv [] = true) (hst1 : st.all (bf_bv (p + 1)) = true) (hf0 : fs.all bf_nr = true) (M : Nat) (hMn : M + p ≤ 1000) (hwu : ∀ u : T, (wf u).all (bf_se M) = true ∧ (wf u).length ≤ M) (hfr : fr + 1 ≤ Rm.frames) (hlo : 8 + (maxL + 11) + lo ≤ Rm.locals) {k2 n2 : Nat} (hk2 : k + mc = k2) (hn2 : n + ms = n2) (hk : k2 ≤ Rm.cells) (hn : n2 ≤ Rm.slots) (hroom : (st.map fun v => v.category).sum ≤ 8) {w3 : bf_W} {w2 : T → bf_W} (hw3 : w ++ [.inr (ci, fs)] = w3) (hw2 : ∀ u, w ++ (wf u).map (bf_she p) = w2 u)
    (kk : ∀ (X2 : bf_X) (u : T), P u → bf_I X0 X2 own cc nL rt nm Rm k2 n2 → bf_A X2 Q nL pc2 lv st (w2 u)) : bf_A X Q nL pc lv (.ref p :: st) w3 := by
  subst hw3
  exact bs_init I.1 I.2.2.2.2.2.1 hM hm hmi hyn hlk hd p hlow hst1 hf0 M hMn hwu (by rw [I.2.2.2.1]; exact hfr) (by rw [I.2.2.2.1]; exact hlo) (by rw [I.2.2.2.1, I.2.2.2.2.2.2.1, hk2]; exact hk) (by rw [I.2.2.2.1, I.2.2.2.2.2.2.2.1, hn2]; exact hn) hroom (fun al2 u hu => by rw [hw2]; exact kk _ u hu (I.grow _ (bf_jo_low _ _ _ 0 (Or.inl (Nat.pos_of_ne_zero hp))) hk2 hn2))
theorem bi_initN (I : bf_I X0 X own cc nL rt nm Rm k n) {y : MethodName} {bytes : ByteArray} {maxL fr lo mc ms index ci : Nat} {fs : List Value} {T : Type} {wf : T → bf_W} {P : T → Prop} (hM : bf_MI (xl X) y bytes maxL fr lo mc ms (xdC X) (xdI X) (xac X) [.inr (ci, fs)] wf P) (hm : bf_MB y bytes maxL none 0) (hmi : Cond.instanceMethod y ∈ lw_good) (hyn : y.name = "<init>") {host : String} (hlk : Cond.methodLinkNest own index y host ∈ lw_tbl) (hd : bf_D cc pc (.invokespecial index) 3 pc2) (p : Nat) (hp : p = 0 → False) (hlow : bf_low p w lv [] = true) (hst1 : st.all (bf_bv (p + 1)) = true) (hf0 : fs.all bf_nr = true) (M : Nat) (hMn : M + p ≤ 1000) (hwu : ∀ u : T, (wf u).all (bf_se M) = true ∧ (wf u).length ≤ M) (hfr : fr + 1 ≤ Rm.frames) (hlo : 8 + (maxL + 11) + lo ≤ Rm.locals) {k2 n2 : Nat} (hk2 : k + mc = k2) (hn2 : n + ms = n2) (hk : k2 ≤ Rm.cells) (hn : n2 ≤ Rm.slots) (hroom : (st.map fun v => v.category).sum ≤ 8) {w3 : bf_W} {w2 : T → bf_W} (hw3 : w ++ [.inr (ci, fs)] = w3) (hw2 : ∀ u, w ++ (wf u).map (bf_she p) = w2 u)
    (kk : ∀ (X2 : bf_X) (u : T), P u → bf_I X0 X2 own cc nL rt nm Rm k2 n2 → bf_A X2 Q nL pc2 lv st (w2 u)) : bf_A X Q nL pc lv (.ref p :: st) w3 := by
  subst hw3
  exact bs_initN I.1 I.2.2.2.2.2.1 hM hm hmi hyn hlk hd p hlow hst1 hf0 M hMn hwu (by rw [I.2.2.2.1]; exact hfr) (by rw [I.2.2.2.1]; exact hlo) (by rw [I.2.2.2.1, I.2.2.2.2.2.2.1, hk2]; exact hk) (by rw [I.2.2.2.1, I.2.2.2.2.2.2.2.1, hn2]; exact hn) hroom (fun al2 u hu => by rw [hw2]; exact kk _ u hu (I.grow _ (bf_jo_low _ _ _ 0 (Or.inl (Nat.pos_of_ne_zero hp))) hk2 hn2))
theorem bi_ret (I : bf_I X0 X own cc nL none nm Rm k n) {mc ms : Nat} {T : Type} {wf : T → bf_W} {P : T → Prop} (u : T) (hu : P u) (hd : bf_D cc pc .return_ 1 pc2) (hk : k ≤ mc) (hn : n ≤ ms) (hw : w = wf u) : bf_A X (bf_QI X0 mc ms (xal X0 0) wf P) nL pc lv [] w :=
  bs_iniret I.1 u hu hd I.2.1 (by rw [I.2.2.2.2.2.2.1]; exact hk) (by rw [I.2.2.2.2.2.2.2.1]; exact hn) I.2.2.2.2.2.2.2.2 hw
theorem bi_begin {l : Launch} {y : MethodName} {cc : ByteArray} {n : Nat} {fr lo mc ms : Nat} {dC : Nat → ClassId} {dI : Nat → Nat → Nat} {ac : Nat → ClassId} {w0 : bf_W} {T : Type} {wf : T → bf_W} {P : T → Prop} (lv : bf_V) (hy : plainName y.cls = true) (hin : y.name = "<init>") (hlen : 1 ≤ n) (hlv : bf_sub lv [some (.ref 0)])
    (body : ∀ X0 X : bf_X, xl X = l → xdC X = dC → xdI X = dI → xac X = ac → bf_I X0 X y.cls cc n none "<init>" (bf_rmI fr lo mc ms) 0 0 → bf_A X (bf_QI X0 mc ms (xal X0 0) wf P) n 0 lv [] w0) : bf_MI l y cc n fr lo mc ms dC dI ac w0 wf P :=
  bf_startI lv hy hin hlen hlv (fun X hl C hI e1 e2 e3 => body X X hl e1 e2 e3 ⟨C, rfl, rfl, hI.1, hI.2.2.2.1, hI.2.2.2.2, hI.2.1, hI.2.2.1, rfl⟩)
theorem bs_w {w2 : bf_W} (h : w = w2) (kk : bf_A X Q nL pc lv st w2) : bf_A X Q nL pc lv st w := h ▸ kk
end BFI

