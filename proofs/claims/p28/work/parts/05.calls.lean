/-! CONTRACTS AND CALLS over places -/
def bf_rm (fr lo : Nat) : Room := { frames := fr, cells := 0, slots := 0, locals := lo }
def bf_Rm (X : bf_X) (fr lo : Nat) : Prop := fr ≤ (xR X).frames ∧ lo ≤ (xR X).locals ∧ xk X ≤ (xR X).cells ∧ xn X ≤ (xR X).slots
def bf_Pre (dC : Nat → ClassId) (dI : Nat → Nat → Nat) (ac : Nat → ClassId) (al : Nat → Nat) (sz : Nat) (avs : List Value) (w : bf_W) : Array Value → State → Prop :=
  va_Pc (avs.map (bf_cv al)) (fun U => U.heap.size = sz ∧ va_P (dC, dI) bf_cl (bf_cw ac al w) U.heap ∧ va_K (dC, dI) bf_cl (bf_tys ac) U ∧ va_D (fun _ => True) (bf_cw ac al w) ∧ bf_N U)
def bf_B (dC : Nat → ClassId) (dI : Nat → Nat → Nat) (ac : Nat → ClassId) (al : Nat → Nat) (A : Nat → Prop) {T : Type} (wf : T → bf_W) (u : T) (t : State) : Prop :=
  va_P (dC, dI) bf_cl (bf_cw ac al (wf u)) t.heap ∧ va_K (dC, dI) bf_cl (bf_tys ac) t ∧ va_D A (bf_cw ac al (wf u))
def bf_fr (ac : Nat → ClassId) (al : Nat → Nat) (w : bf_W) (sz : Nat) : Nat → Prop := va_A (bf_cw ac al w) sz
def bf_M (l : Launch) (y : MethodName) (cc : ByteArray) (n : Nat) (ret : Option FieldType) (fr lo : Nat) (dC : Nat → ClassId) (dI : Nat → Nat → Nat) (ac : Nat → ClassId) (al : Nat → Nat) (avs : List Value) (w : bf_W) (Qc : (Nat → Prop) → Array Value → State → Outcome → State → Prop) : Prop :=
  ∀ sz : Nat, Met l y (bf_ws y cc n ret) (bf_rm fr lo) (bf_Pre dC dI ac al sz avs w) (Qc (bf_fr ac al w sz)) 0 0 (bf_fr ac al w sz)
def bf_Ki {T : Type} (dC : Nat → ClassId) (dI : Nat → Nat → Nat) (ac : Nat → ClassId) (al : Nat → Nat) (wf : T → bf_W) (Q : Int32 → T → Prop) (A : Nat → Prop) : Array Value → State → Outcome → State → Prop := va_Qi Q (bf_B dC dI ac al A wf) A
def bf_Kl {T : Type} (dC : Nat → ClassId) (dI : Nat → Nat → Nat) (ac : Nat → ClassId) (al : Nat → Nat) (wf : T → bf_W) (Q : Int64 → T → Prop) (A : Nat → Prop) : Array Value → State → Outcome → State → Prop := va_Ql Q (bf_B dC dI ac al A wf) A
def bf_Kv {T : Type} (dC : Nat → ClassId) (dI : Nat → Nat → Nat) (ac : Nat → ClassId) (al : Nat → Nat) (wf : T → bf_W) (Q : T → Prop) (A : Nat → Prop) : Array Value → State → Outcome → State → Prop := va_Qv Q (bf_B dC dI ac al A wf) A
/-- what a body must come to -/
def bf_Q (X : bf_X) (Qc : (Nat → Prop) → Array Value → State → Outcome → State → Prop) : State → Prop := MQ (xb X) (Qc (xA X)) (xa X) (xs X) (xk X) (xn X) (xA X)
abbrev bf_Zi (X : bf_X) {T : Type} (wf : T → bf_W) (Q : Int32 → T → Prop) : State → Prop := bf_Q X (bf_Ki (xdC X) (xdI X) (xac X) (xal X) wf Q)
abbrev bf_Zl (X : bf_X) {T : Type} (wf : T → bf_W) (Q : Int64 → T → Prop) : State → Prop := bf_Q X (bf_Kl (xdC X) (xdI X) (xac X) (xal X) wf Q)
abbrev bf_Zv (X : bf_X) {T : Type} (wf : T → bf_W) (Q : T → Prop) : State → Prop := bf_Q X (bf_Kv (xdC X) (xdI X) (xac X) (xal X) wf Q)
def bf_ent : List Value → bf_V
  | [] => []
  | v :: vs => if v.category = 2 then some v :: none :: bf_ent vs else some v :: bf_ent vs
theorem bf_ent_sl (al : Nat → Nat) : ∀ (avs : List Value), lg_sl (avs.map (bf_cv al)) = (bf_ent avs).map (fun o => match o with | some v => Slot.val (bf_cv al v) | none => Slot.second)
  | [] => rfl
  | v :: vs => by
    have ih := bf_ent_sl al vs
    unfold bf_ent
    simp only [List.map_cons, lg_sl, List.flatMap_cons] at ih ⊢
    rw [bf_cv_cat, ih]
    by_cases h : v.category = 2 <;> simp [h]
/-- a method's contract out of its body -/
theorem bf_start {l : Launch} {y : MethodName} {cc : ByteArray} {n : Nat} {ret : Option FieldType} {fr lo : Nat} {dC : Nat → ClassId} {dI : Nat → Nat → Nat} {ac : Nat → ClassId} {al : Nat → Nat} {avs : List Value} {w : bf_W} {Qc : (Nat → Prop) → Array Value → State → Outcome → State → Prop} (lv : bf_V)
    (hy : plainName y.cls = true) (hlen : (bf_ent avs).length ≤ n) (hlv : bf_sub lv (bf_ent avs))
    (body : ∀ X : bf_X, xl X = l → bf_C X y.cls cc n ret → bf_Rm X fr lo → xdC X = dC → xdI X = dI → xac X = ac → xal X = al → bf_A X (bf_Q X Qc) n 0 lv [] w) : bf_M l y cc n ret fr lo dC dI ac al avs w Qc := by
  intro sz
  refine Met.ofW (cc := cc) (maxL := n) (ret := ret) hy rfl ?_
  intro p e s m args below meth c s₁ B hml hv
  obtain ⟨rfl, rfl, hP, hK, hD0, hN⟩ := hv
  have hts := atoms_spec (ws := bf_ws y cc n ret) B.pre
  have hD := hD0.self (sz := s.heap.size)
  have hC : bf_C (p, l, e, bf_rm fr lo, s, m, (avs.map (bf_cv al)).toArray, below, meth, c, dC, dI, ac, al, va_A (bf_cw ac al w) s.heap.size, 0, 0) y.cls cc n ret :=
    ⟨B.exec, B.bytes, hml, findClass_of_methodNamed B.named, fun q hq => hts q (List.mem_cons_of_mem _ hq), hK, hN, B.returns, B.notSynchronized, fun q h => Or.inr h⟩
  have hb := body (p, l, e, bf_rm fr lo, s, m, (avs.map (bf_cv al)).toArray, below, meth, c, dC, dI, ac, al, va_A (bf_cw ac al w) s.heap.size, 0, 0) rfl hC ⟨Nat.le_refl _, Nat.le_refl _, Nat.le_refl _, Nat.le_refl _⟩ rfl rfl rfl rfl
  rw [lg_entry_eq]
  refine hb s.heap [] _ hP hD va_S.rf ?_
  have hsl := bf_ent_sl al avs
  have he := lv_entry (avs.map (bf_cv al)) (n := n) (by rw [hsl, List.length_map]; exact hlen)
  refine ⟨he.1, he.2.1, fun i v hi => ?_⟩
  have h2 := bf_sub_get _ _ hlv i v hi
  have h3 : i < (bf_ent avs).length := (List.getElem?_eq_some_iff.mp h2).1
  show (lg_sl (avs.map (bf_cv al)) ++ List.replicate (n - (lg_sl (avs.map (bf_cv al))).length) Slot.unset).toArray[i]? = _
  rw [hsl, List.getElem?_toArray, List.getElem?_append_left (by simpa using h3), List.getElem?_map, h2]
  rfl
section BFT
variable {X : bf_X} {own : String} {cc : ByteArray} {nL : Nat} {pc pc2 : Nat} {lv : bf_V} {T : Type} {wf : T → bf_W} {u : T}
theorem bs_iret (C : bf_C X own cc nL (some .int)) {Q : Int32 → T → Prop} {v : Int32} (hd : bf_D cc pc .ireturn 1 pc2) {w : bf_W} (hw : wf u = w) (hq : Q v u) : bf_A X (bf_Zi X wf Q) nL pc lv [.int v] w := by
  intro H locs ls hP hD hS hL
  subst hw
  obtain ⟨hx, hb, -, -, -, hK, -, hr, hlk, -⟩ := C
  exact W.iret (v := v) hx hb hr (fun t ht hW => ⟨⟨v, u, rfl, hq, by rw [ht]; exact hP, va_K.moved hW.alike hK, hD⟩, hS.F ht⟩) hS.2.2 hd.1 hlk
theorem bs_zret (C : bf_C X own cc nL (some .boolean)) {Q : Int32 → T → Prop} {v : Int32} (hd : bf_D cc pc .ireturn 1 pc2) (hz : narrow .boolean (.int v) = .int v) {w : bf_W} (hw : wf u = w) (hq : Q v u) : bf_A X (bf_Zi X wf Q) nL pc lv [.int v] w := by
  intro H locs ls hP hD hS hL
  subst hw
  obtain ⟨hx, hb, -, -, -, hK, -, hr, hlk, -⟩ := C
  exact W.zret (v := v) hx hb hr hz (fun t ht hW => ⟨⟨v, u, rfl, hq, by rw [ht]; exact hP, va_K.moved hW.alike hK, hD⟩, hS.F ht⟩) hS.2.2 hd.1 hlk
theorem bs_lret (C : bf_C X own cc nL (some .long)) {Q : Int64 → T → Prop} {v : Int64} (hd : bf_D cc pc .lreturn 1 pc2) {w : bf_W} (hw : wf u = w) (hq : Q v u) : bf_A X (bf_Zl X wf Q) nL pc lv [.long v] w := by
  intro H locs ls hP hD hS hL
  subst hw
  obtain ⟨hx, hb, -, -, -, hK, -, hr, hlk, -⟩ := C
  exact W.lret (v := v) hx hb hr (fun t ht hW => ⟨⟨v, u, rfl, hq, by rw [ht]; exact hP, va_K.moved hW.alike hK, hD⟩, hS.F ht⟩) hS.2.2 hd.1 hlk
theorem bs_vret (C : bf_C X own cc nL none) {Q : T → Prop} (hd : bf_D cc pc .return_ 1 pc2) {w : bf_W} (hw : wf u = w) (hq : Q u) : bf_A X (bf_Zv X wf Q) nL pc lv [] w := by
  intro H locs ls hP hD hS hL
  subst hw
  obtain ⟨hx, hb, -, -, -, hK, -, hr, hlk, -⟩ := C
  exact W.vret hx hb hr (fun t ht hW => ⟨⟨u, rfl, hq, by rw [ht]; exact hP, va_K.moved hW.alike hK, hD⟩, hS.F ht⟩) hS.2.2 hd.1 hlk
end BFT
/-! a callee's places among the caller's -/
def bf_ren (ps : List Nat) : Value → Value
  | .ref j => .ref (ps.getD j 0)
  | .int x => .int x
  | .long x => .long x
  | .null => .null
  | .float x => .float x
  | .double x => .double x
  | .retAddr x => .retAddr x
def bf_rne (ps : List Nat) : bf_E → bf_E
  | .inl a => .inl a
  | .inr o => .inr (o.1, o.2.map (bf_ren ps))
def bf_alc (al : Nat → Nat) (ps : List Nat) : Nat → Nat := fun j => al (ps.getD j 0)
theorem bf_cv_ren (al : Nat → Nat) (ps : List Nat) (v : Value) : bf_cv al (bf_ren ps v) = bf_cv (bf_alc al ps) v := by cases v <;> rfl
theorem bf_ce_rne (ac : Nat → ClassId) (al : Nat → Nat) (ps : List Nat) (e : bf_E) : bf_ce ac al (bf_rne ps e) = bf_ce ac (bf_alc al ps) e := by
  cases e with
  | inl a => rfl
  | inr o => simp [bf_ce, bf_rne, List.map_map, Function.comp_def, bf_cv_ren]
def bf_put : bf_W → List Nat → bf_W → bf_W
  | w, i :: ps, e :: es => bf_put (w.set i e) ps es
  | w, _, _ => w
theorem bf_put_len : ∀ (w : bf_W) (ps : List Nat) (es : bf_W), (bf_put w ps es).length = w.length
  | w, [], es => by cases es <;> rfl
  | w, i :: ps, [] => rfl
  | w, i :: ps, e :: es => by
    show (bf_put (w.set i e) ps es).length = w.length
    rw [bf_put_len, List.length_set]
theorem bf_put_out : ∀ (w : bf_W) (ps : List Nat) (es : bf_W) (k : Nat), k ∉ ps → (bf_put w ps es)[k]? = w[k]?
  | w, [], es, k, _ => by cases es <;> rfl
  | w, i :: ps, [], k, _ => rfl
  | w, i :: ps, e :: es, k, h => by
    show (bf_put (w.set i e) ps es)[k]? = w[k]?
    rw [bf_put_out _ _ _ _ (fun q => h (List.mem_cons_of_mem _ q)), List.getElem?_set, if_neg (fun q => h (by rw [q]; exact List.mem_cons_self))]
theorem bf_put_in : ∀ (w : bf_W) (ps : List Nat) (es : bf_W) (j k : Nat) (e : bf_E), va_nd ps = true → ps[j]? = some k → es[j]? = some e → k < w.length → (bf_put w ps es)[k]? = some e
  | w, [], es, j, k, e, _, h, _, _ => by simp at h
  | w, i :: ps, [], j, k, e, _, _, h, _ => by simp at h
  | w, i :: ps, e0 :: es, 0, k, e, hn, h1, h2, hk => by
    simp at h1 h2
    subst h1; subst h2
    show (bf_put (w.set i e0) ps es)[i]? = some e0
    simp only [va_nd, Bool.and_eq_true, decide_eq_true_eq] at hn
    rw [bf_put_out _ _ _ _ hn.1, List.getElem?_set, if_pos rfl, if_pos hk]
  | w, i :: ps, e0 :: es, j + 1, k, e, hn, h1, h2, hk => by
    simp only [va_nd, Bool.and_eq_true, decide_eq_true_eq] at hn
    exact bf_put_in (w.set i e0) ps es j k e hn.2 (by simpa using h1) (by simpa using h2) (by rw [List.length_set]; exact hk)
theorem bf_D_len {A : Nat → Prop} {ac : Nat → ClassId} {al : Nat → Nat} {w w2 : bf_W} (h : va_D A (bf_cw ac al w)) (hl : w2.length = w.length) : va_D A (bf_cw ac al w2) := by
  have key : ∀ (k : Nat) (q : Nat × va_E), (bf_cw ac al w2)[k]? = some q → ∃ e, (bf_cw ac al w)[k]? = some (q.1, e) := by
    intro k q hq
    have hk : k < w.length := by
      have := (List.getElem?_eq_some_iff.mp hq).1
      rw [bf_cw_len] at this
      omega
    have h1 : w[k]? = some w[k] := List.getElem?_eq_getElem hk
    rw [bf_cw_get] at hq
    cases h2 : w2[k]? with
    | none => rw [h2] at hq; cases hq
    | some e2 =>
      rw [h2] at hq
      cases hq
      exact ⟨_, bf_cw_some h1⟩
  refine ⟨fun i j p q hi hj hpq => ?_, fun k q hk => ?_⟩
  · obtain ⟨e1, h1⟩ := key i p hi
    obtain ⟨e2, h2⟩ := key j q hj
    exact h.1 i j _ _ h1 h2 hpq
  · obtain ⟨e1, h1⟩ := key k q hk
    exact h.2 k (q.1, e1) h1
/-- which places: the callee's world is the caller's there -/
def bf_Sub (w : bf_W) (ps : List Nat) (wc : bf_W) : Prop := ps.map (fun i => w[i]?) = wc.map (fun e => some (bf_rne ps e))
theorem bf_Sub.conc {ac : Nat → ClassId} {al : Nat → Nat} {w wc : bf_W} {ps : List Nat} (h : bf_Sub w ps wc) : ps.map (fun i => (bf_cw ac al w)[i]?) = (bf_cw ac (bf_alc al ps) wc).map some := by
  have hlen : ps.length = wc.length := by simpa using congrArg List.length h
  apply List.ext_getElem?
  intro j
  rw [List.getElem?_map, List.getElem?_map, bf_cw_get]
  cases hj : ps[j]? with
  | none =>
    have : wc[j]? = none := by
      rw [List.getElem?_eq_none_iff] at hj ⊢
      omega
    rw [this]; rfl
  | some i =>
    have hj2 : j < wc.length := by
      have := (List.getElem?_eq_some_iff.mp hj).1
      omega
    have h1 : (ps.map (fun i => w[i]?))[j]? = (wc.map (fun e => some (bf_rne ps e)))[j]? := by rw [h]
    rw [List.getElem?_map, List.getElem?_map, hj, List.getElem?_eq_getElem hj2] at h1
    simp only [Option.map_some, Option.some.injEq] at h1
    rw [List.getElem?_eq_getElem hj2]
    simp only [Option.map_some]
    rw [bf_cw_some h1, bf_ce_rne]
    have : bf_alc al ps j = al i := by simp [bf_alc, List.getD, hj]
    rw [this]
/-- behind a call: the callee's cells put back -/
theorem bf_back {D : va_G} {cl : List vw_C} {A : Nat → Prop} {ac : Nat → ClassId} {al : Nat → Nat} {w wc w1 : bf_W} {ps : List Nat} {H H1 : Heap} (hP : va_P D cl (bf_cw ac al w) H) (hD : va_D A (bf_cw ac al w)) (hs : bf_Sub w ps wc) (hnd : va_nd ps = true) (hl1 : w1.length = ps.length)
    (hk : ∀ q : Nat, q < H.size → ¬ va_A (bf_cw ac (bf_alc al ps) wc) H.size q → H1[q]? = H[q]?) (hP1 : va_P D cl (bf_cw ac (bf_alc al ps) w1) H1) : va_P D cl (bf_cw ac al (bf_put w ps (w1.map (bf_rne ps)))) H1 := by
  have hlen : ps.length = wc.length := by simpa using congrArg List.length hs
  intro k q hq
  by_cases hkp : k ∈ ps
  · obtain ⟨j, hj⟩ := List.getElem?_of_mem hkp
    have hj1 : j < w1.length := by
      have := (List.getElem?_eq_some_iff.mp hj).1
      omega
    have hkw : k < w.length := by
      have := (List.getElem?_eq_some_iff.mp hq).1
      rw [bf_cw_len, bf_put_len] at this
      exact this
    have h2 := bf_put_in w ps (w1.map (bf_rne ps)) j k (bf_rne ps w1[j]) hnd hj (by rw [List.getElem?_map, List.getElem?_eq_getElem hj1]; rfl) hkw
    rw [bf_cw_some h2, bf_ce_rne] at hq
    cases hq
    have hal : bf_alc al ps j = al k := by simp [bf_alc, List.getD, hj]
    have := hP1 j (bf_alc al ps j, bf_ce ac (bf_alc al ps) w1[j]) (bf_cw_some (List.getElem?_eq_getElem hj1))
    rw [hal] at this
    exact this
  · have h2 := bf_put_out w ps (w1.map (bf_rne ps)) k hkp
    have h3 : (bf_cw ac al w)[k]? = some q := by
      rw [bf_cw_get] at hq ⊢
      rw [h2] at hq
      exact hq
    have h4 := hP k q h3
    refine h4.kept (hk q.1 h4.lt ?_)
    intro hA
    rcases hA with ⟨j, e, hj⟩ | hA
    · have hjl : j < ps.length := by
        have := (List.getElem?_eq_some_iff.mp hj).1
        rw [bf_cw_len] at this
        omega
      have hc := hs.conc (ac := ac) (al := al)
      have h5 : (ps.map (fun i => (bf_cw ac al w)[i]?))[j]? = some (some (q.1, e)) := by rw [hc, List.getElem?_map, hj]; rfl
      rw [List.getElem?_map, List.getElem?_eq_getElem hjl] at h5
      simp only [Option.map_some, Option.some.injEq] at h5
      have := hD.1 k ps[j] q (q.1, e) h3 h5 rfl
      exact hkp (this ▸ List.getElem_mem hjl)
    · have := h4.lt
      omega
theorem bf_blind (dC : Nat → ClassId) (dI : Nat → Nat → Nat) (ac : Nat → ClassId) (al : Nat → Nat) (sz : Nat) (avs : List Value) (w : bf_W) : FrameBlind (bf_Pre dC dI ac al sz avs w) := by
  intro a U g mk h
  obtain ⟨h0, h1, h2, h3, h4, h5⟩ := h
  exact ⟨h0, h1, h2, va_K.moved (u := U) (U := U.calling g mk a) (Vm.Alike.refl U.vm) h3, h4, h5.same rfl⟩
/-- a method's own words -/
def bf_MB (y : MethodName) (cc : ByteArray) (n : Nat) (ret : Option FieldType) (np : Nat) : Prop :=
  Cond.code y cc n ret ∈ lw_good ∧ Cond.initialized y.cls ∈ lw_good ∧ (y.cls ≠ "java/lang/invoke/MethodHandle" ∧ y.cls ≠ "java/lang/invoke/VarHandle" ∧ (parseMethodDescriptor y.desc).map (fun d => d.parameters.length) = some np)
def bf_MV (y : MethodName) (cc : ByteArray) (n : Nat) (ret : Option FieldType) (np : Nat) : Prop := bf_MB y cc n ret np ∧ Cond.instanceMethod y ∈ lw_good ∧ Cond.selects y.cls y y ∈ lw_good
def bf_MS (y : MethodName) (cc : ByteArray) (n : Nat) (ret : Option FieldType) (np : Nat) : Prop := bf_MB y cc n ret np ∧ Cond.static y ∈ lw_good
theorem bf_good_of {w : Cond} (h : w ∈ lw_good) : w ∈ lw_good ∧ ((w.onTables && w.keeps) = true ∨ ∃ ty, w = .arrayClass ty) := ⟨h, good_of_word (List.mem_filter.mp h).2⟩
theorem bf_goodIn {y : MethodName} {cc : ByteArray} {n : Nat} {ret : Option FieldType} {np : Nat} (h : bf_MB y cc n ret np) : GoodIn lw_good (bf_ws y cc n ret) := by
  intro w hw
  rcases List.mem_cons.mp hw with rfl | hw
  · exact bf_good_of h.1
  · exact bf_good_of hw
theorem bf_rest (al : Nat → Nat) (st : List Value) : ((st.map (bf_cv al)).map fun v => v.category).sum = (st.map fun v => v.category).sum := by
  rw [List.map_map]
  congr 1
  apply List.map_congr_left
  intro v _
  exact bf_cv_cat al v
theorem bf_put_self0 : ∀ (w : bf_W) (ps : List Nat) (es : bf_W), ps.map (fun i => w[i]?) = es.map some → bf_put w ps es = w
  | w, [], es, _ => by cases es <;> rfl
  | w, i :: ps, [], _ => rfl
  | w, i :: ps, e :: es, h => by
    simp only [List.map_cons, List.cons.injEq] at h
    have hw : w.set i e = w := by
      apply List.ext_getElem?
      intro j
      rw [List.getElem?_set]
      by_cases hij : i = j
      · subst hij
        rw [if_pos rfl, h.1, if_pos (List.getElem?_eq_some_iff.mp h.1).1]
      · rw [if_neg hij]
    show bf_put (w.set i e) ps es = w
    rw [hw]
    exact bf_put_self0 w ps es h.2
theorem bf_put_self {w wc : bf_W} {ps : List Nat} (hs : bf_Sub w ps wc) : bf_put w ps (wc.map (bf_rne ps)) = w := bf_put_self0 w ps _ (by rw [List.map_map]; exact hs)
section BFCALL
variable {X : bf_X} {Q : State → Prop} {own : String} {cc : ByteArray} {nL : Nat} {ret : Option FieldType} {pc pc2 : Nat} {lv : bf_V} {st : List Value} {w : bf_W} {fr0 lo0 : Nat}
variable {y : MethodName} {bytes : ByteArray} {maxL np index : Nat} {retc : Option FieldType} {fr lo : Nat} {ps : List Nat} {avs : List Value} {wc : bf_W} {Qc : (Nat → Prop) → Array Value → State → Outcome → State → Prop}

theorem bf_runV (C : bf_C X own cc nL ret) (hR : bf_Rm X fr0 lo0) (hM : bf_M (xl X) y bytes maxL retc fr lo (xdC X) (xdI X) (xac X) (bf_alc (xal X) ps) avs wc Qc) (hm : bf_MV y bytes maxL retc np) (hlk : Cond.methodLink own index y ∈ lw_good) {rq ci : Nat} {fs : List Value} {Tc : u_T} {Nc : Nat} (hrc : avs = .ref rq :: avs.tail) (hcl : bf_cl[ci]? = some (y.cls, Tc, Nc)) (hrw : wc[rq]? = some (.inr (ci, fs))) (hnp : avs.tail.length = np) (hfr : fr + 1 ≤ fr0) (hlo : 8 + (maxL + 11) + lo ≤ lo0) (hs : bf_Sub w ps wc) (hnd : va_nd ps = true) (hroom : (st.map fun v => v.category).sum ≤ 8) (hd : bf_D cc pc (.invokevirtual index) 3 pc2) {H : Heap} {locs : List Loc} {ls : Array Slot} (hP : va_P (xdC X, xdI X) bf_cl (bf_cw (xac X) (xal X) w) H) (hD : va_D (xA X) (bf_cw (xac X) (xal X) w)) (hL : bf_L (xal X) ls nL lv) :
    va_Run (xp X) (xl X) (xe X) (xR X) (xs X) (xm X) (xa X) (xb X) (xh X) (xc X) H locs (xk X) (xn X) 0 0 (F0 (xm X) pc ls ((((avs.map (bf_ren ps)).reverse) ++ st).map (bf_cv (xal X)))) (st.map (bf_cv (xal X))) (Qc (bf_fr (xac X) (bf_alc (xal X) ps) wc H.size) (avs.map (bf_cv (bf_alc (xal X) ps))).toArray) (bf_fr (xac X) (bf_alc (xal X) ps) wc H.size) := by
  have hRR : (bf_rm fr lo).frames + 1 ≤ (xR X).frames ∧ 8 + (maxL + 11) + (bf_rm fr lo).locals ≤ (xR X).locals := ⟨Nat.le_trans hfr hR.1, Nat.le_trans hlo hR.2.1⟩
  have hPc : va_P (xdC X, xdI X) bf_cl (bf_cw (xac X) (bf_alc (xal X) ps) wc) H := hP.sub ps (by
    have h := hs.conc (ac := xac X) (al := xal X)
    have h2 : ps.filterMap (fun i => (bf_cw (xac X) (xal X) w)[i]?) = (ps.map (fun i => (bf_cw (xac X) (xal X) w)[i]?)).filterMap id := by rw [List.filterMap_map]; rfl
    rw [h2, h, List.filterMap_map]
    simp [Function.comp_def])
  have hDc : va_D (xA X) (bf_cw (xac X) (bf_alc (xal X) ps) wc) := hD.sub ps hnd (hs.conc)
  have hst : ((avs.map (bf_ren ps)).reverse ++ st).map (bf_cv (xal X)) = (avs.map (bf_cv (bf_alc (xal X) ps))).reverse ++ st.map (bf_cv (xal X)) := by
    rw [List.map_append, List.map_reverse, List.map_map]
    congr 2
    apply List.map_congr_left
    intro v _
    exact bf_cv_ren (xal X) ps v
  have hpre : ∀ U : State, U.heap = H → (xs X).WarmedH U.vm → bf_Pre (xdC X) (xdI X) (xac X) (bf_alc (xal X) ps) H.size avs wc (avs.map (bf_cv (bf_alc (xal X) ps))).toArray U := fun U hU hW => ⟨rfl, by rw [hU], by rw [hU]; exact hPc, va_K.moved hW.alike C.2.2.2.2.2.1, hDc.weaken (fun _ _ _ _ => trivial), C.2.2.2.2.2.2.1.warm hW⟩
  have hav : avs.map (bf_cv (bf_alc (xal X) ps)) = Value.ref (bf_alc (xal X) ps rq) :: avs.tail.map (bf_cv (bf_alc (xal X) ps)) := by rw [hrc]; rfl
  rw [hst]
  rw [hav] at hpre ⊢
  rw [List.reverse_cons, List.append_assoc]
  exact va_runV (As := avs.tail.map (bf_cv (bf_alc (xal X) ps))) (rest := st.map (bf_cv (xal X))) ⟨C.1, C.2.1, C.2.2.1, C.2.2.2.1, C.2.2.2.2.1⟩ (hM H.size) ⟨callB_of np C.2.2.2.2.1 (bf_goodIn hm.1) rfl rfl rfl (C.2.2.2.2.1 _ hm.1.2.1) (C.2.2.2.2.1 _ hlk) hm.1.2.2 hRR, C.2.2.2.2.1 _ hm.2.1, C.2.2.2.2.1 _ hm.2.2⟩ ⟨bf_blind _ _ _ _ _ _ _, va_recv C.2.2.2.2.2.1 hPc hcl (bf_cw_some hrw), hpre⟩ rfl (by rw [List.length_map]; exact hnp) hL.1 rfl (lv_room (by rw [bf_rest]; exact hroom)) hd.1 ⟨hR.2.2.1, hR.2.2.2⟩
theorem bs_callV_i {T : Type} {wf : T → bf_W} {S : T} {Qp : Int32 → T → Prop} (C : bf_C X own cc nL ret) (hR : bf_Rm X fr0 lo0) (hM : bf_M (xl X) y bytes maxL retc fr lo (xdC X) (xdI X) (xac X) (bf_alc (xal X) ps) avs (wf S) (bf_Ki (xdC X) (xdI X) (xac X) (bf_alc (xal X) ps) wf Qp)) (hm : bf_MV y bytes maxL retc np) (hlk : Cond.methodLink own index y ∈ lw_good) {rq ci : Nat} {fs : List Value} {Tc : u_T} {Nc : Nat} (hrc : avs = .ref rq :: avs.tail) (hcl : bf_cl[ci]? = some (y.cls, Tc, Nc)) (hrw : (wf S)[rq]? = some (.inr (ci, fs))) (hnp : avs.tail.length = np) (hfr : fr + 1 ≤ fr0) (hlo : 8 + (maxL + 11) + lo ≤ lo0) (hs : bf_Sub w ps (wf S)) (hnd : va_nd ps = true) (hroom : (st.map fun v => v.category).sum ≤ 8) (hd : bf_D cc pc (.invokevirtual index) 3 pc2) {st0 : List Value} (hst0 : (avs.map (bf_ren ps)).reverse ++ st = st0) (hwl : ∀ u, (wf u).length = ps.length) {w2 : T → bf_W} (hput : ∀ u, bf_put w ps ((wf u).map (bf_rne ps)) = w2 u) (kk : ∀ (r : Int32) (u : T), Qp r u → bf_A X Q nL pc2 lv (.int r :: st) (w2 u)) : bf_A X Q nL pc lv st0 w := by
  intro H locs ls hP hD hS hL
  subst hst0
  have hFc : ∀ q, bf_fr (xac X) (bf_alc (xal X) ps) (wf S) H.size q → xA X q := va_free hD hS C.2.2.2.2.2.2.2.2.2 ps hs.conc
  have hrun := bf_runV (locs := locs) (lv := lv) C hR hM hm hlk hrc hcl hrw hnp hfr hlo hs hnd hroom hd hP hD hL
  obtain ⟨hd1, hd2⟩ := hd
  subst hd2
  refine va_calli hrun hS (fun q _ h => hFc q h) hFc (fun r u t H1 locs1 ht hvm hw hB hz1 hk1 hS1 => ?_)
  obtain ⟨hP1, hK1, hD1⟩ := hB
  rw [ht] at hP1
  have hP2 := bf_back hP hD hs hnd (hwl u) hk1 hP1
  rw [hput] at hP2
  exact kk r u hw H1 locs1 ls hP2 (bf_D_len hD (by rw [← hput, bf_put_len])) hS1 hL
theorem bs_callV_l {T : Type} {wf : T → bf_W} {S : T} {Qp : Int64 → T → Prop} (C : bf_C X own cc nL ret) (hR : bf_Rm X fr0 lo0) (hM : bf_M (xl X) y bytes maxL retc fr lo (xdC X) (xdI X) (xac X) (bf_alc (xal X) ps) avs (wf S) (bf_Kl (xdC X) (xdI X) (xac X) (bf_alc (xal X) ps) wf Qp)) (hm : bf_MV y bytes maxL retc np) (hlk : Cond.methodLink own index y ∈ lw_good) {rq ci : Nat} {fs : List Value} {Tc : u_T} {Nc : Nat} (hrc : avs = .ref rq :: avs.tail) (hcl : bf_cl[ci]? = some (y.cls, Tc, Nc)) (hrw : (wf S)[rq]? = some (.inr (ci, fs))) (hnp : avs.tail.length = np) (hfr : fr + 1 ≤ fr0) (hlo : 8 + (maxL + 11) + lo ≤ lo0) (hs : bf_Sub w ps (wf S)) (hnd : va_nd ps = true) (hroom : (st.map fun v => v.category).sum ≤ 8) (hd : bf_D cc pc (.invokevirtual index) 3 pc2) {st0 : List Value} (hst0 : (avs.map (bf_ren ps)).reverse ++ st = st0) (hwl : ∀ u, (wf u).length = ps.length) {w2 : T → bf_W} (hput : ∀ u, bf_put w ps ((wf u).map (bf_rne ps)) = w2 u) (kk : ∀ (r : Int64) (u : T), Qp r u → bf_A X Q nL pc2 lv (.long r :: st) (w2 u)) : bf_A X Q nL pc lv st0 w := by
  intro H locs ls hP hD hS hL
  subst hst0
  have hFc : ∀ q, bf_fr (xac X) (bf_alc (xal X) ps) (wf S) H.size q → xA X q := va_free hD hS C.2.2.2.2.2.2.2.2.2 ps hs.conc
  have hrun := bf_runV (locs := locs) (lv := lv) C hR hM hm hlk hrc hcl hrw hnp hfr hlo hs hnd hroom hd hP hD hL
  obtain ⟨hd1, hd2⟩ := hd
  subst hd2
  refine va_calll hrun hS (fun q _ h => hFc q h) hFc (fun r u t H1 locs1 ht hvm hw hB hz1 hk1 hS1 => ?_)
  obtain ⟨hP1, hK1, hD1⟩ := hB
  rw [ht] at hP1
  have hP2 := bf_back hP hD hs hnd (hwl u) hk1 hP1
  rw [hput] at hP2
  exact kk r u hw H1 locs1 ls hP2 (bf_D_len hD (by rw [← hput, bf_put_len])) hS1 hL
theorem bs_callV_v {T : Type} {wf : T → bf_W} {S : T} {Qp : T → Prop} (C : bf_C X own cc nL ret) (hR : bf_Rm X fr0 lo0) (hM : bf_M (xl X) y bytes maxL retc fr lo (xdC X) (xdI X) (xac X) (bf_alc (xal X) ps) avs (wf S) (bf_Kv (xdC X) (xdI X) (xac X) (bf_alc (xal X) ps) wf Qp)) (hm : bf_MV y bytes maxL retc np) (hlk : Cond.methodLink own index y ∈ lw_good) {rq ci : Nat} {fs : List Value} {Tc : u_T} {Nc : Nat} (hrc : avs = .ref rq :: avs.tail) (hcl : bf_cl[ci]? = some (y.cls, Tc, Nc)) (hrw : (wf S)[rq]? = some (.inr (ci, fs))) (hnp : avs.tail.length = np) (hfr : fr + 1 ≤ fr0) (hlo : 8 + (maxL + 11) + lo ≤ lo0) (hs : bf_Sub w ps (wf S)) (hnd : va_nd ps = true) (hroom : (st.map fun v => v.category).sum ≤ 8) (hd : bf_D cc pc (.invokevirtual index) 3 pc2) {st0 : List Value} (hst0 : (avs.map (bf_ren ps)).reverse ++ st = st0) (hwl : ∀ u, (wf u).length = ps.length) {w2 : T → bf_W} (hput : ∀ u, bf_put w ps ((wf u).map (bf_rne ps)) = w2 u) (kk : ∀ (u : T), Qp u → bf_A X Q nL pc2 lv (st) (w2 u)) : bf_A X Q nL pc lv st0 w := by
  intro H locs ls hP hD hS hL
  subst hst0
  have hFc : ∀ q, bf_fr (xac X) (bf_alc (xal X) ps) (wf S) H.size q → xA X q := va_free hD hS C.2.2.2.2.2.2.2.2.2 ps hs.conc
  have hrun := bf_runV (locs := locs) (lv := lv) C hR hM hm hlk hrc hcl hrw hnp hfr hlo hs hnd hroom hd hP hD hL
  obtain ⟨hd1, hd2⟩ := hd
  subst hd2
  refine va_callv hrun hS (fun q _ h => hFc q h) hFc (fun u t H1 locs1 ht hvm hw hB hz1 hk1 hS1 => ?_)
  obtain ⟨hP1, hK1, hD1⟩ := hB
  rw [ht] at hP1
  have hP2 := bf_back hP hD hs hnd (hwl u) hk1 hP1
  rw [hput] at hP2
  exact kk u hw H1 locs1 ls hP2 (bf_D_len hD (by rw [← hput, bf_put_len])) hS1 hL
theorem bf_runVN (C : bf_C X own cc nL ret) (hR : bf_Rm X fr0 lo0) (hM : bf_M (xl X) y bytes maxL retc fr lo (xdC X) (xdI X) (xac X) (bf_alc (xal X) ps) avs wc Qc) (hm : bf_MV y bytes maxL retc np) {host : String} (hlk : Cond.methodLinkNest own index y host ∈ lw_tbl) {rq ci : Nat} {fs : List Value} {Tc : u_T} {Nc : Nat} (hrc : avs = .ref rq :: avs.tail) (hcl : bf_cl[ci]? = some (y.cls, Tc, Nc)) (hrw : wc[rq]? = some (.inr (ci, fs))) (hnp : avs.tail.length = np) (hfr : fr + 1 ≤ fr0) (hlo : 8 + (maxL + 11) + lo ≤ lo0) (hs : bf_Sub w ps wc) (hnd : va_nd ps = true) (hroom : (st.map fun v => v.category).sum ≤ 8) (hd : bf_D cc pc (.invokevirtual index) 3 pc2) {H : Heap} {locs : List Loc} {ls : Array Slot} (hP : va_P (xdC X, xdI X) bf_cl (bf_cw (xac X) (xal X) w) H) (hD : va_D (xA X) (bf_cw (xac X) (xal X) w)) (hL : bf_L (xal X) ls nL lv) :
    va_Run (xp X) (xl X) (xe X) (xR X) (xs X) (xm X) (xa X) (xb X) (xh X) (xc X) H locs (xk X) (xn X) 0 0 (F0 (xm X) pc ls ((((avs.map (bf_ren ps)).reverse) ++ st).map (bf_cv (xal X)))) (st.map (bf_cv (xal X))) (Qc (bf_fr (xac X) (bf_alc (xal X) ps) wc H.size) (avs.map (bf_cv (bf_alc (xal X) ps))).toArray) (bf_fr (xac X) (bf_alc (xal X) ps) wc H.size) := by
  have hRR : (bf_rm fr lo).frames + 1 ≤ (xR X).frames ∧ 8 + (maxL + 11) + (bf_rm fr lo).locals ≤ (xR X).locals := ⟨Nat.le_trans hfr hR.1, Nat.le_trans hlo hR.2.1⟩
  have hPc : va_P (xdC X, xdI X) bf_cl (bf_cw (xac X) (bf_alc (xal X) ps) wc) H := hP.sub ps (by
    have h := hs.conc (ac := xac X) (al := xal X)
    have h2 : ps.filterMap (fun i => (bf_cw (xac X) (xal X) w)[i]?) = (ps.map (fun i => (bf_cw (xac X) (xal X) w)[i]?)).filterMap id := by rw [List.filterMap_map]; rfl
    rw [h2, h, List.filterMap_map]
    simp [Function.comp_def])
  have hDc : va_D (xA X) (bf_cw (xac X) (bf_alc (xal X) ps) wc) := hD.sub ps hnd (hs.conc)
  have hst : ((avs.map (bf_ren ps)).reverse ++ st).map (bf_cv (xal X)) = (avs.map (bf_cv (bf_alc (xal X) ps))).reverse ++ st.map (bf_cv (xal X)) := by
    rw [List.map_append, List.map_reverse, List.map_map]
    congr 2
    apply List.map_congr_left
    intro v _
    exact bf_cv_ren (xal X) ps v
  have hpre : ∀ U : State, U.heap = H → (xs X).WarmedH U.vm → bf_Pre (xdC X) (xdI X) (xac X) (bf_alc (xal X) ps) H.size avs wc (avs.map (bf_cv (bf_alc (xal X) ps))).toArray U := fun U hU hW => ⟨rfl, by rw [hU], by rw [hU]; exact hPc, va_K.moved hW.alike C.2.2.2.2.2.1, hDc.weaken (fun _ _ _ _ => trivial), C.2.2.2.2.2.2.1.warm hW⟩
  have hav : avs.map (bf_cv (bf_alc (xal X) ps)) = Value.ref (bf_alc (xal X) ps rq) :: avs.tail.map (bf_cv (bf_alc (xal X) ps)) := by rw [hrc]; rfl
  rw [hst]
  rw [hav] at hpre ⊢
  rw [List.reverse_cons, List.append_assoc]
  exact va_runVN (As := avs.tail.map (bf_cv (bf_alc (xal X) ps))) (rest := st.map (bf_cv (xal X))) ⟨C.1, C.2.1, C.2.2.1, C.2.2.2.1, C.2.2.2.2.1⟩ (hM H.size) ⟨va_cnB np C.2.2.2.2.1 (bf_goodIn hm.1) rfl rfl rfl (C.2.2.2.2.2.2.1 _ hlk rfl) (C.2.2.2.2.1 _ hm.1.2.1) hm.1.2.2 hRR, C.2.2.2.2.1 _ hm.2.1, C.2.2.2.2.1 _ hm.2.2⟩ ⟨bf_blind _ _ _ _ _ _ _, va_recv C.2.2.2.2.2.1 hPc hcl (bf_cw_some hrw), hpre⟩ rfl (by rw [List.length_map]; exact hnp) hL.1 rfl (lv_room (by rw [bf_rest]; exact hroom)) hd.1 ⟨hR.2.2.1, hR.2.2.2⟩
theorem bs_callVN_i {T : Type} {wf : T → bf_W} {S : T} {Qp : Int32 → T → Prop} (C : bf_C X own cc nL ret) (hR : bf_Rm X fr0 lo0) (hM : bf_M (xl X) y bytes maxL retc fr lo (xdC X) (xdI X) (xac X) (bf_alc (xal X) ps) avs (wf S) (bf_Ki (xdC X) (xdI X) (xac X) (bf_alc (xal X) ps) wf Qp)) (hm : bf_MV y bytes maxL retc np) {host : String} (hlk : Cond.methodLinkNest own index y host ∈ lw_tbl) {rq ci : Nat} {fs : List Value} {Tc : u_T} {Nc : Nat} (hrc : avs = .ref rq :: avs.tail) (hcl : bf_cl[ci]? = some (y.cls, Tc, Nc)) (hrw : (wf S)[rq]? = some (.inr (ci, fs))) (hnp : avs.tail.length = np) (hfr : fr + 1 ≤ fr0) (hlo : 8 + (maxL + 11) + lo ≤ lo0) (hs : bf_Sub w ps (wf S)) (hnd : va_nd ps = true) (hroom : (st.map fun v => v.category).sum ≤ 8) (hd : bf_D cc pc (.invokevirtual index) 3 pc2) {st0 : List Value} (hst0 : (avs.map (bf_ren ps)).reverse ++ st = st0) (hwl : ∀ u, (wf u).length = ps.length) {w2 : T → bf_W} (hput : ∀ u, bf_put w ps ((wf u).map (bf_rne ps)) = w2 u) (kk : ∀ (r : Int32) (u : T), Qp r u → bf_A X Q nL pc2 lv (.int r :: st) (w2 u)) : bf_A X Q nL pc lv st0 w := by
  intro H locs ls hP hD hS hL
  subst hst0
  have hFc : ∀ q, bf_fr (xac X) (bf_alc (xal X) ps) (wf S) H.size q → xA X q := va_free hD hS C.2.2.2.2.2.2.2.2.2 ps hs.conc
  have hrun := bf_runVN (locs := locs) (lv := lv) C hR hM hm hlk hrc hcl hrw hnp hfr hlo hs hnd hroom hd hP hD hL
  obtain ⟨hd1, hd2⟩ := hd
  subst hd2
  refine va_calli hrun hS (fun q _ h => hFc q h) hFc (fun r u t H1 locs1 ht hvm hw hB hz1 hk1 hS1 => ?_)
  obtain ⟨hP1, hK1, hD1⟩ := hB
  rw [ht] at hP1
  have hP2 := bf_back hP hD hs hnd (hwl u) hk1 hP1
  rw [hput] at hP2
  exact kk r u hw H1 locs1 ls hP2 (bf_D_len hD (by rw [← hput, bf_put_len])) hS1 hL
theorem bs_callVN_l {T : Type} {wf : T → bf_W} {S : T} {Qp : Int64 → T → Prop} (C : bf_C X own cc nL ret) (hR : bf_Rm X fr0 lo0) (hM : bf_M (xl X) y bytes maxL retc fr lo (xdC X) (xdI X) (xac X) (bf_alc (xal X) ps) avs (wf S) (bf_Kl (xdC X) (xdI X) (xac X) (bf_alc (xal X) ps) wf Qp)) (hm : bf_MV y bytes maxL retc np) {host : String} (hlk : Cond.methodLinkNest own index y host ∈ lw_tbl) {rq ci : Nat} {fs : List Value} {Tc : u_T} {Nc : Nat} (hrc : avs = .ref rq :: avs.tail) (hcl : bf_cl[ci]? = some (y.cls, Tc, Nc)) (hrw : (wf S)[rq]? = some (.inr (ci, fs))) (hnp : avs.tail.length = np) (hfr : fr + 1 ≤ fr0) (hlo : 8 + (maxL + 11) + lo ≤ lo0) (hs : bf_Sub w ps (wf S)) (hnd : va_nd ps = true) (hroom : (st.map fun v => v.category).sum ≤ 8) (hd : bf_D cc pc (.invokevirtual index) 3 pc2) {st0 : List Value} (hst0 : (avs.map (bf_ren ps)).reverse ++ st = st0) (hwl : ∀ u, (wf u).length = ps.length) {w2 : T → bf_W} (hput : ∀ u, bf_put w ps ((wf u).map (bf_rne ps)) = w2 u) (kk : ∀ (r : Int64) (u : T), Qp r u → bf_A X Q nL pc2 lv (.long r :: st) (w2 u)) : bf_A X Q nL pc lv st0 w := by
  intro H locs ls hP hD hS hL
  subst hst0
  have hFc : ∀ q, bf_fr (xac X) (bf_alc (xal X) ps) (wf S) H.size q → xA X q := va_free hD hS C.2.2.2.2.2.2.2.2.2 ps hs.conc
  have hrun := bf_runVN (locs := locs) (lv := lv) C hR hM hm hlk hrc hcl hrw hnp hfr hlo hs hnd hroom hd hP hD hL
  obtain ⟨hd1, hd2⟩ := hd
  subst hd2
  refine va_calll hrun hS (fun q _ h => hFc q h) hFc (fun r u t H1 locs1 ht hvm hw hB hz1 hk1 hS1 => ?_)
  obtain ⟨hP1, hK1, hD1⟩ := hB
  rw [ht] at hP1
  have hP2 := bf_back hP hD hs hnd (hwl u) hk1 hP1
  rw [hput] at hP2
  exact kk r u hw H1 locs1 ls hP2 (bf_D_len hD (by rw [← hput, bf_put_len])) hS1 hL
theorem bs_callVN_v {T : Type} {wf : T → bf_W} {S : T} {Qp : T → Prop} (C : bf_C X own cc nL ret) (hR : bf_Rm X fr0 lo0) (hM : bf_M (xl X) y bytes maxL retc fr lo (xdC X) (xdI X) (xac X) (bf_alc (xal X) ps) avs (wf S) (bf_Kv (xdC X) (xdI X) (xac X) (bf_alc (xal X) ps) wf Qp)) (hm : bf_MV y bytes maxL retc np) {host : String} (hlk : Cond.methodLinkNest own index y host ∈ lw_tbl) {rq ci : Nat} {fs : List Value} {Tc : u_T} {Nc : Nat} (hrc : avs = .ref rq :: avs.tail) (hcl : bf_cl[ci]? = some (y.cls, Tc, Nc)) (hrw : (wf S)[rq]? = some (.inr (ci, fs))) (hnp : avs.tail.length = np) (hfr : fr + 1 ≤ fr0) (hlo : 8 + (maxL + 11) + lo ≤ lo0) (hs : bf_Sub w ps (wf S)) (hnd : va_nd ps = true) (hroom : (st.map fun v => v.category).sum ≤ 8) (hd : bf_D cc pc (.invokevirtual index) 3 pc2) {st0 : List Value} (hst0 : (avs.map (bf_ren ps)).reverse ++ st = st0) (hwl : ∀ u, (wf u).length = ps.length) {w2 : T → bf_W} (hput : ∀ u, bf_put w ps ((wf u).map (bf_rne ps)) = w2 u) (kk : ∀ (u : T), Qp u → bf_A X Q nL pc2 lv (st) (w2 u)) : bf_A X Q nL pc lv st0 w := by
  intro H locs ls hP hD hS hL
  subst hst0
  have hFc : ∀ q, bf_fr (xac X) (bf_alc (xal X) ps) (wf S) H.size q → xA X q := va_free hD hS C.2.2.2.2.2.2.2.2.2 ps hs.conc
  have hrun := bf_runVN (locs := locs) (lv := lv) C hR hM hm hlk hrc hcl hrw hnp hfr hlo hs hnd hroom hd hP hD hL
  obtain ⟨hd1, hd2⟩ := hd
  subst hd2
  refine va_callv hrun hS (fun q _ h => hFc q h) hFc (fun u t H1 locs1 ht hvm hw hB hz1 hk1 hS1 => ?_)
  obtain ⟨hP1, hK1, hD1⟩ := hB
  rw [ht] at hP1
  have hP2 := bf_back hP hD hs hnd (hwl u) hk1 hP1
  rw [hput] at hP2
  exact kk u hw H1 locs1 ls hP2 (bf_D_len hD (by rw [← hput, bf_put_len])) hS1 hL
theorem bf_runS (C : bf_C X own cc nL ret) (hR : bf_Rm X fr0 lo0) (hM : bf_M (xl X) y bytes maxL retc fr lo (xdC X) (xdI X) (xac X) (bf_alc (xal X) ps) avs wc Qc) (hm : bf_MS y bytes maxL retc np) (hlk : Cond.methodLink own index y ∈ lw_good) (hnp : avs.length = np) (hfr : fr + 1 ≤ fr0) (hlo : 8 + (maxL + 11) + lo ≤ lo0) (hs : bf_Sub w ps wc) (hnd : va_nd ps = true) (hroom : (st.map fun v => v.category).sum ≤ 8) (hd : bf_D cc pc (.invokestatic index) 3 pc2) {H : Heap} {locs : List Loc} {ls : Array Slot} (hP : va_P (xdC X, xdI X) bf_cl (bf_cw (xac X) (xal X) w) H) (hD : va_D (xA X) (bf_cw (xac X) (xal X) w)) (hL : bf_L (xal X) ls nL lv) :
    va_Run (xp X) (xl X) (xe X) (xR X) (xs X) (xm X) (xa X) (xb X) (xh X) (xc X) H locs (xk X) (xn X) 0 0 (F0 (xm X) pc ls ((((avs.map (bf_ren ps)).reverse) ++ st).map (bf_cv (xal X)))) (st.map (bf_cv (xal X))) (Qc (bf_fr (xac X) (bf_alc (xal X) ps) wc H.size) (avs.map (bf_cv (bf_alc (xal X) ps))).toArray) (bf_fr (xac X) (bf_alc (xal X) ps) wc H.size) := by
  have hRR : (bf_rm fr lo).frames + 1 ≤ (xR X).frames ∧ 8 + (maxL + 11) + (bf_rm fr lo).locals ≤ (xR X).locals := ⟨Nat.le_trans hfr hR.1, Nat.le_trans hlo hR.2.1⟩
  have hPc : va_P (xdC X, xdI X) bf_cl (bf_cw (xac X) (bf_alc (xal X) ps) wc) H := hP.sub ps (by
    have h := hs.conc (ac := xac X) (al := xal X)
    have h2 : ps.filterMap (fun i => (bf_cw (xac X) (xal X) w)[i]?) = (ps.map (fun i => (bf_cw (xac X) (xal X) w)[i]?)).filterMap id := by rw [List.filterMap_map]; rfl
    rw [h2, h, List.filterMap_map]
    simp [Function.comp_def])
  have hDc : va_D (xA X) (bf_cw (xac X) (bf_alc (xal X) ps) wc) := hD.sub ps hnd (hs.conc)
  have hst : ((avs.map (bf_ren ps)).reverse ++ st).map (bf_cv (xal X)) = (avs.map (bf_cv (bf_alc (xal X) ps))).reverse ++ st.map (bf_cv (xal X)) := by
    rw [List.map_append, List.map_reverse, List.map_map]
    congr 2
    apply List.map_congr_left
    intro v _
    exact bf_cv_ren (xal X) ps v
  have hpre : ∀ U : State, U.heap = H → (xs X).WarmedH U.vm → bf_Pre (xdC X) (xdI X) (xac X) (bf_alc (xal X) ps) H.size avs wc (avs.map (bf_cv (bf_alc (xal X) ps))).toArray U := fun U hU hW => ⟨rfl, by rw [hU], by rw [hU]; exact hPc, va_K.moved hW.alike C.2.2.2.2.2.1, hDc.weaken (fun _ _ _ _ => trivial), C.2.2.2.2.2.2.1.warm hW⟩
  rw [hst]
  exact va_runS (As := avs.map (bf_cv (bf_alc (xal X) ps))) (rest := st.map (bf_cv (xal X))) ⟨C.1, C.2.1, C.2.2.1, C.2.2.2.1, C.2.2.2.2.1⟩ (hM H.size) ⟨callB_of np C.2.2.2.2.1 (bf_goodIn hm.1) rfl rfl rfl (C.2.2.2.2.1 _ hm.1.2.1) (C.2.2.2.2.1 _ hlk) hm.1.2.2 hRR, C.2.2.2.2.1 _ hm.2⟩ ⟨bf_blind _ _ _ _ _ _ _, hpre⟩ rfl (by rw [List.length_map]; exact hnp) hL.1 rfl (lv_room (by rw [bf_rest]; exact hroom)) hd.1 ⟨hR.2.2.1, hR.2.2.2⟩
theorem bs_callS_i {T : Type} {wf : T → bf_W} {S : T} {Qp : Int32 → T → Prop} (C : bf_C X own cc nL ret) (hR : bf_Rm X fr0 lo0) (hM : bf_M (xl X) y bytes maxL retc fr lo (xdC X) (xdI X) (xac X) (bf_alc (xal X) ps) avs (wf S) (bf_Ki (xdC X) (xdI X) (xac X) (bf_alc (xal X) ps) wf Qp)) (hm : bf_MS y bytes maxL retc np) (hlk : Cond.methodLink own index y ∈ lw_good) (hnp : avs.length = np) (hfr : fr + 1 ≤ fr0) (hlo : 8 + (maxL + 11) + lo ≤ lo0) (hs : bf_Sub w ps (wf S)) (hnd : va_nd ps = true) (hroom : (st.map fun v => v.category).sum ≤ 8) (hd : bf_D cc pc (.invokestatic index) 3 pc2) {st0 : List Value} (hst0 : (avs.map (bf_ren ps)).reverse ++ st = st0) (hwl : ∀ u, (wf u).length = ps.length) {w2 : T → bf_W} (hput : ∀ u, bf_put w ps ((wf u).map (bf_rne ps)) = w2 u) (kk : ∀ (r : Int32) (u : T), Qp r u → bf_A X Q nL pc2 lv (.int r :: st) (w2 u)) : bf_A X Q nL pc lv st0 w := by
  intro H locs ls hP hD hS hL
  subst hst0
  have hFc : ∀ q, bf_fr (xac X) (bf_alc (xal X) ps) (wf S) H.size q → xA X q := va_free hD hS C.2.2.2.2.2.2.2.2.2 ps hs.conc
  have hrun := bf_runS (locs := locs) (lv := lv) C hR hM hm hlk hnp hfr hlo hs hnd hroom hd hP hD hL
  obtain ⟨hd1, hd2⟩ := hd
  subst hd2
  refine va_calli hrun hS (fun q _ h => hFc q h) hFc (fun r u t H1 locs1 ht hvm hw hB hz1 hk1 hS1 => ?_)
  obtain ⟨hP1, hK1, hD1⟩ := hB
  rw [ht] at hP1
  have hP2 := bf_back hP hD hs hnd (hwl u) hk1 hP1
  rw [hput] at hP2
  exact kk r u hw H1 locs1 ls hP2 (bf_D_len hD (by rw [← hput, bf_put_len])) hS1 hL
theorem bs_callS_l {T : Type} {wf : T → bf_W} {S : T} {Qp : Int64 → T → Prop} (C : bf_C X own cc nL ret) (hR : bf_Rm X fr0 lo0) (hM : bf_M (xl X) y bytes maxL retc fr lo (xdC X) (xdI X) (xac X) (bf_alc (xal X) ps) avs (wf S) (bf_Kl (xdC X) (xdI X) (xac X) (bf_alc (xal X) ps) wf Qp)) (hm : bf_MS y bytes maxL retc np) (hlk : Cond.methodLink own index y ∈ lw_good) (hnp : avs.length = np) (hfr : fr + 1 ≤ fr0) (hlo : 8 + (maxL + 11) + lo ≤ lo0) (hs : bf_Sub w ps (wf S)) (hnd : va_nd ps = true) (hroom : (st.map fun v => v.category).sum ≤ 8) (hd : bf_D cc pc (.invokestatic index) 3 pc2) {st0 : List Value} (hst0 : (avs.map (bf_ren ps)).reverse ++ st = st0) (hwl : ∀ u, (wf u).length = ps.length) {w2 : T → bf_W} (hput : ∀ u, bf_put w ps ((wf u).map (bf_rne ps)) = w2 u) (kk : ∀ (r : Int64) (u : T), Qp r u → bf_A X Q nL pc2 lv (.long r :: st) (w2 u)) : bf_A X Q nL pc lv st0 w := by
  intro H locs ls hP hD hS hL
  subst hst0
  have hFc : ∀ q, bf_fr (xac X) (bf_alc (xal X) ps) (wf S) H.size q → xA X q := va_free hD hS C.2.2.2.2.2.2.2.2.2 ps hs.conc
  have hrun := bf_runS (locs := locs) (lv := lv) C hR hM hm hlk hnp hfr hlo hs hnd hroom hd hP hD hL
  obtain ⟨hd1, hd2⟩ := hd
  subst hd2
  refine va_calll hrun hS (fun q _ h => hFc q h) hFc (fun r u t H1 locs1 ht hvm hw hB hz1 hk1 hS1 => ?_)
  obtain ⟨hP1, hK1, hD1⟩ := hB
  rw [ht] at hP1
  have hP2 := bf_back hP hD hs hnd (hwl u) hk1 hP1
  rw [hput] at hP2
  exact kk r u hw H1 locs1 ls hP2 (bf_D_len hD (by rw [← hput, bf_put_len])) hS1 hL
theorem bs_callS_v {T : Type} {wf : T → bf_W} {S : T} {Qp : T → Prop} (C : bf_C X own cc nL ret) (hR : bf_Rm X fr0 lo0) (hM : bf_M (xl X) y bytes maxL retc fr lo (xdC X) (xdI X) (xac X) (bf_alc (xal X) ps) avs (wf S) (bf_Kv (xdC X) (xdI X) (xac X) (bf_alc (xal X) ps) wf Qp)) (hm : bf_MS y bytes maxL retc np) (hlk : Cond.methodLink own index y ∈ lw_good) (hnp : avs.length = np) (hfr : fr + 1 ≤ fr0) (hlo : 8 + (maxL + 11) + lo ≤ lo0) (hs : bf_Sub w ps (wf S)) (hnd : va_nd ps = true) (hroom : (st.map fun v => v.category).sum ≤ 8) (hd : bf_D cc pc (.invokestatic index) 3 pc2) {st0 : List Value} (hst0 : (avs.map (bf_ren ps)).reverse ++ st = st0) (hwl : ∀ u, (wf u).length = ps.length) {w2 : T → bf_W} (hput : ∀ u, bf_put w ps ((wf u).map (bf_rne ps)) = w2 u) (kk : ∀ (u : T), Qp u → bf_A X Q nL pc2 lv (st) (w2 u)) : bf_A X Q nL pc lv st0 w := by
  intro H locs ls hP hD hS hL
  subst hst0
  have hFc : ∀ q, bf_fr (xac X) (bf_alc (xal X) ps) (wf S) H.size q → xA X q := va_free hD hS C.2.2.2.2.2.2.2.2.2 ps hs.conc
  have hrun := bf_runS (locs := locs) (lv := lv) C hR hM hm hlk hnp hfr hlo hs hnd hroom hd hP hD hL
  obtain ⟨hd1, hd2⟩ := hd
  subst hd2
  refine va_callv hrun hS (fun q _ h => hFc q h) hFc (fun u t H1 locs1 ht hvm hw hB hz1 hk1 hS1 => ?_)
  obtain ⟨hP1, hK1, hD1⟩ := hB
  rw [ht] at hP1
  have hP2 := bf_back hP hD hs hnd (hwl u) hk1 hP1
  rw [hput] at hP2
  exact kk u hw H1 locs1 ls hP2 (bf_D_len hD (by rw [← hput, bf_put_len])) hS1 hL
theorem bf_runSN (C : bf_C X own cc nL ret) (hR : bf_Rm X fr0 lo0) (hM : bf_M (xl X) y bytes maxL retc fr lo (xdC X) (xdI X) (xac X) (bf_alc (xal X) ps) avs wc Qc) (hm : bf_MS y bytes maxL retc np) {host : String} (hlk : Cond.methodLinkNest own index y host ∈ lw_tbl) (hnp : avs.length = np) (hfr : fr + 1 ≤ fr0) (hlo : 8 + (maxL + 11) + lo ≤ lo0) (hs : bf_Sub w ps wc) (hnd : va_nd ps = true) (hroom : (st.map fun v => v.category).sum ≤ 8) (hd : bf_D cc pc (.invokestatic index) 3 pc2) {H : Heap} {locs : List Loc} {ls : Array Slot} (hP : va_P (xdC X, xdI X) bf_cl (bf_cw (xac X) (xal X) w) H) (hD : va_D (xA X) (bf_cw (xac X) (xal X) w)) (hL : bf_L (xal X) ls nL lv) :
    va_Run (xp X) (xl X) (xe X) (xR X) (xs X) (xm X) (xa X) (xb X) (xh X) (xc X) H locs (xk X) (xn X) 0 0 (F0 (xm X) pc ls ((((avs.map (bf_ren ps)).reverse) ++ st).map (bf_cv (xal X)))) (st.map (bf_cv (xal X))) (Qc (bf_fr (xac X) (bf_alc (xal X) ps) wc H.size) (avs.map (bf_cv (bf_alc (xal X) ps))).toArray) (bf_fr (xac X) (bf_alc (xal X) ps) wc H.size) := by
  have hRR : (bf_rm fr lo).frames + 1 ≤ (xR X).frames ∧ 8 + (maxL + 11) + (bf_rm fr lo).locals ≤ (xR X).locals := ⟨Nat.le_trans hfr hR.1, Nat.le_trans hlo hR.2.1⟩
  have hPc : va_P (xdC X, xdI X) bf_cl (bf_cw (xac X) (bf_alc (xal X) ps) wc) H := hP.sub ps (by
    have h := hs.conc (ac := xac X) (al := xal X)
    have h2 : ps.filterMap (fun i => (bf_cw (xac X) (xal X) w)[i]?) = (ps.map (fun i => (bf_cw (xac X) (xal X) w)[i]?)).filterMap id := by rw [List.filterMap_map]; rfl
    rw [h2, h, List.filterMap_map]
    simp [Function.comp_def])
  have hDc : va_D (xA X) (bf_cw (xac X) (bf_alc (xal X) ps) wc) := hD.sub ps hnd (hs.conc)
  have hst : ((avs.map (bf_ren ps)).reverse ++ st).map (bf_cv (xal X)) = (avs.map (bf_cv (bf_alc (xal X) ps))).reverse ++ st.map (bf_cv (xal X)) := by
    rw [List.map_append, List.map_reverse, List.map_map]
    congr 2
    apply List.map_congr_left
    intro v _
    exact bf_cv_ren (xal X) ps v
  have hpre : ∀ U : State, U.heap = H → (xs X).WarmedH U.vm → bf_Pre (xdC X) (xdI X) (xac X) (bf_alc (xal X) ps) H.size avs wc (avs.map (bf_cv (bf_alc (xal X) ps))).toArray U := fun U hU hW => ⟨rfl, by rw [hU], by rw [hU]; exact hPc, va_K.moved hW.alike C.2.2.2.2.2.1, hDc.weaken (fun _ _ _ _ => trivial), C.2.2.2.2.2.2.1.warm hW⟩
  rw [hst]
  exact va_runSN (As := avs.map (bf_cv (bf_alc (xal X) ps))) (rest := st.map (bf_cv (xal X))) ⟨C.1, C.2.1, C.2.2.1, C.2.2.2.1, C.2.2.2.2.1⟩ (hM H.size) ⟨va_cnB np C.2.2.2.2.1 (bf_goodIn hm.1) rfl rfl rfl (C.2.2.2.2.2.2.1 _ hlk rfl) (C.2.2.2.2.1 _ hm.1.2.1) hm.1.2.2 hRR, C.2.2.2.2.1 _ hm.2, trivial⟩ ⟨bf_blind _ _ _ _ _ _ _, hpre⟩ rfl (by rw [List.length_map]; exact hnp) hL.1 rfl (lv_room (by rw [bf_rest]; exact hroom)) hd.1 ⟨hR.2.2.1, hR.2.2.2⟩
theorem bs_callSN_i {T : Type} {wf : T → bf_W} {S : T} {Qp : Int32 → T → Prop} (C : bf_C X own cc nL ret) (hR : bf_Rm X fr0 lo0) (hM : bf_M (xl X) y bytes maxL retc fr lo (xdC X) (xdI X) (xac X) (bf_alc (xal X) ps) avs (wf S) (bf_Ki (xdC X) (xdI X) (xac X) (bf_alc (xal X) ps) wf Qp)) (hm : bf_MS y bytes maxL retc np) {host : String} (hlk : Cond.methodLinkNest own index y host ∈ lw_tbl) (hnp : avs.length = np) (hfr : fr + 1 ≤ fr0) (hlo : 8 + (maxL + 11) + lo ≤ lo0) (hs : bf_Sub w ps (wf S)) (hnd : va_nd ps = true) (hroom : (st.map fun v => v.category).sum ≤ 8) (hd : bf_D cc pc (.invokestatic index) 3 pc2) {st0 : List Value} (hst0 : (avs.map (bf_ren ps)).reverse ++ st = st0) (hwl : ∀ u, (wf u).length = ps.length) {w2 : T → bf_W} (hput : ∀ u, bf_put w ps ((wf u).map (bf_rne ps)) = w2 u) (kk : ∀ (r : Int32) (u : T), Qp r u → bf_A X Q nL pc2 lv (.int r :: st) (w2 u)) : bf_A X Q nL pc lv st0 w := by
  intro H locs ls hP hD hS hL
  subst hst0
  have hFc : ∀ q, bf_fr (xac X) (bf_alc (xal X) ps) (wf S) H.size q → xA X q := va_free hD hS C.2.2.2.2.2.2.2.2.2 ps hs.conc
  have hrun := bf_runSN (locs := locs) (lv := lv) C hR hM hm hlk hnp hfr hlo hs hnd hroom hd hP hD hL
  obtain ⟨hd1, hd2⟩ := hd
  subst hd2
  refine va_calli hrun hS (fun q _ h => hFc q h) hFc (fun r u t H1 locs1 ht hvm hw hB hz1 hk1 hS1 => ?_)
  obtain ⟨hP1, hK1, hD1⟩ := hB
  rw [ht] at hP1
  have hP2 := bf_back hP hD hs hnd (hwl u) hk1 hP1
  rw [hput] at hP2
  exact kk r u hw H1 locs1 ls hP2 (bf_D_len hD (by rw [← hput, bf_put_len])) hS1 hL
theorem bs_callSN_l {T : Type} {wf : T → bf_W} {S : T} {Qp : Int64 → T → Prop} (C : bf_C X own cc nL ret) (hR : bf_Rm X fr0 lo0) (hM : bf_M (xl X) y bytes maxL retc fr lo (xdC X) (xdI X) (xac X) (bf_alc (xal X) ps) avs (wf S) (bf_Kl (xdC X) (xdI X) (xac X) (bf_alc (xal X) ps) wf Qp)) (hm : bf_MS y bytes maxL retc np) {host : String} (hlk : Cond.methodLinkNest own index y host ∈ lw_tbl) (hnp : avs.length = np) (hfr : fr + 1 ≤ fr0) (hlo : 8 + (maxL + 11) + lo ≤ lo0) (hs : bf_Sub w ps (wf S)) (hnd : va_nd ps = true) (hroom : (st.map fun v => v.category).sum ≤ 8) (hd : bf_D cc pc (.invokestatic index) 3 pc2) {st0 : List Value} (hst0 : (avs.map (bf_ren ps)).reverse ++ st = st0) (hwl : ∀ u, (wf u).length = ps.length) {w2 : T → bf_W} (hput : ∀ u, bf_put w ps ((wf u).map (bf_rne ps)) = w2 u) (kk : ∀ (r : Int64) (u : T), Qp r u → bf_A X Q nL pc2 lv (.long r :: st) (w2 u)) : bf_A X Q nL pc lv st0 w := by
  intro H locs ls hP hD hS hL
  subst hst0
  have hFc : ∀ q, bf_fr (xac X) (bf_alc (xal X) ps) (wf S) H.size q → xA X q := va_free hD hS C.2.2.2.2.2.2.2.2.2 ps hs.conc
  have hrun := bf_runSN (locs := locs) (lv := lv) C hR hM hm hlk hnp hfr hlo hs hnd hroom hd hP hD hL
  obtain ⟨hd1, hd2⟩ := hd
  subst hd2
  refine va_calll hrun hS (fun q _ h => hFc q h) hFc (fun r u t H1 locs1 ht hvm hw hB hz1 hk1 hS1 => ?_)
  obtain ⟨hP1, hK1, hD1⟩ := hB
  rw [ht] at hP1
  have hP2 := bf_back hP hD hs hnd (hwl u) hk1 hP1
  rw [hput] at hP2
  exact kk r u hw H1 locs1 ls hP2 (bf_D_len hD (by rw [← hput, bf_put_len])) hS1 hL
theorem bs_callSN_v {T : Type} {wf : T → bf_W} {S : T} {Qp : T → Prop} (C : bf_C X own cc nL ret) (hR : bf_Rm X fr0 lo0) (hM : bf_M (xl X) y bytes maxL retc fr lo (xdC X) (xdI X) (xac X) (bf_alc (xal X) ps) avs (wf S) (bf_Kv (xdC X) (xdI X) (xac X) (bf_alc (xal X) ps) wf Qp)) (hm : bf_MS y bytes maxL retc np) {host : String} (hlk : Cond.methodLinkNest own index y host ∈ lw_tbl) (hnp : avs.length = np) (hfr : fr + 1 ≤ fr0) (hlo : 8 + (maxL + 11) + lo ≤ lo0) (hs : bf_Sub w ps (wf S)) (hnd : va_nd ps = true) (hroom : (st.map fun v => v.category).sum ≤ 8) (hd : bf_D cc pc (.invokestatic index) 3 pc2) {st0 : List Value} (hst0 : (avs.map (bf_ren ps)).reverse ++ st = st0) (hwl : ∀ u, (wf u).length = ps.length) {w2 : T → bf_W} (hput : ∀ u, bf_put w ps ((wf u).map (bf_rne ps)) = w2 u) (kk : ∀ (u : T), Qp u → bf_A X Q nL pc2 lv (st) (w2 u)) : bf_A X Q nL pc lv st0 w := by
  intro H locs ls hP hD hS hL
  subst hst0
  have hFc : ∀ q, bf_fr (xac X) (bf_alc (xal X) ps) (wf S) H.size q → xA X q := va_free hD hS C.2.2.2.2.2.2.2.2.2 ps hs.conc
  have hrun := bf_runSN (locs := locs) (lv := lv) C hR hM hm hlk hnp hfr hlo hs hnd hroom hd hP hD hL
  obtain ⟨hd1, hd2⟩ := hd
  subst hd2
  refine va_callv hrun hS (fun q _ h => hFc q h) hFc (fun u t H1 locs1 ht hvm hw hB hz1 hk1 hS1 => ?_)
  obtain ⟨hP1, hK1, hD1⟩ := hB
  rw [ht] at hP1
  have hP2 := bf_back hP hD hs hnd (hwl u) hk1 hP1
  rw [hput] at hP2
  exact kk u hw H1 locs1 ls hP2 (bf_D_len hD (by rw [← hput, bf_put_len])) hS1 hL
theorem bs_pureV_i {T : Type} {wf : T → bf_W} {S : T} {Qp : Int32 → Prop} (C : bf_C X own cc nL ret) (hR : bf_Rm X fr0 lo0) (hM : bf_M (xl X) y bytes maxL retc fr lo (xdC X) (xdI X) (xac X) (bf_alc (xal X) ps) avs (wf S) (bf_Ki (xdC X) (xdI X) (xac X) (bf_alc (xal X) ps) wf (fun r u => u = S ∧ Qp r))) (hm : bf_MV y bytes maxL retc np) (hlk : Cond.methodLink own index y ∈ lw_good) {rq ci : Nat} {fs : List Value} {Tc : u_T} {Nc : Nat} (hrc : avs = .ref rq :: avs.tail) (hcl : bf_cl[ci]? = some (y.cls, Tc, Nc)) (hrw : (wf S)[rq]? = some (.inr (ci, fs))) (hnp : avs.tail.length = np) (hfr : fr + 1 ≤ fr0) (hlo : 8 + (maxL + 11) + lo ≤ lo0) (hs : bf_Sub w ps (wf S)) (hnd : va_nd ps = true) (hroom : (st.map fun v => v.category).sum ≤ 8) (hd : bf_D cc pc (.invokevirtual index) 3 pc2) {st0 : List Value} (hst0 : (avs.map (bf_ren ps)).reverse ++ st = st0) (hwl : ∀ u, (wf u).length = ps.length) (kk : ∀ (r : Int32), Qp r → bf_A X Q nL pc2 lv (.int r :: st) w) : bf_A X Q nL pc lv st0 w := by
  refine bs_callV_i (w2 := fun u => bf_put w ps ((wf u).map (bf_rne ps))) C hR hM hm hlk hrc hcl hrw hnp hfr hlo hs hnd hroom hd hst0 hwl (fun _ => rfl) (fun r u hq => ?_)
  obtain ⟨rfl, hq⟩ := hq
  rw [bf_put_self hs]
  exact kk r hq
theorem bs_pureV_l {T : Type} {wf : T → bf_W} {S : T} {Qp : Int64 → Prop} (C : bf_C X own cc nL ret) (hR : bf_Rm X fr0 lo0) (hM : bf_M (xl X) y bytes maxL retc fr lo (xdC X) (xdI X) (xac X) (bf_alc (xal X) ps) avs (wf S) (bf_Kl (xdC X) (xdI X) (xac X) (bf_alc (xal X) ps) wf (fun r u => u = S ∧ Qp r))) (hm : bf_MV y bytes maxL retc np) (hlk : Cond.methodLink own index y ∈ lw_good) {rq ci : Nat} {fs : List Value} {Tc : u_T} {Nc : Nat} (hrc : avs = .ref rq :: avs.tail) (hcl : bf_cl[ci]? = some (y.cls, Tc, Nc)) (hrw : (wf S)[rq]? = some (.inr (ci, fs))) (hnp : avs.tail.length = np) (hfr : fr + 1 ≤ fr0) (hlo : 8 + (maxL + 11) + lo ≤ lo0) (hs : bf_Sub w ps (wf S)) (hnd : va_nd ps = true) (hroom : (st.map fun v => v.category).sum ≤ 8) (hd : bf_D cc pc (.invokevirtual index) 3 pc2) {st0 : List Value} (hst0 : (avs.map (bf_ren ps)).reverse ++ st = st0) (hwl : ∀ u, (wf u).length = ps.length) (kk : ∀ (r : Int64), Qp r → bf_A X Q nL pc2 lv (.long r :: st) w) : bf_A X Q nL pc lv st0 w := by
  refine bs_callV_l (w2 := fun u => bf_put w ps ((wf u).map (bf_rne ps))) C hR hM hm hlk hrc hcl hrw hnp hfr hlo hs hnd hroom hd hst0 hwl (fun _ => rfl) (fun r u hq => ?_)
  obtain ⟨rfl, hq⟩ := hq
  rw [bf_put_self hs]
  exact kk r hq
theorem bs_pureVN_i {T : Type} {wf : T → bf_W} {S : T} {Qp : Int32 → Prop} (C : bf_C X own cc nL ret) (hR : bf_Rm X fr0 lo0) (hM : bf_M (xl X) y bytes maxL retc fr lo (xdC X) (xdI X) (xac X) (bf_alc (xal X) ps) avs (wf S) (bf_Ki (xdC X) (xdI X) (xac X) (bf_alc (xal X) ps) wf (fun r u => u = S ∧ Qp r))) (hm : bf_MV y bytes maxL retc np) {host : String} (hlk : Cond.methodLinkNest own index y host ∈ lw_tbl) {rq ci : Nat} {fs : List Value} {Tc : u_T} {Nc : Nat} (hrc : avs = .ref rq :: avs.tail) (hcl : bf_cl[ci]? = some (y.cls, Tc, Nc)) (hrw : (wf S)[rq]? = some (.inr (ci, fs))) (hnp : avs.tail.length = np) (hfr : fr + 1 ≤ fr0) (hlo : 8 + (maxL + 11) + lo ≤ lo0) (hs : bf_Sub w ps (wf S)) (hnd : va_nd ps = true) (hroom : (st.map fun v => v.category).sum ≤ 8) (hd : bf_D cc pc (.invokevirtual index) 3 pc2) {st0 : List Value} (hst0 : (avs.map (bf_ren ps)).reverse ++ st = st0) (hwl : ∀ u, (wf u).length = ps.length) (kk : ∀ (r : Int32), Qp r → bf_A X Q nL pc2 lv (.int r :: st) w) : bf_A X Q nL pc lv st0 w := by
  refine bs_callVN_i (w2 := fun u => bf_put w ps ((wf u).map (bf_rne ps))) C hR hM hm hlk hrc hcl hrw hnp hfr hlo hs hnd hroom hd hst0 hwl (fun _ => rfl) (fun r u hq => ?_)
  obtain ⟨rfl, hq⟩ := hq
  rw [bf_put_self hs]
  exact kk r hq
theorem bs_pureVN_l {T : Type} {wf : T → bf_W} {S : T} {Qp : Int64 → Prop} (C : bf_C X own cc nL ret) (hR : bf_Rm X fr0 lo0) (hM : bf_M (xl X) y bytes maxL retc fr lo (xdC X) (xdI X) (xac X) (bf_alc (xal X) ps) avs (wf S) (bf_Kl (xdC X) (xdI X) (xac X) (bf_alc (xal X) ps) wf (fun r u => u = S ∧ Qp r))) (hm : bf_MV y bytes maxL retc np) {host : String} (hlk : Cond.methodLinkNest own index y host ∈ lw_tbl) {rq ci : Nat} {fs : List Value} {Tc : u_T} {Nc : Nat} (hrc : avs = .ref rq :: avs.tail) (hcl : bf_cl[ci]? = some (y.cls, Tc, Nc)) (hrw : (wf S)[rq]? = some (.inr (ci, fs))) (hnp : avs.tail.length = np) (hfr : fr + 1 ≤ fr0) (hlo : 8 + (maxL + 11) + lo ≤ lo0) (hs : bf_Sub w ps (wf S)) (hnd : va_nd ps = true) (hroom : (st.map fun v => v.category).sum ≤ 8) (hd : bf_D cc pc (.invokevirtual index) 3 pc2) {st0 : List Value} (hst0 : (avs.map (bf_ren ps)).reverse ++ st = st0) (hwl : ∀ u, (wf u).length = ps.length) (kk : ∀ (r : Int64), Qp r → bf_A X Q nL pc2 lv (.long r :: st) w) : bf_A X Q nL pc lv st0 w := by
  refine bs_callVN_l (w2 := fun u => bf_put w ps ((wf u).map (bf_rne ps))) C hR hM hm hlk hrc hcl hrw hnp hfr hlo hs hnd hroom hd hst0 hwl (fun _ => rfl) (fun r u hq => ?_)
  obtain ⟨rfl, hq⟩ := hq
  rw [bf_put_self hs]
  exact kk r hq
theorem bs_pureS_i {T : Type} {wf : T → bf_W} {S : T} {Qp : Int32 → Prop} (C : bf_C X own cc nL ret) (hR : bf_Rm X fr0 lo0) (hM : bf_M (xl X) y bytes maxL retc fr lo (xdC X) (xdI X) (xac X) (bf_alc (xal X) ps) avs (wf S) (bf_Ki (xdC X) (xdI X) (xac X) (bf_alc (xal X) ps) wf (fun r u => u = S ∧ Qp r))) (hm : bf_MS y bytes maxL retc np) (hlk : Cond.methodLink own index y ∈ lw_good) (hnp : avs.length = np) (hfr : fr + 1 ≤ fr0) (hlo : 8 + (maxL + 11) + lo ≤ lo0) (hs : bf_Sub w ps (wf S)) (hnd : va_nd ps = true) (hroom : (st.map fun v => v.category).sum ≤ 8) (hd : bf_D cc pc (.invokestatic index) 3 pc2) {st0 : List Value} (hst0 : (avs.map (bf_ren ps)).reverse ++ st = st0) (hwl : ∀ u, (wf u).length = ps.length) (kk : ∀ (r : Int32), Qp r → bf_A X Q nL pc2 lv (.int r :: st) w) : bf_A X Q nL pc lv st0 w := by
  refine bs_callS_i (w2 := fun u => bf_put w ps ((wf u).map (bf_rne ps))) C hR hM hm hlk hnp hfr hlo hs hnd hroom hd hst0 hwl (fun _ => rfl) (fun r u hq => ?_)
  obtain ⟨rfl, hq⟩ := hq
  rw [bf_put_self hs]
  exact kk r hq
theorem bs_pureS_l {T : Type} {wf : T → bf_W} {S : T} {Qp : Int64 → Prop} (C : bf_C X own cc nL ret) (hR : bf_Rm X fr0 lo0) (hM : bf_M (xl X) y bytes maxL retc fr lo (xdC X) (xdI X) (xac X) (bf_alc (xal X) ps) avs (wf S) (bf_Kl (xdC X) (xdI X) (xac X) (bf_alc (xal X) ps) wf (fun r u => u = S ∧ Qp r))) (hm : bf_MS y bytes maxL retc np) (hlk : Cond.methodLink own index y ∈ lw_good) (hnp : avs.length = np) (hfr : fr + 1 ≤ fr0) (hlo : 8 + (maxL + 11) + lo ≤ lo0) (hs : bf_Sub w ps (wf S)) (hnd : va_nd ps = true) (hroom : (st.map fun v => v.category).sum ≤ 8) (hd : bf_D cc pc (.invokestatic index) 3 pc2) {st0 : List Value} (hst0 : (avs.map (bf_ren ps)).reverse ++ st = st0) (hwl : ∀ u, (wf u).length = ps.length) (kk : ∀ (r : Int64), Qp r → bf_A X Q nL pc2 lv (.long r :: st) w) : bf_A X Q nL pc lv st0 w := by
  refine bs_callS_l (w2 := fun u => bf_put w ps ((wf u).map (bf_rne ps))) C hR hM hm hlk hnp hfr hlo hs hnd hroom hd hst0 hwl (fun _ => rfl) (fun r u hq => ?_)
  obtain ⟨rfl, hq⟩ := hq
  rw [bf_put_self hs]
  exact kk r hq
theorem bs_pureSN_i {T : Type} {wf : T → bf_W} {S : T} {Qp : Int32 → Prop} (C : bf_C X own cc nL ret) (hR : bf_Rm X fr0 lo0) (hM : bf_M (xl X) y bytes maxL retc fr lo (xdC X) (xdI X) (xac X) (bf_alc (xal X) ps) avs (wf S) (bf_Ki (xdC X) (xdI X) (xac X) (bf_alc (xal X) ps) wf (fun r u => u = S ∧ Qp r))) (hm : bf_MS y bytes maxL retc np) {host : String} (hlk : Cond.methodLinkNest own index y host ∈ lw_tbl) (hnp : avs.length = np) (hfr : fr + 1 ≤ fr0) (hlo : 8 + (maxL + 11) + lo ≤ lo0) (hs : bf_Sub w ps (wf S)) (hnd : va_nd ps = true) (hroom : (st.map fun v => v.category).sum ≤ 8) (hd : bf_D cc pc (.invokestatic index) 3 pc2) {st0 : List Value} (hst0 : (avs.map (bf_ren ps)).reverse ++ st = st0) (hwl : ∀ u, (wf u).length = ps.length) (kk : ∀ (r : Int32), Qp r → bf_A X Q nL pc2 lv (.int r :: st) w) : bf_A X Q nL pc lv st0 w := by
  refine bs_callSN_i (w2 := fun u => bf_put w ps ((wf u).map (bf_rne ps))) C hR hM hm hlk hnp hfr hlo hs hnd hroom hd hst0 hwl (fun _ => rfl) (fun r u hq => ?_)
  obtain ⟨rfl, hq⟩ := hq
  rw [bf_put_self hs]
  exact kk r hq
theorem bs_pureSN_l {T : Type} {wf : T → bf_W} {S : T} {Qp : Int64 → Prop} (C : bf_C X own cc nL ret) (hR : bf_Rm X fr0 lo0) (hM : bf_M (xl X) y bytes maxL retc fr lo (xdC X) (xdI X) (xac X) (bf_alc (xal X) ps) avs (wf S) (bf_Kl (xdC X) (xdI X) (xac X) (bf_alc (xal X) ps) wf (fun r u => u = S ∧ Qp r))) (hm : bf_MS y bytes maxL retc np) {host : String} (hlk : Cond.methodLinkNest own index y host ∈ lw_tbl) (hnp : avs.length = np) (hfr : fr + 1 ≤ fr0) (hlo : 8 + (maxL + 11) + lo ≤ lo0) (hs : bf_Sub w ps (wf S)) (hnd : va_nd ps = true) (hroom : (st.map fun v => v.category).sum ≤ 8) (hd : bf_D cc pc (.invokestatic index) 3 pc2) {st0 : List Value} (hst0 : (avs.map (bf_ren ps)).reverse ++ st = st0) (hwl : ∀ u, (wf u).length = ps.length) (kk : ∀ (r : Int64), Qp r → bf_A X Q nL pc2 lv (.long r :: st) w) : bf_A X Q nL pc lv st0 w := by
  refine bs_callSN_l (w2 := fun u => bf_put w ps ((wf u).map (bf_rne ps))) C hR hM hm hlk hnp hfr hlo hs hnd hroom hd hst0 hwl (fun _ => rfl) (fun r u hq => ?_)
  obtain ⟨rfl, hq⟩ := hq
  rw [bf_put_self hs]
  exact kk r hq
theorem bs_selfV_i {T : Type} {wf : T → bf_W} {S : T} {Qp : Int32 → T → Prop} (C : bf_C X own cc nL ret) (hR : bf_Rm X fr0 lo0) (hM : bf_M (xl X) y bytes maxL retc fr lo (xdC X) (xdI X) (xac X) (xal X) avs (wf S) (bf_Ki (xdC X) (xdI X) (xac X) (xal X) wf Qp)) (hm : bf_MV y bytes maxL retc np) (hlk : Cond.methodLink own index y ∈ lw_good) {rq ci : Nat} {fs : List Value} {Tc : u_T} {Nc : Nat} (hrc : avs = .ref rq :: avs.tail) (hcl : bf_cl[ci]? = some (y.cls, Tc, Nc)) (hrw : (wf S)[rq]? = some (.inr (ci, fs))) (hnp : avs.tail.length = np) (hfr : fr + 1 ≤ fr0) (hlo : 8 + (maxL + 11) + lo ≤ lo0) (hroom : (st.map fun v => v.category).sum ≤ 8) (hd : bf_D cc pc (.invokevirtual index) 3 pc2) {st0 : List Value} (hst0 : avs.reverse ++ st = st0) {len : Nat} (hwl : ∀ u, (wf u).length = len) (kk : ∀ (r : Int32) (u : T), Qp r u → bf_A X Q nL pc2 lv (.int r :: st) (wf u)) : bf_A X Q nL pc lv st0 (wf S) := by
  intro H locs ls hP hD hS hL
  subst hst0
  have hRR : (bf_rm fr lo).frames + 1 ≤ (xR X).frames ∧ 8 + (maxL + 11) + (bf_rm fr lo).locals ≤ (xR X).locals := ⟨Nat.le_trans hfr hR.1, Nat.le_trans hlo hR.2.1⟩
  have hpre : ∀ U : State, U.heap = H → (xs X).WarmedH U.vm → bf_Pre (xdC X) (xdI X) (xac X) (xal X) H.size avs (wf S) (avs.map (bf_cv (xal X))).toArray U := fun U hU hW => ⟨rfl, by rw [hU], by rw [hU]; exact hP, va_K.moved hW.alike C.2.2.2.2.2.1, hD.weaken (fun _ _ _ _ => trivial), C.2.2.2.2.2.2.1.warm hW⟩
  have hFc : ∀ q, bf_fr (xac X) (xal X) (wf S) H.size q → xA X q := by
    intro q hq
    rcases hq with ⟨k, e, hk⟩ | hq
    · exact hD.2 k (q, e) hk
    · exact C.2.2.2.2.2.2.2.2.2 q (Nat.le_trans hS.1 hq)
  have hav : avs.map (bf_cv (xal X)) = Value.ref (xal X rq) :: avs.tail.map (bf_cv (xal X)) := by rw [hrc]; rfl
  have hrun : va_Run (xp X) (xl X) (xe X) (xR X) (xs X) (xm X) (xa X) (xb X) (xh X) (xc X) H locs (xk X) (xn X) 0 0 (F0 (xm X) pc ls ((avs.reverse ++ st).map (bf_cv (xal X)))) (st.map (bf_cv (xal X))) (bf_Ki (xdC X) (xdI X) (xac X) (xal X) wf Qp (bf_fr (xac X) (xal X) (wf S) H.size) (avs.map (bf_cv (xal X))).toArray) (bf_fr (xac X) (xal X) (wf S) H.size) := by
    rw [List.map_append, List.map_reverse]
    rw [hav] at hpre ⊢
    rw [List.reverse_cons, List.append_assoc]
    exact va_runV (As := avs.tail.map (bf_cv (xal X))) (rest := st.map (bf_cv (xal X))) ⟨C.1, C.2.1, C.2.2.1, C.2.2.2.1, C.2.2.2.2.1⟩ (hM H.size) ⟨callB_of np C.2.2.2.2.1 (bf_goodIn hm.1) rfl rfl rfl (C.2.2.2.2.1 _ hm.1.2.1) (C.2.2.2.2.1 _ hlk) hm.1.2.2 hRR, C.2.2.2.2.1 _ hm.2.1, C.2.2.2.2.1 _ hm.2.2⟩ ⟨bf_blind _ _ _ _ _ _ _, va_recv C.2.2.2.2.2.1 hP hcl (bf_cw_some hrw), hpre⟩ rfl (by rw [List.length_map]; exact hnp) hL.1 rfl (lv_room (by rw [bf_rest]; exact hroom)) hd.1 ⟨hR.2.2.1, hR.2.2.2⟩
  obtain ⟨hd1, hd2⟩ := hd
  subst hd2
  refine va_calli hrun hS (fun q _ h => hFc q h) hFc (fun r u t H1 locs1 ht hvm hw hB hz1 hk1 hS1 => ?_)
  obtain ⟨hP1, hK1, hD1⟩ := hB
  rw [ht] at hP1
  exact kk r u hw H1 locs1 ls hP1 (bf_D_len hD ((hwl u).trans (hwl S).symm)) hS1 hL
theorem bs_selfPV_i {T : Type} {wf : T → bf_W} {S : T} {Qp : Int32 → Prop} (C : bf_C X own cc nL ret) (hR : bf_Rm X fr0 lo0) (hM : bf_M (xl X) y bytes maxL retc fr lo (xdC X) (xdI X) (xac X) (xal X) avs (wf S) (bf_Ki (xdC X) (xdI X) (xac X) (xal X) wf (fun r u => u = S ∧ Qp r))) (hm : bf_MV y bytes maxL retc np) (hlk : Cond.methodLink own index y ∈ lw_good) {rq ci : Nat} {fs : List Value} {Tc : u_T} {Nc : Nat} (hrc : avs = .ref rq :: avs.tail) (hcl : bf_cl[ci]? = some (y.cls, Tc, Nc)) (hrw : (wf S)[rq]? = some (.inr (ci, fs))) (hnp : avs.tail.length = np) (hfr : fr + 1 ≤ fr0) (hlo : 8 + (maxL + 11) + lo ≤ lo0) (hroom : (st.map fun v => v.category).sum ≤ 8) (hd : bf_D cc pc (.invokevirtual index) 3 pc2) {st0 : List Value} (hst0 : avs.reverse ++ st = st0) (kk : ∀ (r : Int32), Qp r → bf_A X Q nL pc2 lv (.int r :: st) (wf S)) : bf_A X Q nL pc lv st0 (wf S) := by
  intro H locs ls hP hD hS hL
  subst hst0
  have hRR : (bf_rm fr lo).frames + 1 ≤ (xR X).frames ∧ 8 + (maxL + 11) + (bf_rm fr lo).locals ≤ (xR X).locals := ⟨Nat.le_trans hfr hR.1, Nat.le_trans hlo hR.2.1⟩
  have hpre : ∀ U : State, U.heap = H → (xs X).WarmedH U.vm → bf_Pre (xdC X) (xdI X) (xac X) (xal X) H.size avs (wf S) (avs.map (bf_cv (xal X))).toArray U := fun U hU hW => ⟨rfl, by rw [hU], by rw [hU]; exact hP, va_K.moved hW.alike C.2.2.2.2.2.1, hD.weaken (fun _ _ _ _ => trivial), C.2.2.2.2.2.2.1.warm hW⟩
  have hFc : ∀ q, bf_fr (xac X) (xal X) (wf S) H.size q → xA X q := by
    intro q hq
    rcases hq with ⟨k, e, hk⟩ | hq
    · exact hD.2 k (q, e) hk
    · exact C.2.2.2.2.2.2.2.2.2 q (Nat.le_trans hS.1 hq)
  have hav : avs.map (bf_cv (xal X)) = Value.ref (xal X rq) :: avs.tail.map (bf_cv (xal X)) := by rw [hrc]; rfl
  have hrun : va_Run (xp X) (xl X) (xe X) (xR X) (xs X) (xm X) (xa X) (xb X) (xh X) (xc X) H locs (xk X) (xn X) 0 0 (F0 (xm X) pc ls ((avs.reverse ++ st).map (bf_cv (xal X)))) (st.map (bf_cv (xal X))) (bf_Ki (xdC X) (xdI X) (xac X) (xal X) wf (fun r u => u = S ∧ Qp r) (bf_fr (xac X) (xal X) (wf S) H.size) (avs.map (bf_cv (xal X))).toArray) (bf_fr (xac X) (xal X) (wf S) H.size) := by
    rw [List.map_append, List.map_reverse]
    rw [hav] at hpre ⊢
    rw [List.reverse_cons, List.append_assoc]
    exact va_runV (As := avs.tail.map (bf_cv (xal X))) (rest := st.map (bf_cv (xal X))) ⟨C.1, C.2.1, C.2.2.1, C.2.2.2.1, C.2.2.2.2.1⟩ (hM H.size) ⟨callB_of np C.2.2.2.2.1 (bf_goodIn hm.1) rfl rfl rfl (C.2.2.2.2.1 _ hm.1.2.1) (C.2.2.2.2.1 _ hlk) hm.1.2.2 hRR, C.2.2.2.2.1 _ hm.2.1, C.2.2.2.2.1 _ hm.2.2⟩ ⟨bf_blind _ _ _ _ _ _ _, va_recv C.2.2.2.2.2.1 hP hcl (bf_cw_some hrw), hpre⟩ rfl (by rw [List.length_map]; exact hnp) hL.1 rfl (lv_room (by rw [bf_rest]; exact hroom)) hd.1 ⟨hR.2.2.1, hR.2.2.2⟩
  obtain ⟨hd1, hd2⟩ := hd
  subst hd2
  refine va_calli hrun hS (fun q _ h => hFc q h) hFc (fun r u t H1 locs1 ht hvm hw hB hz1 hk1 hS1 => ?_)
  obtain ⟨hP1, hK1, hD1⟩ := hB
  rw [ht] at hP1
  obtain ⟨rfl, hw⟩ := hw
  exact kk r hw H1 locs1 ls hP1 hD hS1 hL
theorem bs_selfV_l {T : Type} {wf : T → bf_W} {S : T} {Qp : Int64 → T → Prop} (C : bf_C X own cc nL ret) (hR : bf_Rm X fr0 lo0) (hM : bf_M (xl X) y bytes maxL retc fr lo (xdC X) (xdI X) (xac X) (xal X) avs (wf S) (bf_Kl (xdC X) (xdI X) (xac X) (xal X) wf Qp)) (hm : bf_MV y bytes maxL retc np) (hlk : Cond.methodLink own index y ∈ lw_good) {rq ci : Nat} {fs : List Value} {Tc : u_T} {Nc : Nat} (hrc : avs = .ref rq :: avs.tail) (hcl : bf_cl[ci]? = some (y.cls, Tc, Nc)) (hrw : (wf S)[rq]? = some (.inr (ci, fs))) (hnp : avs.tail.length = np) (hfr : fr + 1 ≤ fr0) (hlo : 8 + (maxL + 11) + lo ≤ lo0) (hroom : (st.map fun v => v.category).sum ≤ 8) (hd : bf_D cc pc (.invokevirtual index) 3 pc2) {st0 : List Value} (hst0 : avs.reverse ++ st = st0) {len : Nat} (hwl : ∀ u, (wf u).length = len) (kk : ∀ (r : Int64) (u : T), Qp r u → bf_A X Q nL pc2 lv (.long r :: st) (wf u)) : bf_A X Q nL pc lv st0 (wf S) := by
  intro H locs ls hP hD hS hL
  subst hst0
  have hRR : (bf_rm fr lo).frames + 1 ≤ (xR X).frames ∧ 8 + (maxL + 11) + (bf_rm fr lo).locals ≤ (xR X).locals := ⟨Nat.le_trans hfr hR.1, Nat.le_trans hlo hR.2.1⟩
  have hpre : ∀ U : State, U.heap = H → (xs X).WarmedH U.vm → bf_Pre (xdC X) (xdI X) (xac X) (xal X) H.size avs (wf S) (avs.map (bf_cv (xal X))).toArray U := fun U hU hW => ⟨rfl, by rw [hU], by rw [hU]; exact hP, va_K.moved hW.alike C.2.2.2.2.2.1, hD.weaken (fun _ _ _ _ => trivial), C.2.2.2.2.2.2.1.warm hW⟩
  have hFc : ∀ q, bf_fr (xac X) (xal X) (wf S) H.size q → xA X q := by
    intro q hq
    rcases hq with ⟨k, e, hk⟩ | hq
    · exact hD.2 k (q, e) hk
    · exact C.2.2.2.2.2.2.2.2.2 q (Nat.le_trans hS.1 hq)
  have hav : avs.map (bf_cv (xal X)) = Value.ref (xal X rq) :: avs.tail.map (bf_cv (xal X)) := by rw [hrc]; rfl
  have hrun : va_Run (xp X) (xl X) (xe X) (xR X) (xs X) (xm X) (xa X) (xb X) (xh X) (xc X) H locs (xk X) (xn X) 0 0 (F0 (xm X) pc ls ((avs.reverse ++ st).map (bf_cv (xal X)))) (st.map (bf_cv (xal X))) (bf_Kl (xdC X) (xdI X) (xac X) (xal X) wf Qp (bf_fr (xac X) (xal X) (wf S) H.size) (avs.map (bf_cv (xal X))).toArray) (bf_fr (xac X) (xal X) (wf S) H.size) := by
    rw [List.map_append, List.map_reverse]
    rw [hav] at hpre ⊢
    rw [List.reverse_cons, List.append_assoc]
    exact va_runV (As := avs.tail.map (bf_cv (xal X))) (rest := st.map (bf_cv (xal X))) ⟨C.1, C.2.1, C.2.2.1, C.2.2.2.1, C.2.2.2.2.1⟩ (hM H.size) ⟨callB_of np C.2.2.2.2.1 (bf_goodIn hm.1) rfl rfl rfl (C.2.2.2.2.1 _ hm.1.2.1) (C.2.2.2.2.1 _ hlk) hm.1.2.2 hRR, C.2.2.2.2.1 _ hm.2.1, C.2.2.2.2.1 _ hm.2.2⟩ ⟨bf_blind _ _ _ _ _ _ _, va_recv C.2.2.2.2.2.1 hP hcl (bf_cw_some hrw), hpre⟩ rfl (by rw [List.length_map]; exact hnp) hL.1 rfl (lv_room (by rw [bf_rest]; exact hroom)) hd.1 ⟨hR.2.2.1, hR.2.2.2⟩
  obtain ⟨hd1, hd2⟩ := hd
  subst hd2
  refine va_calll hrun hS (fun q _ h => hFc q h) hFc (fun r u t H1 locs1 ht hvm hw hB hz1 hk1 hS1 => ?_)
  obtain ⟨hP1, hK1, hD1⟩ := hB
  rw [ht] at hP1
  exact kk r u hw H1 locs1 ls hP1 (bf_D_len hD ((hwl u).trans (hwl S).symm)) hS1 hL
theorem bs_selfPV_l {T : Type} {wf : T → bf_W} {S : T} {Qp : Int64 → Prop} (C : bf_C X own cc nL ret) (hR : bf_Rm X fr0 lo0) (hM : bf_M (xl X) y bytes maxL retc fr lo (xdC X) (xdI X) (xac X) (xal X) avs (wf S) (bf_Kl (xdC X) (xdI X) (xac X) (xal X) wf (fun r u => u = S ∧ Qp r))) (hm : bf_MV y bytes maxL retc np) (hlk : Cond.methodLink own index y ∈ lw_good) {rq ci : Nat} {fs : List Value} {Tc : u_T} {Nc : Nat} (hrc : avs = .ref rq :: avs.tail) (hcl : bf_cl[ci]? = some (y.cls, Tc, Nc)) (hrw : (wf S)[rq]? = some (.inr (ci, fs))) (hnp : avs.tail.length = np) (hfr : fr + 1 ≤ fr0) (hlo : 8 + (maxL + 11) + lo ≤ lo0) (hroom : (st.map fun v => v.category).sum ≤ 8) (hd : bf_D cc pc (.invokevirtual index) 3 pc2) {st0 : List Value} (hst0 : avs.reverse ++ st = st0) (kk : ∀ (r : Int64), Qp r → bf_A X Q nL pc2 lv (.long r :: st) (wf S)) : bf_A X Q nL pc lv st0 (wf S) := by
  intro H locs ls hP hD hS hL
  subst hst0
  have hRR : (bf_rm fr lo).frames + 1 ≤ (xR X).frames ∧ 8 + (maxL + 11) + (bf_rm fr lo).locals ≤ (xR X).locals := ⟨Nat.le_trans hfr hR.1, Nat.le_trans hlo hR.2.1⟩
  have hpre : ∀ U : State, U.heap = H → (xs X).WarmedH U.vm → bf_Pre (xdC X) (xdI X) (xac X) (xal X) H.size avs (wf S) (avs.map (bf_cv (xal X))).toArray U := fun U hU hW => ⟨rfl, by rw [hU], by rw [hU]; exact hP, va_K.moved hW.alike C.2.2.2.2.2.1, hD.weaken (fun _ _ _ _ => trivial), C.2.2.2.2.2.2.1.warm hW⟩
  have hFc : ∀ q, bf_fr (xac X) (xal X) (wf S) H.size q → xA X q := by
    intro q hq
    rcases hq with ⟨k, e, hk⟩ | hq
    · exact hD.2 k (q, e) hk
    · exact C.2.2.2.2.2.2.2.2.2 q (Nat.le_trans hS.1 hq)
  have hav : avs.map (bf_cv (xal X)) = Value.ref (xal X rq) :: avs.tail.map (bf_cv (xal X)) := by rw [hrc]; rfl
  have hrun : va_Run (xp X) (xl X) (xe X) (xR X) (xs X) (xm X) (xa X) (xb X) (xh X) (xc X) H locs (xk X) (xn X) 0 0 (F0 (xm X) pc ls ((avs.reverse ++ st).map (bf_cv (xal X)))) (st.map (bf_cv (xal X))) (bf_Kl (xdC X) (xdI X) (xac X) (xal X) wf (fun r u => u = S ∧ Qp r) (bf_fr (xac X) (xal X) (wf S) H.size) (avs.map (bf_cv (xal X))).toArray) (bf_fr (xac X) (xal X) (wf S) H.size) := by
    rw [List.map_append, List.map_reverse]
    rw [hav] at hpre ⊢
    rw [List.reverse_cons, List.append_assoc]
    exact va_runV (As := avs.tail.map (bf_cv (xal X))) (rest := st.map (bf_cv (xal X))) ⟨C.1, C.2.1, C.2.2.1, C.2.2.2.1, C.2.2.2.2.1⟩ (hM H.size) ⟨callB_of np C.2.2.2.2.1 (bf_goodIn hm.1) rfl rfl rfl (C.2.2.2.2.1 _ hm.1.2.1) (C.2.2.2.2.1 _ hlk) hm.1.2.2 hRR, C.2.2.2.2.1 _ hm.2.1, C.2.2.2.2.1 _ hm.2.2⟩ ⟨bf_blind _ _ _ _ _ _ _, va_recv C.2.2.2.2.2.1 hP hcl (bf_cw_some hrw), hpre⟩ rfl (by rw [List.length_map]; exact hnp) hL.1 rfl (lv_room (by rw [bf_rest]; exact hroom)) hd.1 ⟨hR.2.2.1, hR.2.2.2⟩
  obtain ⟨hd1, hd2⟩ := hd
  subst hd2
  refine va_calll hrun hS (fun q _ h => hFc q h) hFc (fun r u t H1 locs1 ht hvm hw hB hz1 hk1 hS1 => ?_)
  obtain ⟨hP1, hK1, hD1⟩ := hB
  rw [ht] at hP1
  obtain ⟨rfl, hw⟩ := hw
  exact kk r hw H1 locs1 ls hP1 hD hS1 hL
theorem bs_selfV_v {T : Type} {wf : T → bf_W} {S : T} {Qp : T → Prop} (C : bf_C X own cc nL ret) (hR : bf_Rm X fr0 lo0) (hM : bf_M (xl X) y bytes maxL retc fr lo (xdC X) (xdI X) (xac X) (xal X) avs (wf S) (bf_Kv (xdC X) (xdI X) (xac X) (xal X) wf Qp)) (hm : bf_MV y bytes maxL retc np) (hlk : Cond.methodLink own index y ∈ lw_good) {rq ci : Nat} {fs : List Value} {Tc : u_T} {Nc : Nat} (hrc : avs = .ref rq :: avs.tail) (hcl : bf_cl[ci]? = some (y.cls, Tc, Nc)) (hrw : (wf S)[rq]? = some (.inr (ci, fs))) (hnp : avs.tail.length = np) (hfr : fr + 1 ≤ fr0) (hlo : 8 + (maxL + 11) + lo ≤ lo0) (hroom : (st.map fun v => v.category).sum ≤ 8) (hd : bf_D cc pc (.invokevirtual index) 3 pc2) {st0 : List Value} (hst0 : avs.reverse ++ st = st0) {len : Nat} (hwl : ∀ u, (wf u).length = len) (kk : ∀ (u : T), Qp u → bf_A X Q nL pc2 lv (st) (wf u)) : bf_A X Q nL pc lv st0 (wf S) := by
  intro H locs ls hP hD hS hL
  subst hst0
  have hRR : (bf_rm fr lo).frames + 1 ≤ (xR X).frames ∧ 8 + (maxL + 11) + (bf_rm fr lo).locals ≤ (xR X).locals := ⟨Nat.le_trans hfr hR.1, Nat.le_trans hlo hR.2.1⟩
  have hpre : ∀ U : State, U.heap = H → (xs X).WarmedH U.vm → bf_Pre (xdC X) (xdI X) (xac X) (xal X) H.size avs (wf S) (avs.map (bf_cv (xal X))).toArray U := fun U hU hW => ⟨rfl, by rw [hU], by rw [hU]; exact hP, va_K.moved hW.alike C.2.2.2.2.2.1, hD.weaken (fun _ _ _ _ => trivial), C.2.2.2.2.2.2.1.warm hW⟩
  have hFc : ∀ q, bf_fr (xac X) (xal X) (wf S) H.size q → xA X q := by
    intro q hq
    rcases hq with ⟨k, e, hk⟩ | hq
    · exact hD.2 k (q, e) hk
    · exact C.2.2.2.2.2.2.2.2.2 q (Nat.le_trans hS.1 hq)
  have hav : avs.map (bf_cv (xal X)) = Value.ref (xal X rq) :: avs.tail.map (bf_cv (xal X)) := by rw [hrc]; rfl
  have hrun : va_Run (xp X) (xl X) (xe X) (xR X) (xs X) (xm X) (xa X) (xb X) (xh X) (xc X) H locs (xk X) (xn X) 0 0 (F0 (xm X) pc ls ((avs.reverse ++ st).map (bf_cv (xal X)))) (st.map (bf_cv (xal X))) (bf_Kv (xdC X) (xdI X) (xac X) (xal X) wf Qp (bf_fr (xac X) (xal X) (wf S) H.size) (avs.map (bf_cv (xal X))).toArray) (bf_fr (xac X) (xal X) (wf S) H.size) := by
    rw [List.map_append, List.map_reverse]
    rw [hav] at hpre ⊢
    rw [List.reverse_cons, List.append_assoc]
    exact va_runV (As := avs.tail.map (bf_cv (xal X))) (rest := st.map (bf_cv (xal X))) ⟨C.1, C.2.1, C.2.2.1, C.2.2.2.1, C.2.2.2.2.1⟩ (hM H.size) ⟨callB_of np C.2.2.2.2.1 (bf_goodIn hm.1) rfl rfl rfl (C.2.2.2.2.1 _ hm.1.2.1) (C.2.2.2.2.1 _ hlk) hm.1.2.2 hRR, C.2.2.2.2.1 _ hm.2.1, C.2.2.2.2.1 _ hm.2.2⟩ ⟨bf_blind _ _ _ _ _ _ _, va_recv C.2.2.2.2.2.1 hP hcl (bf_cw_some hrw), hpre⟩ rfl (by rw [List.length_map]; exact hnp) hL.1 rfl (lv_room (by rw [bf_rest]; exact hroom)) hd.1 ⟨hR.2.2.1, hR.2.2.2⟩
  obtain ⟨hd1, hd2⟩ := hd
  subst hd2
  refine va_callv hrun hS (fun q _ h => hFc q h) hFc (fun u t H1 locs1 ht hvm hw hB hz1 hk1 hS1 => ?_)
  obtain ⟨hP1, hK1, hD1⟩ := hB
  rw [ht] at hP1
  exact kk u hw H1 locs1 ls hP1 (bf_D_len hD ((hwl u).trans (hwl S).symm)) hS1 hL
theorem bs_selfVN_i {T : Type} {wf : T → bf_W} {S : T} {Qp : Int32 → T → Prop} (C : bf_C X own cc nL ret) (hR : bf_Rm X fr0 lo0) (hM : bf_M (xl X) y bytes maxL retc fr lo (xdC X) (xdI X) (xac X) (xal X) avs (wf S) (bf_Ki (xdC X) (xdI X) (xac X) (xal X) wf Qp)) (hm : bf_MV y bytes maxL retc np) {host : String} (hlk : Cond.methodLinkNest own index y host ∈ lw_tbl) {rq ci : Nat} {fs : List Value} {Tc : u_T} {Nc : Nat} (hrc : avs = .ref rq :: avs.tail) (hcl : bf_cl[ci]? = some (y.cls, Tc, Nc)) (hrw : (wf S)[rq]? = some (.inr (ci, fs))) (hnp : avs.tail.length = np) (hfr : fr + 1 ≤ fr0) (hlo : 8 + (maxL + 11) + lo ≤ lo0) (hroom : (st.map fun v => v.category).sum ≤ 8) (hd : bf_D cc pc (.invokevirtual index) 3 pc2) {st0 : List Value} (hst0 : avs.reverse ++ st = st0) {len : Nat} (hwl : ∀ u, (wf u).length = len) (kk : ∀ (r : Int32) (u : T), Qp r u → bf_A X Q nL pc2 lv (.int r :: st) (wf u)) : bf_A X Q nL pc lv st0 (wf S) := by
  intro H locs ls hP hD hS hL
  subst hst0
  have hRR : (bf_rm fr lo).frames + 1 ≤ (xR X).frames ∧ 8 + (maxL + 11) + (bf_rm fr lo).locals ≤ (xR X).locals := ⟨Nat.le_trans hfr hR.1, Nat.le_trans hlo hR.2.1⟩
  have hpre : ∀ U : State, U.heap = H → (xs X).WarmedH U.vm → bf_Pre (xdC X) (xdI X) (xac X) (xal X) H.size avs (wf S) (avs.map (bf_cv (xal X))).toArray U := fun U hU hW => ⟨rfl, by rw [hU], by rw [hU]; exact hP, va_K.moved hW.alike C.2.2.2.2.2.1, hD.weaken (fun _ _ _ _ => trivial), C.2.2.2.2.2.2.1.warm hW⟩
  have hFc : ∀ q, bf_fr (xac X) (xal X) (wf S) H.size q → xA X q := by
    intro q hq
    rcases hq with ⟨k, e, hk⟩ | hq
    · exact hD.2 k (q, e) hk
    · exact C.2.2.2.2.2.2.2.2.2 q (Nat.le_trans hS.1 hq)
  have hav : avs.map (bf_cv (xal X)) = Value.ref (xal X rq) :: avs.tail.map (bf_cv (xal X)) := by rw [hrc]; rfl
  have hrun : va_Run (xp X) (xl X) (xe X) (xR X) (xs X) (xm X) (xa X) (xb X) (xh X) (xc X) H locs (xk X) (xn X) 0 0 (F0 (xm X) pc ls ((avs.reverse ++ st).map (bf_cv (xal X)))) (st.map (bf_cv (xal X))) (bf_Ki (xdC X) (xdI X) (xac X) (xal X) wf Qp (bf_fr (xac X) (xal X) (wf S) H.size) (avs.map (bf_cv (xal X))).toArray) (bf_fr (xac X) (xal X) (wf S) H.size) := by
    rw [List.map_append, List.map_reverse]
    rw [hav] at hpre ⊢
    rw [List.reverse_cons, List.append_assoc]
    exact va_runVN (As := avs.tail.map (bf_cv (xal X))) (rest := st.map (bf_cv (xal X))) ⟨C.1, C.2.1, C.2.2.1, C.2.2.2.1, C.2.2.2.2.1⟩ (hM H.size) ⟨va_cnB np C.2.2.2.2.1 (bf_goodIn hm.1) rfl rfl rfl (C.2.2.2.2.2.2.1 _ hlk rfl) (C.2.2.2.2.1 _ hm.1.2.1) hm.1.2.2 hRR, C.2.2.2.2.1 _ hm.2.1, C.2.2.2.2.1 _ hm.2.2⟩ ⟨bf_blind _ _ _ _ _ _ _, va_recv C.2.2.2.2.2.1 hP hcl (bf_cw_some hrw), hpre⟩ rfl (by rw [List.length_map]; exact hnp) hL.1 rfl (lv_room (by rw [bf_rest]; exact hroom)) hd.1 ⟨hR.2.2.1, hR.2.2.2⟩
  obtain ⟨hd1, hd2⟩ := hd
  subst hd2
  refine va_calli hrun hS (fun q _ h => hFc q h) hFc (fun r u t H1 locs1 ht hvm hw hB hz1 hk1 hS1 => ?_)
  obtain ⟨hP1, hK1, hD1⟩ := hB
  rw [ht] at hP1
  exact kk r u hw H1 locs1 ls hP1 (bf_D_len hD ((hwl u).trans (hwl S).symm)) hS1 hL
theorem bs_selfPVN_i {T : Type} {wf : T → bf_W} {S : T} {Qp : Int32 → Prop} (C : bf_C X own cc nL ret) (hR : bf_Rm X fr0 lo0) (hM : bf_M (xl X) y bytes maxL retc fr lo (xdC X) (xdI X) (xac X) (xal X) avs (wf S) (bf_Ki (xdC X) (xdI X) (xac X) (xal X) wf (fun r u => u = S ∧ Qp r))) (hm : bf_MV y bytes maxL retc np) {host : String} (hlk : Cond.methodLinkNest own index y host ∈ lw_tbl) {rq ci : Nat} {fs : List Value} {Tc : u_T} {Nc : Nat} (hrc : avs = .ref rq :: avs.tail) (hcl : bf_cl[ci]? = some (y.cls, Tc, Nc)) (hrw : (wf S)[rq]? = some (.inr (ci, fs))) (hnp : avs.tail.length = np) (hfr : fr + 1 ≤ fr0) (hlo : 8 + (maxL + 11) + lo ≤ lo0) (hroom : (st.map fun v => v.category).sum ≤ 8) (hd : bf_D cc pc (.invokevirtual index) 3 pc2) {st0 : List Value} (hst0 : avs.reverse ++ st = st0) (kk : ∀ (r : Int32), Qp r → bf_A X Q nL pc2 lv (.int r :: st) (wf S)) : bf_A X Q nL pc lv st0 (wf S) := by
  intro H locs ls hP hD hS hL
  subst hst0
  have hRR : (bf_rm fr lo).frames + 1 ≤ (xR X).frames ∧ 8 + (maxL + 11) + (bf_rm fr lo).locals ≤ (xR X).locals := ⟨Nat.le_trans hfr hR.1, Nat.le_trans hlo hR.2.1⟩
  have hpre : ∀ U : State, U.heap = H → (xs X).WarmedH U.vm → bf_Pre (xdC X) (xdI X) (xac X) (xal X) H.size avs (wf S) (avs.map (bf_cv (xal X))).toArray U := fun U hU hW => ⟨rfl, by rw [hU], by rw [hU]; exact hP, va_K.moved hW.alike C.2.2.2.2.2.1, hD.weaken (fun _ _ _ _ => trivial), C.2.2.2.2.2.2.1.warm hW⟩
  have hFc : ∀ q, bf_fr (xac X) (xal X) (wf S) H.size q → xA X q := by
    intro q hq
    rcases hq with ⟨k, e, hk⟩ | hq
    · exact hD.2 k (q, e) hk
    · exact C.2.2.2.2.2.2.2.2.2 q (Nat.le_trans hS.1 hq)
  have hav : avs.map (bf_cv (xal X)) = Value.ref (xal X rq) :: avs.tail.map (bf_cv (xal X)) := by rw [hrc]; rfl
  have hrun : va_Run (xp X) (xl X) (xe X) (xR X) (xs X) (xm X) (xa X) (xb X) (xh X) (xc X) H locs (xk X) (xn X) 0 0 (F0 (xm X) pc ls ((avs.reverse ++ st).map (bf_cv (xal X)))) (st.map (bf_cv (xal X))) (bf_Ki (xdC X) (xdI X) (xac X) (xal X) wf (fun r u => u = S ∧ Qp r) (bf_fr (xac X) (xal X) (wf S) H.size) (avs.map (bf_cv (xal X))).toArray) (bf_fr (xac X) (xal X) (wf S) H.size) := by
    rw [List.map_append, List.map_reverse]
    rw [hav] at hpre ⊢
    rw [List.reverse_cons, List.append_assoc]
    exact va_runVN (As := avs.tail.map (bf_cv (xal X))) (rest := st.map (bf_cv (xal X))) ⟨C.1, C.2.1, C.2.2.1, C.2.2.2.1, C.2.2.2.2.1⟩ (hM H.size) ⟨va_cnB np C.2.2.2.2.1 (bf_goodIn hm.1) rfl rfl rfl (C.2.2.2.2.2.2.1 _ hlk rfl) (C.2.2.2.2.1 _ hm.1.2.1) hm.1.2.2 hRR, C.2.2.2.2.1 _ hm.2.1, C.2.2.2.2.1 _ hm.2.2⟩ ⟨bf_blind _ _ _ _ _ _ _, va_recv C.2.2.2.2.2.1 hP hcl (bf_cw_some hrw), hpre⟩ rfl (by rw [List.length_map]; exact hnp) hL.1 rfl (lv_room (by rw [bf_rest]; exact hroom)) hd.1 ⟨hR.2.2.1, hR.2.2.2⟩
  obtain ⟨hd1, hd2⟩ := hd
  subst hd2
  refine va_calli hrun hS (fun q _ h => hFc q h) hFc (fun r u t H1 locs1 ht hvm hw hB hz1 hk1 hS1 => ?_)
  obtain ⟨hP1, hK1, hD1⟩ := hB
  rw [ht] at hP1
  obtain ⟨rfl, hw⟩ := hw
  exact kk r hw H1 locs1 ls hP1 hD hS1 hL
theorem bs_selfVN_l {T : Type} {wf : T → bf_W} {S : T} {Qp : Int64 → T → Prop} (C : bf_C X own cc nL ret) (hR : bf_Rm X fr0 lo0) (hM : bf_M (xl X) y bytes maxL retc fr lo (xdC X) (xdI X) (xac X) (xal X) avs (wf S) (bf_Kl (xdC X) (xdI X) (xac X) (xal X) wf Qp)) (hm : bf_MV y bytes maxL retc np) {host : String} (hlk : Cond.methodLinkNest own index y host ∈ lw_tbl) {rq ci : Nat} {fs : List Value} {Tc : u_T} {Nc : Nat} (hrc : avs = .ref rq :: avs.tail) (hcl : bf_cl[ci]? = some (y.cls, Tc, Nc)) (hrw : (wf S)[rq]? = some (.inr (ci, fs))) (hnp : avs.tail.length = np) (hfr : fr + 1 ≤ fr0) (hlo : 8 + (maxL + 11) + lo ≤ lo0) (hroom : (st.map fun v => v.category).sum ≤ 8) (hd : bf_D cc pc (.invokevirtual index) 3 pc2) {st0 : List Value} (hst0 : avs.reverse ++ st = st0) {len : Nat} (hwl : ∀ u, (wf u).length = len) (kk : ∀ (r : Int64) (u : T), Qp r u → bf_A X Q nL pc2 lv (.long r :: st) (wf u)) : bf_A X Q nL pc lv st0 (wf S) := by
  intro H locs ls hP hD hS hL
  subst hst0
  have hRR : (bf_rm fr lo).frames + 1 ≤ (xR X).frames ∧ 8 + (maxL + 11) + (bf_rm fr lo).locals ≤ (xR X).locals := ⟨Nat.le_trans hfr hR.1, Nat.le_trans hlo hR.2.1⟩
  have hpre : ∀ U : State, U.heap = H → (xs X).WarmedH U.vm → bf_Pre (xdC X) (xdI X) (xac X) (xal X) H.size avs (wf S) (avs.map (bf_cv (xal X))).toArray U := fun U hU hW => ⟨rfl, by rw [hU], by rw [hU]; exact hP, va_K.moved hW.alike C.2.2.2.2.2.1, hD.weaken (fun _ _ _ _ => trivial), C.2.2.2.2.2.2.1.warm hW⟩
  have hFc : ∀ q, bf_fr (xac X) (xal X) (wf S) H.size q → xA X q := by
    intro q hq
    rcases hq with ⟨k, e, hk⟩ | hq
    · exact hD.2 k (q, e) hk
    · exact C.2.2.2.2.2.2.2.2.2 q (Nat.le_trans hS.1 hq)
  have hav : avs.map (bf_cv (xal X)) = Value.ref (xal X rq) :: avs.tail.map (bf_cv (xal X)) := by rw [hrc]; rfl
  have hrun : va_Run (xp X) (xl X) (xe X) (xR X) (xs X) (xm X) (xa X) (xb X) (xh X) (xc X) H locs (xk X) (xn X) 0 0 (F0 (xm X) pc ls ((avs.reverse ++ st).map (bf_cv (xal X)))) (st.map (bf_cv (xal X))) (bf_Kl (xdC X) (xdI X) (xac X) (xal X) wf Qp (bf_fr (xac X) (xal X) (wf S) H.size) (avs.map (bf_cv (xal X))).toArray) (bf_fr (xac X) (xal X) (wf S) H.size) := by
    rw [List.map_append, List.map_reverse]
    rw [hav] at hpre ⊢
    rw [List.reverse_cons, List.append_assoc]
    exact va_runVN (As := avs.tail.map (bf_cv (xal X))) (rest := st.map (bf_cv (xal X))) ⟨C.1, C.2.1, C.2.2.1, C.2.2.2.1, C.2.2.2.2.1⟩ (hM H.size) ⟨va_cnB np C.2.2.2.2.1 (bf_goodIn hm.1) rfl rfl rfl (C.2.2.2.2.2.2.1 _ hlk rfl) (C.2.2.2.2.1 _ hm.1.2.1) hm.1.2.2 hRR, C.2.2.2.2.1 _ hm.2.1, C.2.2.2.2.1 _ hm.2.2⟩ ⟨bf_blind _ _ _ _ _ _ _, va_recv C.2.2.2.2.2.1 hP hcl (bf_cw_some hrw), hpre⟩ rfl (by rw [List.length_map]; exact hnp) hL.1 rfl (lv_room (by rw [bf_rest]; exact hroom)) hd.1 ⟨hR.2.2.1, hR.2.2.2⟩
  obtain ⟨hd1, hd2⟩ := hd
  subst hd2
  refine va_calll hrun hS (fun q _ h => hFc q h) hFc (fun r u t H1 locs1 ht hvm hw hB hz1 hk1 hS1 => ?_)
  obtain ⟨hP1, hK1, hD1⟩ := hB
  rw [ht] at hP1
  exact kk r u hw H1 locs1 ls hP1 (bf_D_len hD ((hwl u).trans (hwl S).symm)) hS1 hL
theorem bs_selfPVN_l {T : Type} {wf : T → bf_W} {S : T} {Qp : Int64 → Prop} (C : bf_C X own cc nL ret) (hR : bf_Rm X fr0 lo0) (hM : bf_M (xl X) y bytes maxL retc fr lo (xdC X) (xdI X) (xac X) (xal X) avs (wf S) (bf_Kl (xdC X) (xdI X) (xac X) (xal X) wf (fun r u => u = S ∧ Qp r))) (hm : bf_MV y bytes maxL retc np) {host : String} (hlk : Cond.methodLinkNest own index y host ∈ lw_tbl) {rq ci : Nat} {fs : List Value} {Tc : u_T} {Nc : Nat} (hrc : avs = .ref rq :: avs.tail) (hcl : bf_cl[ci]? = some (y.cls, Tc, Nc)) (hrw : (wf S)[rq]? = some (.inr (ci, fs))) (hnp : avs.tail.length = np) (hfr : fr + 1 ≤ fr0) (hlo : 8 + (maxL + 11) + lo ≤ lo0) (hroom : (st.map fun v => v.category).sum ≤ 8) (hd : bf_D cc pc (.invokevirtual index) 3 pc2) {st0 : List Value} (hst0 : avs.reverse ++ st = st0) (kk : ∀ (r : Int64), Qp r → bf_A X Q nL pc2 lv (.long r :: st) (wf S)) : bf_A X Q nL pc lv st0 (wf S) := by
  intro H locs ls hP hD hS hL
  subst hst0
  have hRR : (bf_rm fr lo).frames + 1 ≤ (xR X).frames ∧ 8 + (maxL + 11) + (bf_rm fr lo).locals ≤ (xR X).locals := ⟨Nat.le_trans hfr hR.1, Nat.le_trans hlo hR.2.1⟩
  have hpre : ∀ U : State, U.heap = H → (xs X).WarmedH U.vm → bf_Pre (xdC X) (xdI X) (xac X) (xal X) H.size avs (wf S) (avs.map (bf_cv (xal X))).toArray U := fun U hU hW => ⟨rfl, by rw [hU], by rw [hU]; exact hP, va_K.moved hW.alike C.2.2.2.2.2.1, hD.weaken (fun _ _ _ _ => trivial), C.2.2.2.2.2.2.1.warm hW⟩
  have hFc : ∀ q, bf_fr (xac X) (xal X) (wf S) H.size q → xA X q := by
    intro q hq
    rcases hq with ⟨k, e, hk⟩ | hq
    · exact hD.2 k (q, e) hk
    · exact C.2.2.2.2.2.2.2.2.2 q (Nat.le_trans hS.1 hq)
  have hav : avs.map (bf_cv (xal X)) = Value.ref (xal X rq) :: avs.tail.map (bf_cv (xal X)) := by rw [hrc]; rfl
  have hrun : va_Run (xp X) (xl X) (xe X) (xR X) (xs X) (xm X) (xa X) (xb X) (xh X) (xc X) H locs (xk X) (xn X) 0 0 (F0 (xm X) pc ls ((avs.reverse ++ st).map (bf_cv (xal X)))) (st.map (bf_cv (xal X))) (bf_Kl (xdC X) (xdI X) (xac X) (xal X) wf (fun r u => u = S ∧ Qp r) (bf_fr (xac X) (xal X) (wf S) H.size) (avs.map (bf_cv (xal X))).toArray) (bf_fr (xac X) (xal X) (wf S) H.size) := by
    rw [List.map_append, List.map_reverse]
    rw [hav] at hpre ⊢
    rw [List.reverse_cons, List.append_assoc]
    exact va_runVN (As := avs.tail.map (bf_cv (xal X))) (rest := st.map (bf_cv (xal X))) ⟨C.1, C.2.1, C.2.2.1, C.2.2.2.1, C.2.2.2.2.1⟩ (hM H.size) ⟨va_cnB np C.2.2.2.2.1 (bf_goodIn hm.1) rfl rfl rfl (C.2.2.2.2.2.2.1 _ hlk rfl) (C.2.2.2.2.1 _ hm.1.2.1) hm.1.2.2 hRR, C.2.2.2.2.1 _ hm.2.1, C.2.2.2.2.1 _ hm.2.2⟩ ⟨bf_blind _ _ _ _ _ _ _, va_recv C.2.2.2.2.2.1 hP hcl (bf_cw_some hrw), hpre⟩ rfl (by rw [List.length_map]; exact hnp) hL.1 rfl (lv_room (by rw [bf_rest]; exact hroom)) hd.1 ⟨hR.2.2.1, hR.2.2.2⟩
  obtain ⟨hd1, hd2⟩ := hd
  subst hd2
  refine va_calll hrun hS (fun q _ h => hFc q h) hFc (fun r u t H1 locs1 ht hvm hw hB hz1 hk1 hS1 => ?_)
  obtain ⟨hP1, hK1, hD1⟩ := hB
  rw [ht] at hP1
  obtain ⟨rfl, hw⟩ := hw
  exact kk r hw H1 locs1 ls hP1 hD hS1 hL
theorem bs_selfVN_v {T : Type} {wf : T → bf_W} {S : T} {Qp : T → Prop} (C : bf_C X own cc nL ret) (hR : bf_Rm X fr0 lo0) (hM : bf_M (xl X) y bytes maxL retc fr lo (xdC X) (xdI X) (xac X) (xal X) avs (wf S) (bf_Kv (xdC X) (xdI X) (xac X) (xal X) wf Qp)) (hm : bf_MV y bytes maxL retc np) {host : String} (hlk : Cond.methodLinkNest own index y host ∈ lw_tbl) {rq ci : Nat} {fs : List Value} {Tc : u_T} {Nc : Nat} (hrc : avs = .ref rq :: avs.tail) (hcl : bf_cl[ci]? = some (y.cls, Tc, Nc)) (hrw : (wf S)[rq]? = some (.inr (ci, fs))) (hnp : avs.tail.length = np) (hfr : fr + 1 ≤ fr0) (hlo : 8 + (maxL + 11) + lo ≤ lo0) (hroom : (st.map fun v => v.category).sum ≤ 8) (hd : bf_D cc pc (.invokevirtual index) 3 pc2) {st0 : List Value} (hst0 : avs.reverse ++ st = st0) {len : Nat} (hwl : ∀ u, (wf u).length = len) (kk : ∀ (u : T), Qp u → bf_A X Q nL pc2 lv (st) (wf u)) : bf_A X Q nL pc lv st0 (wf S) := by
  intro H locs ls hP hD hS hL
  subst hst0
  have hRR : (bf_rm fr lo).frames + 1 ≤ (xR X).frames ∧ 8 + (maxL + 11) + (bf_rm fr lo).locals ≤ (xR X).locals := ⟨Nat.le_trans hfr hR.1, Nat.le_trans hlo hR.2.1⟩
  have hpre : ∀ U : State, U.heap = H → (xs X).WarmedH U.vm → bf_Pre (xdC X) (xdI X) (xac X) (xal X) H.size avs (wf S) (avs.map (bf_cv (xal X))).toArray U := fun U hU hW => ⟨rfl, by rw [hU], by rw [hU]; exact hP, va_K.moved hW.alike C.2.2.2.2.2.1, hD.weaken (fun _ _ _ _ => trivial), C.2.2.2.2.2.2.1.warm hW⟩
  have hFc : ∀ q, bf_fr (xac X) (xal X) (wf S) H.size q → xA X q := by
    intro q hq
    rcases hq with ⟨k, e, hk⟩ | hq
    · exact hD.2 k (q, e) hk
    · exact C.2.2.2.2.2.2.2.2.2 q (Nat.le_trans hS.1 hq)
  have hav : avs.map (bf_cv (xal X)) = Value.ref (xal X rq) :: avs.tail.map (bf_cv (xal X)) := by rw [hrc]; rfl
  have hrun : va_Run (xp X) (xl X) (xe X) (xR X) (xs X) (xm X) (xa X) (xb X) (xh X) (xc X) H locs (xk X) (xn X) 0 0 (F0 (xm X) pc ls ((avs.reverse ++ st).map (bf_cv (xal X)))) (st.map (bf_cv (xal X))) (bf_Kv (xdC X) (xdI X) (xac X) (xal X) wf Qp (bf_fr (xac X) (xal X) (wf S) H.size) (avs.map (bf_cv (xal X))).toArray) (bf_fr (xac X) (xal X) (wf S) H.size) := by
    rw [List.map_append, List.map_reverse]
    rw [hav] at hpre ⊢
    rw [List.reverse_cons, List.append_assoc]
    exact va_runVN (As := avs.tail.map (bf_cv (xal X))) (rest := st.map (bf_cv (xal X))) ⟨C.1, C.2.1, C.2.2.1, C.2.2.2.1, C.2.2.2.2.1⟩ (hM H.size) ⟨va_cnB np C.2.2.2.2.1 (bf_goodIn hm.1) rfl rfl rfl (C.2.2.2.2.2.2.1 _ hlk rfl) (C.2.2.2.2.1 _ hm.1.2.1) hm.1.2.2 hRR, C.2.2.2.2.1 _ hm.2.1, C.2.2.2.2.1 _ hm.2.2⟩ ⟨bf_blind _ _ _ _ _ _ _, va_recv C.2.2.2.2.2.1 hP hcl (bf_cw_some hrw), hpre⟩ rfl (by rw [List.length_map]; exact hnp) hL.1 rfl (lv_room (by rw [bf_rest]; exact hroom)) hd.1 ⟨hR.2.2.1, hR.2.2.2⟩
  obtain ⟨hd1, hd2⟩ := hd
  subst hd2
  refine va_callv hrun hS (fun q _ h => hFc q h) hFc (fun u t H1 locs1 ht hvm hw hB hz1 hk1 hS1 => ?_)
  obtain ⟨hP1, hK1, hD1⟩ := hB
  rw [ht] at hP1
  exact kk u hw H1 locs1 ls hP1 (bf_D_len hD ((hwl u).trans (hwl S).symm)) hS1 hL
theorem bs_selfS_i {T : Type} {wf : T → bf_W} {S : T} {Qp : Int32 → T → Prop} (C : bf_C X own cc nL ret) (hR : bf_Rm X fr0 lo0) (hM : bf_M (xl X) y bytes maxL retc fr lo (xdC X) (xdI X) (xac X) (xal X) avs (wf S) (bf_Ki (xdC X) (xdI X) (xac X) (xal X) wf Qp)) (hm : bf_MS y bytes maxL retc np) (hlk : Cond.methodLink own index y ∈ lw_good) (hnp : avs.length = np) (hfr : fr + 1 ≤ fr0) (hlo : 8 + (maxL + 11) + lo ≤ lo0) (hroom : (st.map fun v => v.category).sum ≤ 8) (hd : bf_D cc pc (.invokestatic index) 3 pc2) {st0 : List Value} (hst0 : avs.reverse ++ st = st0) {len : Nat} (hwl : ∀ u, (wf u).length = len) (kk : ∀ (r : Int32) (u : T), Qp r u → bf_A X Q nL pc2 lv (.int r :: st) (wf u)) : bf_A X Q nL pc lv st0 (wf S) := by
  intro H locs ls hP hD hS hL
  subst hst0
  have hRR : (bf_rm fr lo).frames + 1 ≤ (xR X).frames ∧ 8 + (maxL + 11) + (bf_rm fr lo).locals ≤ (xR X).locals := ⟨Nat.le_trans hfr hR.1, Nat.le_trans hlo hR.2.1⟩
  have hpre : ∀ U : State, U.heap = H → (xs X).WarmedH U.vm → bf_Pre (xdC X) (xdI X) (xac X) (xal X) H.size avs (wf S) (avs.map (bf_cv (xal X))).toArray U := fun U hU hW => ⟨rfl, by rw [hU], by rw [hU]; exact hP, va_K.moved hW.alike C.2.2.2.2.2.1, hD.weaken (fun _ _ _ _ => trivial), C.2.2.2.2.2.2.1.warm hW⟩
  have hFc : ∀ q, bf_fr (xac X) (xal X) (wf S) H.size q → xA X q := by
    intro q hq
    rcases hq with ⟨k, e, hk⟩ | hq
    · exact hD.2 k (q, e) hk
    · exact C.2.2.2.2.2.2.2.2.2 q (Nat.le_trans hS.1 hq)
  have hrun : va_Run (xp X) (xl X) (xe X) (xR X) (xs X) (xm X) (xa X) (xb X) (xh X) (xc X) H locs (xk X) (xn X) 0 0 (F0 (xm X) pc ls ((avs.reverse ++ st).map (bf_cv (xal X)))) (st.map (bf_cv (xal X))) (bf_Ki (xdC X) (xdI X) (xac X) (xal X) wf Qp (bf_fr (xac X) (xal X) (wf S) H.size) (avs.map (bf_cv (xal X))).toArray) (bf_fr (xac X) (xal X) (wf S) H.size) := by
    rw [List.map_append, List.map_reverse]
    exact va_runS (As := avs.map (bf_cv (xal X))) (rest := st.map (bf_cv (xal X))) ⟨C.1, C.2.1, C.2.2.1, C.2.2.2.1, C.2.2.2.2.1⟩ (hM H.size) ⟨callB_of np C.2.2.2.2.1 (bf_goodIn hm.1) rfl rfl rfl (C.2.2.2.2.1 _ hm.1.2.1) (C.2.2.2.2.1 _ hlk) hm.1.2.2 hRR, C.2.2.2.2.1 _ hm.2⟩ ⟨bf_blind _ _ _ _ _ _ _, hpre⟩ rfl (by rw [List.length_map]; exact hnp) hL.1 rfl (lv_room (by rw [bf_rest]; exact hroom)) hd.1 ⟨hR.2.2.1, hR.2.2.2⟩
  obtain ⟨hd1, hd2⟩ := hd
  subst hd2
  refine va_calli hrun hS (fun q _ h => hFc q h) hFc (fun r u t H1 locs1 ht hvm hw hB hz1 hk1 hS1 => ?_)
  obtain ⟨hP1, hK1, hD1⟩ := hB
  rw [ht] at hP1
  exact kk r u hw H1 locs1 ls hP1 (bf_D_len hD ((hwl u).trans (hwl S).symm)) hS1 hL
theorem bs_selfPS_i {T : Type} {wf : T → bf_W} {S : T} {Qp : Int32 → Prop} (C : bf_C X own cc nL ret) (hR : bf_Rm X fr0 lo0) (hM : bf_M (xl X) y bytes maxL retc fr lo (xdC X) (xdI X) (xac X) (xal X) avs (wf S) (bf_Ki (xdC X) (xdI X) (xac X) (xal X) wf (fun r u => u = S ∧ Qp r))) (hm : bf_MS y bytes maxL retc np) (hlk : Cond.methodLink own index y ∈ lw_good) (hnp : avs.length = np) (hfr : fr + 1 ≤ fr0) (hlo : 8 + (maxL + 11) + lo ≤ lo0) (hroom : (st.map fun v => v.category).sum ≤ 8) (hd : bf_D cc pc (.invokestatic index) 3 pc2) {st0 : List Value} (hst0 : avs.reverse ++ st = st0) (kk : ∀ (r : Int32), Qp r → bf_A X Q nL pc2 lv (.int r :: st) (wf S)) : bf_A X Q nL pc lv st0 (wf S) := by
  intro H locs ls hP hD hS hL
  subst hst0
  have hRR : (bf_rm fr lo).frames + 1 ≤ (xR X).frames ∧ 8 + (maxL + 11) + (bf_rm fr lo).locals ≤ (xR X).locals := ⟨Nat.le_trans hfr hR.1, Nat.le_trans hlo hR.2.1⟩
  have hpre : ∀ U : State, U.heap = H → (xs X).WarmedH U.vm → bf_Pre (xdC X) (xdI X) (xac X) (xal X) H.size avs (wf S) (avs.map (bf_cv (xal X))).toArray U := fun U hU hW => ⟨rfl, by rw [hU], by rw [hU]; exact hP, va_K.moved hW.alike C.2.2.2.2.2.1, hD.weaken (fun _ _ _ _ => trivial), C.2.2.2.2.2.2.1.warm hW⟩
  have hFc : ∀ q, bf_fr (xac X) (xal X) (wf S) H.size q → xA X q := by
    intro q hq
    rcases hq with ⟨k, e, hk⟩ | hq
    · exact hD.2 k (q, e) hk
    · exact C.2.2.2.2.2.2.2.2.2 q (Nat.le_trans hS.1 hq)
  have hrun : va_Run (xp X) (xl X) (xe X) (xR X) (xs X) (xm X) (xa X) (xb X) (xh X) (xc X) H locs (xk X) (xn X) 0 0 (F0 (xm X) pc ls ((avs.reverse ++ st).map (bf_cv (xal X)))) (st.map (bf_cv (xal X))) (bf_Ki (xdC X) (xdI X) (xac X) (xal X) wf (fun r u => u = S ∧ Qp r) (bf_fr (xac X) (xal X) (wf S) H.size) (avs.map (bf_cv (xal X))).toArray) (bf_fr (xac X) (xal X) (wf S) H.size) := by
    rw [List.map_append, List.map_reverse]
    exact va_runS (As := avs.map (bf_cv (xal X))) (rest := st.map (bf_cv (xal X))) ⟨C.1, C.2.1, C.2.2.1, C.2.2.2.1, C.2.2.2.2.1⟩ (hM H.size) ⟨callB_of np C.2.2.2.2.1 (bf_goodIn hm.1) rfl rfl rfl (C.2.2.2.2.1 _ hm.1.2.1) (C.2.2.2.2.1 _ hlk) hm.1.2.2 hRR, C.2.2.2.2.1 _ hm.2⟩ ⟨bf_blind _ _ _ _ _ _ _, hpre⟩ rfl (by rw [List.length_map]; exact hnp) hL.1 rfl (lv_room (by rw [bf_rest]; exact hroom)) hd.1 ⟨hR.2.2.1, hR.2.2.2⟩
  obtain ⟨hd1, hd2⟩ := hd
  subst hd2
  refine va_calli hrun hS (fun q _ h => hFc q h) hFc (fun r u t H1 locs1 ht hvm hw hB hz1 hk1 hS1 => ?_)
  obtain ⟨hP1, hK1, hD1⟩ := hB
  rw [ht] at hP1
  obtain ⟨rfl, hw⟩ := hw
  exact kk r hw H1 locs1 ls hP1 hD hS1 hL
theorem bs_selfS_l {T : Type} {wf : T → bf_W} {S : T} {Qp : Int64 → T → Prop} (C : bf_C X own cc nL ret) (hR : bf_Rm X fr0 lo0) (hM : bf_M (xl X) y bytes maxL retc fr lo (xdC X) (xdI X) (xac X) (xal X) avs (wf S) (bf_Kl (xdC X) (xdI X) (xac X) (xal X) wf Qp)) (hm : bf_MS y bytes maxL retc np) (hlk : Cond.methodLink own index y ∈ lw_good) (hnp : avs.length = np) (hfr : fr + 1 ≤ fr0) (hlo : 8 + (maxL + 11) + lo ≤ lo0) (hroom : (st.map fun v => v.category).sum ≤ 8) (hd : bf_D cc pc (.invokestatic index) 3 pc2) {st0 : List Value} (hst0 : avs.reverse ++ st = st0) {len : Nat} (hwl : ∀ u, (wf u).length = len) (kk : ∀ (r : Int64) (u : T), Qp r u → bf_A X Q nL pc2 lv (.long r :: st) (wf u)) : bf_A X Q nL pc lv st0 (wf S) := by
  intro H locs ls hP hD hS hL
  subst hst0
  have hRR : (bf_rm fr lo).frames + 1 ≤ (xR X).frames ∧ 8 + (maxL + 11) + (bf_rm fr lo).locals ≤ (xR X).locals := ⟨Nat.le_trans hfr hR.1, Nat.le_trans hlo hR.2.1⟩
  have hpre : ∀ U : State, U.heap = H → (xs X).WarmedH U.vm → bf_Pre (xdC X) (xdI X) (xac X) (xal X) H.size avs (wf S) (avs.map (bf_cv (xal X))).toArray U := fun U hU hW => ⟨rfl, by rw [hU], by rw [hU]; exact hP, va_K.moved hW.alike C.2.2.2.2.2.1, hD.weaken (fun _ _ _ _ => trivial), C.2.2.2.2.2.2.1.warm hW⟩
  have hFc : ∀ q, bf_fr (xac X) (xal X) (wf S) H.size q → xA X q := by
    intro q hq
    rcases hq with ⟨k, e, hk⟩ | hq
    · exact hD.2 k (q, e) hk
    · exact C.2.2.2.2.2.2.2.2.2 q (Nat.le_trans hS.1 hq)
  have hrun : va_Run (xp X) (xl X) (xe X) (xR X) (xs X) (xm X) (xa X) (xb X) (xh X) (xc X) H locs (xk X) (xn X) 0 0 (F0 (xm X) pc ls ((avs.reverse ++ st).map (bf_cv (xal X)))) (st.map (bf_cv (xal X))) (bf_Kl (xdC X) (xdI X) (xac X) (xal X) wf Qp (bf_fr (xac X) (xal X) (wf S) H.size) (avs.map (bf_cv (xal X))).toArray) (bf_fr (xac X) (xal X) (wf S) H.size) := by
    rw [List.map_append, List.map_reverse]
    exact va_runS (As := avs.map (bf_cv (xal X))) (rest := st.map (bf_cv (xal X))) ⟨C.1, C.2.1, C.2.2.1, C.2.2.2.1, C.2.2.2.2.1⟩ (hM H.size) ⟨callB_of np C.2.2.2.2.1 (bf_goodIn hm.1) rfl rfl rfl (C.2.2.2.2.1 _ hm.1.2.1) (C.2.2.2.2.1 _ hlk) hm.1.2.2 hRR, C.2.2.2.2.1 _ hm.2⟩ ⟨bf_blind _ _ _ _ _ _ _, hpre⟩ rfl (by rw [List.length_map]; exact hnp) hL.1 rfl (lv_room (by rw [bf_rest]; exact hroom)) hd.1 ⟨hR.2.2.1, hR.2.2.2⟩
  obtain ⟨hd1, hd2⟩ := hd
  subst hd2
  refine va_calll hrun hS (fun q _ h => hFc q h) hFc (fun r u t H1 locs1 ht hvm hw hB hz1 hk1 hS1 => ?_)
  obtain ⟨hP1, hK1, hD1⟩ := hB
  rw [ht] at hP1
  exact kk r u hw H1 locs1 ls hP1 (bf_D_len hD ((hwl u).trans (hwl S).symm)) hS1 hL
theorem bs_selfPS_l {T : Type} {wf : T → bf_W} {S : T} {Qp : Int64 → Prop} (C : bf_C X own cc nL ret) (hR : bf_Rm X fr0 lo0) (hM : bf_M (xl X) y bytes maxL retc fr lo (xdC X) (xdI X) (xac X) (xal X) avs (wf S) (bf_Kl (xdC X) (xdI X) (xac X) (xal X) wf (fun r u => u = S ∧ Qp r))) (hm : bf_MS y bytes maxL retc np) (hlk : Cond.methodLink own index y ∈ lw_good) (hnp : avs.length = np) (hfr : fr + 1 ≤ fr0) (hlo : 8 + (maxL + 11) + lo ≤ lo0) (hroom : (st.map fun v => v.category).sum ≤ 8) (hd : bf_D cc pc (.invokestatic index) 3 pc2) {st0 : List Value} (hst0 : avs.reverse ++ st = st0) (kk : ∀ (r : Int64), Qp r → bf_A X Q nL pc2 lv (.long r :: st) (wf S)) : bf_A X Q nL pc lv st0 (wf S) := by
  intro H locs ls hP hD hS hL
  subst hst0
  have hRR : (bf_rm fr lo).frames + 1 ≤ (xR X).frames ∧ 8 + (maxL + 11) + (bf_rm fr lo).locals ≤ (xR X).locals := ⟨Nat.le_trans hfr hR.1, Nat.le_trans hlo hR.2.1⟩
  have hpre : ∀ U : State, U.heap = H → (xs X).WarmedH U.vm → bf_Pre (xdC X) (xdI X) (xac X) (xal X) H.size avs (wf S) (avs.map (bf_cv (xal X))).toArray U := fun U hU hW => ⟨rfl, by rw [hU], by rw [hU]; exact hP, va_K.moved hW.alike C.2.2.2.2.2.1, hD.weaken (fun _ _ _ _ => trivial), C.2.2.2.2.2.2.1.warm hW⟩
  have hFc : ∀ q, bf_fr (xac X) (xal X) (wf S) H.size q → xA X q := by
    intro q hq
    rcases hq with ⟨k, e, hk⟩ | hq
    · exact hD.2 k (q, e) hk
    · exact C.2.2.2.2.2.2.2.2.2 q (Nat.le_trans hS.1 hq)
  have hrun : va_Run (xp X) (xl X) (xe X) (xR X) (xs X) (xm X) (xa X) (xb X) (xh X) (xc X) H locs (xk X) (xn X) 0 0 (F0 (xm X) pc ls ((avs.reverse ++ st).map (bf_cv (xal X)))) (st.map (bf_cv (xal X))) (bf_Kl (xdC X) (xdI X) (xac X) (xal X) wf (fun r u => u = S ∧ Qp r) (bf_fr (xac X) (xal X) (wf S) H.size) (avs.map (bf_cv (xal X))).toArray) (bf_fr (xac X) (xal X) (wf S) H.size) := by
    rw [List.map_append, List.map_reverse]
    exact va_runS (As := avs.map (bf_cv (xal X))) (rest := st.map (bf_cv (xal X))) ⟨C.1, C.2.1, C.2.2.1, C.2.2.2.1, C.2.2.2.2.1⟩ (hM H.size) ⟨callB_of np C.2.2.2.2.1 (bf_goodIn hm.1) rfl rfl rfl (C.2.2.2.2.1 _ hm.1.2.1) (C.2.2.2.2.1 _ hlk) hm.1.2.2 hRR, C.2.2.2.2.1 _ hm.2⟩ ⟨bf_blind _ _ _ _ _ _ _, hpre⟩ rfl (by rw [List.length_map]; exact hnp) hL.1 rfl (lv_room (by rw [bf_rest]; exact hroom)) hd.1 ⟨hR.2.2.1, hR.2.2.2⟩
  obtain ⟨hd1, hd2⟩ := hd
  subst hd2
  refine va_calll hrun hS (fun q _ h => hFc q h) hFc (fun r u t H1 locs1 ht hvm hw hB hz1 hk1 hS1 => ?_)
  obtain ⟨hP1, hK1, hD1⟩ := hB
  rw [ht] at hP1
  obtain ⟨rfl, hw⟩ := hw
  exact kk r hw H1 locs1 ls hP1 hD hS1 hL
theorem bs_selfS_v {T : Type} {wf : T → bf_W} {S : T} {Qp : T → Prop} (C : bf_C X own cc nL ret) (hR : bf_Rm X fr0 lo0) (hM : bf_M (xl X) y bytes maxL retc fr lo (xdC X) (xdI X) (xac X) (xal X) avs (wf S) (bf_Kv (xdC X) (xdI X) (xac X) (xal X) wf Qp)) (hm : bf_MS y bytes maxL retc np) (hlk : Cond.methodLink own index y ∈ lw_good) (hnp : avs.length = np) (hfr : fr + 1 ≤ fr0) (hlo : 8 + (maxL + 11) + lo ≤ lo0) (hroom : (st.map fun v => v.category).sum ≤ 8) (hd : bf_D cc pc (.invokestatic index) 3 pc2) {st0 : List Value} (hst0 : avs.reverse ++ st = st0) {len : Nat} (hwl : ∀ u, (wf u).length = len) (kk : ∀ (u : T), Qp u → bf_A X Q nL pc2 lv (st) (wf u)) : bf_A X Q nL pc lv st0 (wf S) := by
  intro H locs ls hP hD hS hL
  subst hst0
  have hRR : (bf_rm fr lo).frames + 1 ≤ (xR X).frames ∧ 8 + (maxL + 11) + (bf_rm fr lo).locals ≤ (xR X).locals := ⟨Nat.le_trans hfr hR.1, Nat.le_trans hlo hR.2.1⟩
  have hpre : ∀ U : State, U.heap = H → (xs X).WarmedH U.vm → bf_Pre (xdC X) (xdI X) (xac X) (xal X) H.size avs (wf S) (avs.map (bf_cv (xal X))).toArray U := fun U hU hW => ⟨rfl, by rw [hU], by rw [hU]; exact hP, va_K.moved hW.alike C.2.2.2.2.2.1, hD.weaken (fun _ _ _ _ => trivial), C.2.2.2.2.2.2.1.warm hW⟩
  have hFc : ∀ q, bf_fr (xac X) (xal X) (wf S) H.size q → xA X q := by
    intro q hq
    rcases hq with ⟨k, e, hk⟩ | hq
    · exact hD.2 k (q, e) hk
    · exact C.2.2.2.2.2.2.2.2.2 q (Nat.le_trans hS.1 hq)
  have hrun : va_Run (xp X) (xl X) (xe X) (xR X) (xs X) (xm X) (xa X) (xb X) (xh X) (xc X) H locs (xk X) (xn X) 0 0 (F0 (xm X) pc ls ((avs.reverse ++ st).map (bf_cv (xal X)))) (st.map (bf_cv (xal X))) (bf_Kv (xdC X) (xdI X) (xac X) (xal X) wf Qp (bf_fr (xac X) (xal X) (wf S) H.size) (avs.map (bf_cv (xal X))).toArray) (bf_fr (xac X) (xal X) (wf S) H.size) := by
    rw [List.map_append, List.map_reverse]
    exact va_runS (As := avs.map (bf_cv (xal X))) (rest := st.map (bf_cv (xal X))) ⟨C.1, C.2.1, C.2.2.1, C.2.2.2.1, C.2.2.2.2.1⟩ (hM H.size) ⟨callB_of np C.2.2.2.2.1 (bf_goodIn hm.1) rfl rfl rfl (C.2.2.2.2.1 _ hm.1.2.1) (C.2.2.2.2.1 _ hlk) hm.1.2.2 hRR, C.2.2.2.2.1 _ hm.2⟩ ⟨bf_blind _ _ _ _ _ _ _, hpre⟩ rfl (by rw [List.length_map]; exact hnp) hL.1 rfl (lv_room (by rw [bf_rest]; exact hroom)) hd.1 ⟨hR.2.2.1, hR.2.2.2⟩
  obtain ⟨hd1, hd2⟩ := hd
  subst hd2
  refine va_callv hrun hS (fun q _ h => hFc q h) hFc (fun u t H1 locs1 ht hvm hw hB hz1 hk1 hS1 => ?_)
  obtain ⟨hP1, hK1, hD1⟩ := hB
  rw [ht] at hP1
  exact kk u hw H1 locs1 ls hP1 (bf_D_len hD ((hwl u).trans (hwl S).symm)) hS1 hL
theorem bs_selfSN_i {T : Type} {wf : T → bf_W} {S : T} {Qp : Int32 → T → Prop} (C : bf_C X own cc nL ret) (hR : bf_Rm X fr0 lo0) (hM : bf_M (xl X) y bytes maxL retc fr lo (xdC X) (xdI X) (xac X) (xal X) avs (wf S) (bf_Ki (xdC X) (xdI X) (xac X) (xal X) wf Qp)) (hm : bf_MS y bytes maxL retc np) {host : String} (hlk : Cond.methodLinkNest own index y host ∈ lw_tbl) (hnp : avs.length = np) (hfr : fr + 1 ≤ fr0) (hlo : 8 + (maxL + 11) + lo ≤ lo0) (hroom : (st.map fun v => v.category).sum ≤ 8) (hd : bf_D cc pc (.invokestatic index) 3 pc2) {st0 : List Value} (hst0 : avs.reverse ++ st = st0) {len : Nat} (hwl : ∀ u, (wf u).length = len) (kk : ∀ (r : Int32) (u : T), Qp r u → bf_A X Q nL pc2 lv (.int r :: st) (wf u)) : bf_A X Q nL pc lv st0 (wf S) := by
  intro H locs ls hP hD hS hL
  subst hst0
  have hRR : (bf_rm fr lo).frames + 1 ≤ (xR X).frames ∧ 8 + (maxL + 11) + (bf_rm fr lo).locals ≤ (xR X).locals := ⟨Nat.le_trans hfr hR.1, Nat.le_trans hlo hR.2.1⟩
  have hpre : ∀ U : State, U.heap = H → (xs X).WarmedH U.vm → bf_Pre (xdC X) (xdI X) (xac X) (xal X) H.size avs (wf S) (avs.map (bf_cv (xal X))).toArray U := fun U hU hW => ⟨rfl, by rw [hU], by rw [hU]; exact hP, va_K.moved hW.alike C.2.2.2.2.2.1, hD.weaken (fun _ _ _ _ => trivial), C.2.2.2.2.2.2.1.warm hW⟩
  have hFc : ∀ q, bf_fr (xac X) (xal X) (wf S) H.size q → xA X q := by
    intro q hq
    rcases hq with ⟨k, e, hk⟩ | hq
    · exact hD.2 k (q, e) hk
    · exact C.2.2.2.2.2.2.2.2.2 q (Nat.le_trans hS.1 hq)
  have hrun : va_Run (xp X) (xl X) (xe X) (xR X) (xs X) (xm X) (xa X) (xb X) (xh X) (xc X) H locs (xk X) (xn X) 0 0 (F0 (xm X) pc ls ((avs.reverse ++ st).map (bf_cv (xal X)))) (st.map (bf_cv (xal X))) (bf_Ki (xdC X) (xdI X) (xac X) (xal X) wf Qp (bf_fr (xac X) (xal X) (wf S) H.size) (avs.map (bf_cv (xal X))).toArray) (bf_fr (xac X) (xal X) (wf S) H.size) := by
    rw [List.map_append, List.map_reverse]
    exact va_runSN (As := avs.map (bf_cv (xal X))) (rest := st.map (bf_cv (xal X))) ⟨C.1, C.2.1, C.2.2.1, C.2.2.2.1, C.2.2.2.2.1⟩ (hM H.size) ⟨va_cnB np C.2.2.2.2.1 (bf_goodIn hm.1) rfl rfl rfl (C.2.2.2.2.2.2.1 _ hlk rfl) (C.2.2.2.2.1 _ hm.1.2.1) hm.1.2.2 hRR, C.2.2.2.2.1 _ hm.2, trivial⟩ ⟨bf_blind _ _ _ _ _ _ _, hpre⟩ rfl (by rw [List.length_map]; exact hnp) hL.1 rfl (lv_room (by rw [bf_rest]; exact hroom)) hd.1 ⟨hR.2.2.1, hR.2.2.2⟩
  obtain ⟨hd1, hd2⟩ := hd
  subst hd2
  refine va_calli hrun hS (fun q _ h => hFc q h) hFc (fun r u t H1 locs1 ht hvm hw hB hz1 hk1 hS1 => ?_)
  obtain ⟨hP1, hK1, hD1⟩ := hB
  rw [ht] at hP1
  exact kk r u hw H1 locs1 ls hP1 (bf_D_len hD ((hwl u).trans (hwl S).symm)) hS1 hL
theorem bs_selfPSN_i {T : Type} {wf : T → bf_W} {S : T} {Qp : Int32 → Prop} (C : bf_C X own cc nL ret) (hR : bf_Rm X fr0 lo0) (hM : bf_M (xl X) y bytes maxL retc fr lo (xdC X) (xdI X) (xac X) (xal X) avs (wf S) (bf_Ki (xdC X) (xdI X) (xac X) (xal X) wf (fun r u => u = S ∧ Qp r))) (hm : bf_MS y bytes maxL retc np) {host : String} (hlk : Cond.methodLinkNest own index y host ∈ lw_tbl) (hnp : avs.length = np) (hfr : fr + 1 ≤ fr0) (hlo : 8 + (maxL + 11) + lo ≤ lo0) (hroom : (st.map fun v => v.category).sum ≤ 8) (hd : bf_D cc pc (.invokestatic index) 3 pc2) {st0 : List Value} (hst0 : avs.reverse ++ st = st0) (kk : ∀ (r : Int32), Qp r → bf_A X Q nL pc2 lv (.int r :: st) (wf S)) : bf_A X Q nL pc lv st0 (wf S) := by
  intro H locs ls hP hD hS hL
  subst hst0
  have hRR : (bf_rm fr lo).frames + 1 ≤ (xR X).frames ∧ 8 + (maxL + 11) + (bf_rm fr lo).locals ≤ (xR X).locals := ⟨Nat.le_trans hfr hR.1, Nat.le_trans hlo hR.2.1⟩
  have hpre : ∀ U : State, U.heap = H → (xs X).WarmedH U.vm → bf_Pre (xdC X) (xdI X) (xac X) (xal X) H.size avs (wf S) (avs.map (bf_cv (xal X))).toArray U := fun U hU hW => ⟨rfl, by rw [hU], by rw [hU]; exact hP, va_K.moved hW.alike C.2.2.2.2.2.1, hD.weaken (fun _ _ _ _ => trivial), C.2.2.2.2.2.2.1.warm hW⟩
  have hFc : ∀ q, bf_fr (xac X) (xal X) (wf S) H.size q → xA X q := by
    intro q hq
    rcases hq with ⟨k, e, hk⟩ | hq
    · exact hD.2 k (q, e) hk
    · exact C.2.2.2.2.2.2.2.2.2 q (Nat.le_trans hS.1 hq)
  have hrun : va_Run (xp X) (xl X) (xe X) (xR X) (xs X) (xm X) (xa X) (xb X) (xh X) (xc X) H locs (xk X) (xn X) 0 0 (F0 (xm X) pc ls ((avs.reverse ++ st).map (bf_cv (xal X)))) (st.map (bf_cv (xal X))) (bf_Ki (xdC X) (xdI X) (xac X) (xal X) wf (fun r u => u = S ∧ Qp r) (bf_fr (xac X) (xal X) (wf S) H.size) (avs.map (bf_cv (xal X))).toArray) (bf_fr (xac X) (xal X) (wf S) H.size) := by
    rw [List.map_append, List.map_reverse]
    exact va_runSN (As := avs.map (bf_cv (xal X))) (rest := st.map (bf_cv (xal X))) ⟨C.1, C.2.1, C.2.2.1, C.2.2.2.1, C.2.2.2.2.1⟩ (hM H.size) ⟨va_cnB np C.2.2.2.2.1 (bf_goodIn hm.1) rfl rfl rfl (C.2.2.2.2.2.2.1 _ hlk rfl) (C.2.2.2.2.1 _ hm.1.2.1) hm.1.2.2 hRR, C.2.2.2.2.1 _ hm.2, trivial⟩ ⟨bf_blind _ _ _ _ _ _ _, hpre⟩ rfl (by rw [List.length_map]; exact hnp) hL.1 rfl (lv_room (by rw [bf_rest]; exact hroom)) hd.1 ⟨hR.2.2.1, hR.2.2.2⟩
  obtain ⟨hd1, hd2⟩ := hd
  subst hd2
  refine va_calli hrun hS (fun q _ h => hFc q h) hFc (fun r u t H1 locs1 ht hvm hw hB hz1 hk1 hS1 => ?_)
  obtain ⟨hP1, hK1, hD1⟩ := hB
  rw [ht] at hP1
  obtain ⟨rfl, hw⟩ := hw
  exact kk r hw H1 locs1 ls hP1 hD hS1 hL
theorem bs_selfSN_l {T : Type} {wf : T → bf_W} {S : T} {Qp : Int64 → T → Prop} (C : bf_C X own cc nL ret) (hR : bf_Rm X fr0 lo0) (hM : bf_M (xl X) y bytes maxL retc fr lo (xdC X) (xdI X) (xac X) (xal X) avs (wf S) (bf_Kl (xdC X) (xdI X) (xac X) (xal X) wf Qp)) (hm : bf_MS y bytes maxL retc np) {host : String} (hlk : Cond.methodLinkNest own index y host ∈ lw_tbl) (hnp : avs.length = np) (hfr : fr + 1 ≤ fr0) (hlo : 8 + (maxL + 11) + lo ≤ lo0) (hroom : (st.map fun v => v.category).sum ≤ 8) (hd : bf_D cc pc (.invokestatic index) 3 pc2) {st0 : List Value} (hst0 : avs.reverse ++ st = st0) {len : Nat} (hwl : ∀ u, (wf u).length = len) (kk : ∀ (r : Int64) (u : T), Qp r u → bf_A X Q nL pc2 lv (.long r :: st) (wf u)) : bf_A X Q nL pc lv st0 (wf S) := by
  intro H locs ls hP hD hS hL
  subst hst0
  have hRR : (bf_rm fr lo).frames + 1 ≤ (xR X).frames ∧ 8 + (maxL + 11) + (bf_rm fr lo).locals ≤ (xR X).locals := ⟨Nat.le_trans hfr hR.1, Nat.le_trans hlo hR.2.1⟩
  have hpre : ∀ U : State, U.heap = H → (xs X).WarmedH U.vm → bf_Pre (xdC X) (xdI X) (xac X) (xal X) H.size avs (wf S) (avs.map (bf_cv (xal X))).toArray U := fun U hU hW => ⟨rfl, by rw [hU], by rw [hU]; exact hP, va_K.moved hW.alike C.2.2.2.2.2.1, hD.weaken (fun _ _ _ _ => trivial), C.2.2.2.2.2.2.1.warm hW⟩
  have hFc : ∀ q, bf_fr (xac X) (xal X) (wf S) H.size q → xA X q := by
    intro q hq
    rcases hq with ⟨k, e, hk⟩ | hq
    · exact hD.2 k (q, e) hk
    · exact C.2.2.2.2.2.2.2.2.2 q (Nat.le_trans hS.1 hq)
  have hrun : va_Run (xp X) (xl X) (xe X) (xR X) (xs X) (xm X) (xa X) (xb X) (xh X) (xc X) H locs (xk X) (xn X) 0 0 (F0 (xm X) pc ls ((avs.reverse ++ st).map (bf_cv (xal X)))) (st.map (bf_cv (xal X))) (bf_Kl (xdC X) (xdI X) (xac X) (xal X) wf Qp (bf_fr (xac X) (xal X) (wf S) H.size) (avs.map (bf_cv (xal X))).toArray) (bf_fr (xac X) (xal X) (wf S) H.size) := by
    rw [List.map_append, List.map_reverse]
    exact va_runSN (As := avs.map (bf_cv (xal X))) (rest := st.map (bf_cv (xal X))) ⟨C.1, C.2.1, C.2.2.1, C.2.2.2.1, C.2.2.2.2.1⟩ (hM H.size) ⟨va_cnB np C.2.2.2.2.1 (bf_goodIn hm.1) rfl rfl rfl (C.2.2.2.2.2.2.1 _ hlk rfl) (C.2.2.2.2.1 _ hm.1.2.1) hm.1.2.2 hRR, C.2.2.2.2.1 _ hm.2, trivial⟩ ⟨bf_blind _ _ _ _ _ _ _, hpre⟩ rfl (by rw [List.length_map]; exact hnp) hL.1 rfl (lv_room (by rw [bf_rest]; exact hroom)) hd.1 ⟨hR.2.2.1, hR.2.2.2⟩
  obtain ⟨hd1, hd2⟩ := hd
  subst hd2
  refine va_calll hrun hS (fun q _ h => hFc q h) hFc (fun r u t H1 locs1 ht hvm hw hB hz1 hk1 hS1 => ?_)
  obtain ⟨hP1, hK1, hD1⟩ := hB
  rw [ht] at hP1
  exact kk r u hw H1 locs1 ls hP1 (bf_D_len hD ((hwl u).trans (hwl S).symm)) hS1 hL
theorem bs_selfPSN_l {T : Type} {wf : T → bf_W} {S : T} {Qp : Int64 → Prop} (C : bf_C X own cc nL ret) (hR : bf_Rm X fr0 lo0) (hM : bf_M (xl X) y bytes maxL retc fr lo (xdC X) (xdI X) (xac X) (xal X) avs (wf S) (bf_Kl (xdC X) (xdI X) (xac X) (xal X) wf (fun r u => u = S ∧ Qp r))) (hm : bf_MS y bytes maxL retc np) {host : String} (hlk : Cond.methodLinkNest own index y host ∈ lw_tbl) (hnp : avs.length = np) (hfr : fr + 1 ≤ fr0) (hlo : 8 + (maxL + 11) + lo ≤ lo0) (hroom : (st.map fun v => v.category).sum ≤ 8) (hd : bf_D cc pc (.invokestatic index) 3 pc2) {st0 : List Value} (hst0 : avs.reverse ++ st = st0) (kk : ∀ (r : Int64), Qp r → bf_A X Q nL pc2 lv (.long r :: st) (wf S)) : bf_A X Q nL pc lv st0 (wf S) := by
  intro H locs ls hP hD hS hL
  subst hst0
  have hRR : (bf_rm fr lo).frames + 1 ≤ (xR X).frames ∧ 8 + (maxL + 11) + (bf_rm fr lo).locals ≤ (xR X).locals := ⟨Nat.le_trans hfr hR.1, Nat.le_trans hlo hR.2.1⟩
  have hpre : ∀ U : State, U.heap = H → (xs X).WarmedH U.vm → bf_Pre (xdC X) (xdI X) (xac X) (xal X) H.size avs (wf S) (avs.map (bf_cv (xal X))).toArray U := fun U hU hW => ⟨rfl, by rw [hU], by rw [hU]; exact hP, va_K.moved hW.alike C.2.2.2.2.2.1, hD.weaken (fun _ _ _ _ => trivial), C.2.2.2.2.2.2.1.warm hW⟩
  have hFc : ∀ q, bf_fr (xac X) (xal X) (wf S) H.size q → xA X q := by
    intro q hq
    rcases hq with ⟨k, e, hk⟩ | hq
    · exact hD.2 k (q, e) hk
    · exact C.2.2.2.2.2.2.2.2.2 q (Nat.le_trans hS.1 hq)
  have hrun : va_Run (xp X) (xl X) (xe X) (xR X) (xs X) (xm X) (xa X) (xb X) (xh X) (xc X) H locs (xk X) (xn X) 0 0 (F0 (xm X) pc ls ((avs.reverse ++ st).map (bf_cv (xal X)))) (st.map (bf_cv (xal X))) (bf_Kl (xdC X) (xdI X) (xac X) (xal X) wf (fun r u => u = S ∧ Qp r) (bf_fr (xac X) (xal X) (wf S) H.size) (avs.map (bf_cv (xal X))).toArray) (bf_fr (xac X) (xal X) (wf S) H.size) := by
    rw [List.map_append, List.map_reverse]
    exact va_runSN (As := avs.map (bf_cv (xal X))) (rest := st.map (bf_cv (xal X))) ⟨C.1, C.2.1, C.2.2.1, C.2.2.2.1, C.2.2.2.2.1⟩ (hM H.size) ⟨va_cnB np C.2.2.2.2.1 (bf_goodIn hm.1) rfl rfl rfl (C.2.2.2.2.2.2.1 _ hlk rfl) (C.2.2.2.2.1 _ hm.1.2.1) hm.1.2.2 hRR, C.2.2.2.2.1 _ hm.2, trivial⟩ ⟨bf_blind _ _ _ _ _ _ _, hpre⟩ rfl (by rw [List.length_map]; exact hnp) hL.1 rfl (lv_room (by rw [bf_rest]; exact hroom)) hd.1 ⟨hR.2.2.1, hR.2.2.2⟩
  obtain ⟨hd1, hd2⟩ := hd
  subst hd2
  refine va_calll hrun hS (fun q _ h => hFc q h) hFc (fun r u t H1 locs1 ht hvm hw hB hz1 hk1 hS1 => ?_)
  obtain ⟨hP1, hK1, hD1⟩ := hB
  rw [ht] at hP1
  obtain ⟨rfl, hw⟩ := hw
  exact kk r hw H1 locs1 ls hP1 hD hS1 hL
theorem bs_selfSN_v {T : Type} {wf : T → bf_W} {S : T} {Qp : T → Prop} (C : bf_C X own cc nL ret) (hR : bf_Rm X fr0 lo0) (hM : bf_M (xl X) y bytes maxL retc fr lo (xdC X) (xdI X) (xac X) (xal X) avs (wf S) (bf_Kv (xdC X) (xdI X) (xac X) (xal X) wf Qp)) (hm : bf_MS y bytes maxL retc np) {host : String} (hlk : Cond.methodLinkNest own index y host ∈ lw_tbl) (hnp : avs.length = np) (hfr : fr + 1 ≤ fr0) (hlo : 8 + (maxL + 11) + lo ≤ lo0) (hroom : (st.map fun v => v.category).sum ≤ 8) (hd : bf_D cc pc (.invokestatic index) 3 pc2) {st0 : List Value} (hst0 : avs.reverse ++ st = st0) {len : Nat} (hwl : ∀ u, (wf u).length = len) (kk : ∀ (u : T), Qp u → bf_A X Q nL pc2 lv (st) (wf u)) : bf_A X Q nL pc lv st0 (wf S) := by
  intro H locs ls hP hD hS hL
  subst hst0
  have hRR : (bf_rm fr lo).frames + 1 ≤ (xR X).frames ∧ 8 + (maxL + 11) + (bf_rm fr lo).locals ≤ (xR X).locals := ⟨Nat.le_trans hfr hR.1, Nat.le_trans hlo hR.2.1⟩
  have hpre : ∀ U : State, U.heap = H → (xs X).WarmedH U.vm → bf_Pre (xdC X) (xdI X) (xac X) (xal X) H.size avs (wf S) (avs.map (bf_cv (xal X))).toArray U := fun U hU hW => ⟨rfl, by rw [hU], by rw [hU]; exact hP, va_K.moved hW.alike C.2.2.2.2.2.1, hD.weaken (fun _ _ _ _ => trivial), C.2.2.2.2.2.2.1.warm hW⟩
  have hFc : ∀ q, bf_fr (xac X) (xal X) (wf S) H.size q → xA X q := by
    intro q hq
    rcases hq with ⟨k, e, hk⟩ | hq
    · exact hD.2 k (q, e) hk
    · exact C.2.2.2.2.2.2.2.2.2 q (Nat.le_trans hS.1 hq)
  have hrun : va_Run (xp X) (xl X) (xe X) (xR X) (xs X) (xm X) (xa X) (xb X) (xh X) (xc X) H locs (xk X) (xn X) 0 0 (F0 (xm X) pc ls ((avs.reverse ++ st).map (bf_cv (xal X)))) (st.map (bf_cv (xal X))) (bf_Kv (xdC X) (xdI X) (xac X) (xal X) wf Qp (bf_fr (xac X) (xal X) (wf S) H.size) (avs.map (bf_cv (xal X))).toArray) (bf_fr (xac X) (xal X) (wf S) H.size) := by
    rw [List.map_append, List.map_reverse]
    exact va_runSN (As := avs.map (bf_cv (xal X))) (rest := st.map (bf_cv (xal X))) ⟨C.1, C.2.1, C.2.2.1, C.2.2.2.1, C.2.2.2.2.1⟩ (hM H.size) ⟨va_cnB np C.2.2.2.2.1 (bf_goodIn hm.1) rfl rfl rfl (C.2.2.2.2.2.2.1 _ hlk rfl) (C.2.2.2.2.1 _ hm.1.2.1) hm.1.2.2 hRR, C.2.2.2.2.1 _ hm.2, trivial⟩ ⟨bf_blind _ _ _ _ _ _ _, hpre⟩ rfl (by rw [List.length_map]; exact hnp) hL.1 rfl (lv_room (by rw [bf_rest]; exact hroom)) hd.1 ⟨hR.2.2.1, hR.2.2.2⟩
  obtain ⟨hd1, hd2⟩ := hd
  subst hd2
  refine va_callv hrun hS (fun q _ h => hFc q h) hFc (fun u t H1 locs1 ht hvm hw hB hz1 hk1 hS1 => ?_)
  obtain ⟨hP1, hK1, hD1⟩ := hB
  rw [ht] at hP1
  exact kk u hw H1 locs1 ls hP1 (bf_D_len hD ((hwl u).trans (hwl S).symm)) hS1 hL
end BFCALL
section BFLIB
variable {X : bf_X} {Q : State → Prop} {own : String} {cc : ByteArray} {nL : Nat} {ret : Option FieldType} {pc pc2 : Nat} {lv : bf_V} {st : List Value} {w : bf_W} {fr0 lo0 : Nat} {index : Nat}
theorem bs_mmax (C : bf_C X own cc nL ret) (hR : bf_Rm X fr0 lo0) (hlk : Cond.methodLink own index Lib.Math.max.name ∈ lw_good) (hst : Cond.static Lib.Math.max.name ∈ lw_good) (hini : Cond.initialized "java/lang/Math" ∈ lw_good) (hco : Cond.code Lib.Math.max.name Lib.Math.max.code 2 (some .int) ∈ lw_good) (hfr : 1 ≤ fr0) (hlo : (st.map fun v => v.category).sum + 13 ≤ lo0) {x y : Int32} (hd : bf_D cc pc (.invokestatic index) 3 pc2) (kk : bf_A X Q nL pc2 lv (.int (if x < y then y else x) :: st) w) : bf_A X Q nL pc lv (.int y :: .int x :: st) w := by
  intro H locs ls hP hD hS hL
  obtain ⟨hd, rfl⟩ := hd
  exact va_mmax C.1 C.2.1 (C.2.2.1.trans hL.1.symm) C.2.2.2.1 (C.2.2.2.2.1 _ hlk) (C.2.2.2.2.1 _ hst) (C.2.2.2.2.1 _ hini) (C.2.2.2.2.1 _ hco) (Nat.le_trans hfr hR.1) (by rw [bf_rest]; exact Nat.le_trans hlo hR.2.1) hR.2.2.1 hR.2.2.2 hd (kk H locs ls hP hD hS hL)
theorem bs_mmin (C : bf_C X own cc nL ret) (hR : bf_Rm X fr0 lo0) (hlk : Cond.methodLink own index Lib.Math.min.name ∈ lw_good) (hst : Cond.static Lib.Math.min.name ∈ lw_good) (hini : Cond.initialized "java/lang/Math" ∈ lw_good) (hco : Cond.code Lib.Math.min.name Lib.Math.min.code 2 (some .int) ∈ lw_good) (hfr : 1 ≤ fr0) (hlo : (st.map fun v => v.category).sum + 13 ≤ lo0) {x y : Int32} (hd : bf_D cc pc (.invokestatic index) 3 pc2) (kk : bf_A X Q nL pc2 lv (.int (if y < x then y else x) :: st) w) : bf_A X Q nL pc lv (.int y :: .int x :: st) w := by
  intro H locs ls hP hD hS hL
  obtain ⟨hd, rfl⟩ := hd
  exact va_mmin C.1 C.2.1 (C.2.2.1.trans hL.1.symm) C.2.2.2.1 (C.2.2.2.2.1 _ hlk) (C.2.2.2.2.1 _ hst) (C.2.2.2.2.1 _ hini) (C.2.2.2.2.1 _ hco) (Nat.le_trans hfr hR.1) (by rw [bf_rest]; exact Nat.le_trans hlo hR.2.1) hR.2.2.1 hR.2.2.2 hd (kk H locs ls hP hD hS hL)
theorem bs_copyI (C : bf_C X own cc nL ret) (hR : bf_Rm X fr0 lo0) (hlk : Cond.methodLink own index arraycopyName ∈ lw_good) (hnat : Cond.native arraycopyName ∈ lw_good) (hst : Cond.static arraycopyName ∈ lw_good) (hini : Cond.initialized "java/lang/System" ∈ lw_good) {q0 q1 n0 n1 : Nat} {f g : Nat → Int32} (he0 : w[q0]? = some (.inl (0, n0, .inl f))) (he1 : w[q1]? = some (.inl (0, n1, .inl g))) {sp dp n : Int32} (h1 : ¬ sp < 0) (h2 : ¬ dp < 0) (h3 : ¬ n < 0) (h4 : sp.toNatClampNeg + n.toNatClampNeg ≤ n0) (h5 : dp.toNatClampNeg + n.toNatClampNeg ≤ n1) (hfr : 1 ≤ fr0) (hlo : (st.map fun v => v.category).sum + (nativeFrameWords "java/lang/System" "arraycopy" 5 + 11) ≤ lo0) (hd : bf_D cc pc (.invokestatic index) 3 pc2) {w2 : bf_W} (hw2 : w.set q1 (.inl (0, n1, .inl (va_cpy f g sp.toNatClampNeg dp.toNatClampNeg n.toNatClampNeg))) = w2) (kk : bf_A X Q nL pc2 lv st w2) : bf_A X Q nL pc lv (.int n :: .int dp :: .ref q1 :: .int sp :: .ref q0 :: st) w := by
  intro H locs ls hP hD hS hL
  obtain ⟨hd, rfl⟩ := hd
  have hwe := bf_cw_set (xac X) (xal X) w q1 (.inl (0, n1, .inl (va_cpy f g sp.toNatClampNeg dp.toNatClampNeg n.toNatClampNeg)))
  rw [hw2] at hwe
  refine va_copyi C.1 C.2.1 (C.2.2.1.trans hL.1.symm) C.2.2.2.1 (C.2.2.2.2.1 _ hlk) (C.2.2.2.2.1 _ hnat) (C.2.2.2.2.1 _ hst) (C.2.2.2.2.1 _ hini) C.2.2.2.2.2.1 hP hD hS q0 q1 0 0 (bf_cw_some he0) (bf_cw_some he1) rfl rfl rfl h1 h2 h3 h4 h5 (fun _ _ => rfl) (Nat.le_trans hfr hR.1) (by rw [bf_rest]; exact Nat.le_trans hlo hR.2.1) hd (fun H1 locs1 hP1 hD1 hS1 => ?_)
  exact kk H1 locs1 ls (hwe ▸ hP1) (hwe ▸ hD1) hS1 hL
theorem bs_copyL (C : bf_C X own cc nL ret) (hR : bf_Rm X fr0 lo0) (hlk : Cond.methodLink own index arraycopyName ∈ lw_good) (hnat : Cond.native arraycopyName ∈ lw_good) (hst : Cond.static arraycopyName ∈ lw_good) (hini : Cond.initialized "java/lang/System" ∈ lw_good) {q0 q1 n0 n1 : Nat} {f g : Nat → Int64} (he0 : w[q0]? = some (.inl (1, n0, .inr (.inl f)))) (he1 : w[q1]? = some (.inl (1, n1, .inr (.inl g)))) {sp dp n : Int32} (h1 : ¬ sp < 0) (h2 : ¬ dp < 0) (h3 : ¬ n < 0) (h4 : sp.toNatClampNeg + n.toNatClampNeg ≤ n0) (h5 : dp.toNatClampNeg + n.toNatClampNeg ≤ n1) (hfr : 1 ≤ fr0) (hlo : (st.map fun v => v.category).sum + (nativeFrameWords "java/lang/System" "arraycopy" 5 + 11) ≤ lo0) (hd : bf_D cc pc (.invokestatic index) 3 pc2) {w2 : bf_W} (hw2 : w.set q1 (.inl (1, n1, .inr (.inl (va_cpy f g sp.toNatClampNeg dp.toNatClampNeg n.toNatClampNeg)))) = w2) (kk : bf_A X Q nL pc2 lv st w2) : bf_A X Q nL pc lv (.int n :: .int dp :: .ref q1 :: .int sp :: .ref q0 :: st) w := by
  intro H locs ls hP hD hS hL
  obtain ⟨hd, rfl⟩ := hd
  have hwe := bf_cw_set (xac X) (xal X) w q1 (.inl (1, n1, .inr (.inl (va_cpy f g sp.toNatClampNeg dp.toNatClampNeg n.toNatClampNeg))))
  rw [hw2] at hwe
  refine va_copyl C.1 C.2.1 (C.2.2.1.trans hL.1.symm) C.2.2.2.1 (C.2.2.2.2.1 _ hlk) (C.2.2.2.2.1 _ hnat) (C.2.2.2.2.1 _ hst) (C.2.2.2.2.1 _ hini) C.2.2.2.2.2.1 hP hD hS q0 q1 1 1 (bf_cw_some he0) (bf_cw_some he1) rfl rfl rfl h1 h2 h3 h4 h5 (fun _ _ => rfl) (Nat.le_trans hfr hR.1) (by rw [bf_rest]; exact Nat.le_trans hlo hR.2.1) hd (fun H1 locs1 hP1 hD1 hS1 => ?_)
  exact kk H1 locs1 ls (hwe ▸ hP1) (hwe ▸ hD1) hS1 hL
end BFLIB

