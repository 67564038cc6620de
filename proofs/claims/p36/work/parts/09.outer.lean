/-! THE CLAIM OUT OF ONE WALK OF THE LAW'S BODY. Your part is whole_start (and what it stands on); all else here is the same for every law, but numbers. -/
def R_law : String := "BeginningsFilterLaw"
def lw_P (b : Addr) (xs : List Int32) (args : Array Value) (s : State) : Prop := args = #[.ref b] ∧ s.IntsAt b xs ∧ xs.length ≤ 3584 ∧ (Jvm.Cond.and given_1 narrow_1).before args s = true
def lw_Q (_ : Array Value) (s : State) (o : Outcome) (t : State) : Prop := o = .returned (some (.int 1)) ∧ Framed s o t [] 89 9984
def lw_Z (below : List Frame) (a : Array Value) (s : State) : State → Prop := fun t => ∃ o, t.status = .running ∧ Ended t below o ∧ lw_Q a s o t
/-- the law's own end, with 1 on the stack, nothing written that was there before, its room as the claim has it -/
theorem lw_ret {p : Program} {l : Launch} {e : Env} {s : State} {m : MethodId} {below : List Frame} {meth : Method} {c : Code} {b : Nat} (hx : p.tables.exec = Jvm.exec) (hb : c.code = code) (hr : meth.sig.returnType = ret) (hlocks : meth.locks = false) {pc : Nat} {H : Heap} {ls : Array Slot} (hdg : decode code pc = .ok (.ireturn, 1)) : W p l e room_1 s m #[Value.ref b] below meth c H [] 89 9984 (lw_Z below #[Value.ref b] s) (F0 m pc ls [.int 1]) := by
  intro T hT X
  obtain ⟨fs, hret, hrun, hended, hW, hframe⟩ := X.leave (v := some (.int 1)) (hlocks := hlocks) (fun h => by rw [hr] at h; cases h)
  have hmeth' : T.vm.method? m = some meth := X.method'
  refine ⟨T.setFrames fs, ?_, .returned (some (.int 1)), hrun, hended, rfl, ⟨_, rfl⟩, hW, hframe⟩
  jvm_step X.here [X.here.top, hx, hb, hdg, hmeth', hr, ret, narrow_b1]
  (try refine ⟨rfl, ?_⟩); (try refine ⟨rfl, ?_⟩)
  first | (intro acts; rw [hret _ acts rfl rfl rfl]) | rw [hret _ _ rfl rfl rfl]
  exact Steps.refl _
/-- what holds at the law's entry: the machine, the code, the tables' words (any of lw_tbl by 'hts w (by decide +kernel)'), the script of L ints xs at the cell b, what the Statement gives of the start (any of its parts by flat_of_before) -/
def lw_At (p : Program) (s : State) (m : MethodId) (meth : Method) (c : Code) (b L : Nat) (xs : Nat → Int32) : Prop :=
  p.tables.exec = Jvm.exec ∧ c.code = code ∧ meth.sig.returnType = ret ∧ c.maxLocals = 4 ∧ s.vm.findClass R_law = some m.cls ∧ (∀ w ∈ lw_tbl, w.before #[Value.ref b] s = true) ∧ va_X b L xs s s.heap ∧ b < s.heap.size ∧ meth.locks = false ∧ (Jvm.Cond.and given_1 narrow_1).before #[Value.ref b] s = true

/-! WHAT LIES OUTSIDE EVERY WORLD: static arrays and String constants that nobody writes -/
def bf_first : List Int32 := [4, 4, 9, 16, 4, 0]
def bf_least : List Int32 := [0, 0, 0, 1, 1, -2147483648]
def bf_most : List Int32 := [8, 8, 9, 64, 256, 2147483647]
def bf_sidx : List Nat := [413, 415, 417, 419, 421, 423, 425, 427, 429, 431]
def bf_stxt : List String := ["none", "hash", "\x72eal", "both", "labels", "kids", "ends", "marks", "lower", "firsts"]
def bf_slen : List Nat := [4, 4, 4, 4, 6, 4, 4, 5, 5, 6]
def bf_sbyt : List (List Int32) := [[110, 111, 110, 101], [104, 97, 115, 104], [114, 101, 97, 108], [98, 111, 116, 104], [108, 97, 98, 101, 108, 115], [107, 105, 100, 115], [101, 110, 100, 115], [109, 97, 114, 107, 115], [108, 111, 119, 101, 114], [102, 105, 114, 115, 116, 115]]
def bf_Ga (nm : String) (f : List Int32) (A : Nat → Prop) (U : State) (H : Heap) : Prop := ∃ t : Nat, va_Z "BeginningsFilter" nm "[I" (.ref t) A U H ∧ va_T .int t 6 (fun j => .int (f.getD j 0)) A U H
def bf_Gs (A : Nat → Prop) (U : State) (H : Heap) : Prop := ∃ adK adV : Nat → Nat, vk_S 10 bf_slen bf_sbyt adK adV A U H ∧ ∀ i : Nat, i < 10 → vk_R "BeginningsFilter" (bf_sidx.getD i 0) (bf_stxt.getD i "") (adK i) U
def bf_G (A : Nat → Prop) (U : State) (H : Heap) : Prop := bf_Ga "TOLD_AT_FIRST" bf_first A U H ∧ bf_Ga "TOLD_LEAST" bf_least A U H ∧ bf_Ga "TOLD_MOST" bf_most A U H ∧ bf_Gs A U H ∧ va_Z "java/lang/String" "COMPACT_STRINGS" "Z" (.int 1) A U H ∧ va_Zq "jdk/internal/util/Preconditions" "SIOOBE_FORMATTER" "Ljava/util/function/BiFunction;" A U H
theorem bf_Ga.to {nm : String} {f : List Int32} {A B : Nat → Prop} {s U : State} {H0 H : Heap} (h : bf_Ga nm f A s H0) (hq : ∀ a : Nat, a < H0.size → ¬ A a → H[a]? = H0[a]?) (hAB : ∀ q, B q → A q) (hv : s.vm.Alike U.vm) : bf_Ga nm f B U H := by
  obtain ⟨t, h1, h2⟩ := h
  exact ⟨t, ((h1.kept hq).narrow hAB).moved hv, ((h2.kept hq).narrow hAB).moved hv⟩
theorem bf_G.warm {A B : Nat → Prop} {s U : State} {H0 H : Heap} (h : bf_G A s H0) (hq : ∀ a : Nat, a < H0.size → ¬ A a → H[a]? = H0[a]?) (hAB : ∀ q, B q → A q) (hW : s.WarmedH U.vm) : bf_G B U H := by
  obtain ⟨h1, h2, h3, ⟨adK, adV, h4, h5⟩, h6, h7⟩ := h
  exact ⟨h1.to hq hAB hW.alike, h2.to hq hAB hW.alike, h3.to hq hAB hW.alike, ⟨adK, adV, ((h4.kept hq).narrow hAB).moved hW.alike, fun i hi => (h5 i hi).warm hW⟩, ((h6.kept hq).narrow hAB).moved hW.alike, ((h7.kept hq).narrow hAB).moved hW.alike⟩
theorem bf_G.same {A : Nat → Prop} {s U : State} {H : Heap} (h : bf_G A s H) (hv : U.vm = s.vm) : bf_G A U H := by
  have ha : s.vm.Alike U.vm := by rw [hv]; exact Vm.Alike.refl _
  have hq : ∀ a : Nat, a < H.size → ¬ A a → H[a]? = H[a]? := fun _ _ _ => rfl
  obtain ⟨h1, h2, h3, ⟨adK, adV, h4, h5⟩, h6, h7⟩ := h
  exact ⟨h1.to hq (fun _ z => z) ha, h2.to hq (fun _ z => z) ha, h3.to hq (fun _ z => z) ha, ⟨adK, adV, h4.moved ha, fun i hi => (h5 i hi).same hv⟩, h6.moved ha, h7.moved ha⟩
def bf_PreG (dC : Nat → ClassId) (dI : Nat → Nat → Nat) (ac : Nat → ClassId) (al : Nat → Nat) (sz : Nat) (avs : List Value) (w : bf_W) : Array Value → State → Prop :=
  fun v U => bf_Pre dC dI ac al sz avs w v U ∧ bf_G (bf_fr ac al w sz) U U.heap
theorem bf_blindG (dC : Nat → ClassId) (dI : Nat → Nat → Nat) (ac : Nat → ClassId) (al : Nat → Nat) (sz : Nat) (avs : List Value) (w : bf_W) : FrameBlind (bf_PreG dC dI ac al sz avs w) :=
  fun a U g mk h => ⟨bf_blind dC dI ac al sz avs w a U g mk h.1, h.2.same rfl⟩
def bf_MG (l : Launch) (y : MethodName) (cc : ByteArray) (n : Nat) (ret : Option FieldType) (fr lo : Nat) (dC : Nat → ClassId) (dI : Nat → Nat → Nat) (ac : Nat → ClassId) (al : Nat → Nat) (avs : List Value) (w : bf_W) (Qc : (Nat → Prop) → Array Value → State → Outcome → State → Prop) : Prop :=
  ∀ sz : Nat, Met l y (bf_ws y cc n ret) (bf_rm fr lo) (bf_PreG dC dI ac al sz avs w) (Qc (bf_fr ac al w sz)) 0 0 (bf_fr ac al w sz)
theorem bf_startG {l : Launch} {y : MethodName} {cc : ByteArray} {n : Nat} {ret : Option FieldType} {fr lo : Nat} {dC : Nat → ClassId} {dI : Nat → Nat → Nat} {ac : Nat → ClassId} {al : Nat → Nat} {avs : List Value} {w : bf_W} {Qc : (Nat → Prop) → Array Value → State → Outcome → State → Prop} (lv : bf_V)
    (hy : plainName y.cls = true) (hlen : (bf_ent avs).length ≤ n) (hlv : bf_sub lv (bf_ent avs))
    (body : ∀ X : bf_X, xl X = l → bf_C X y.cls cc n ret → bf_Rm X fr lo → xdC X = dC → xdI X = dI → xac X = ac → xal X = al → bf_G (xA X) (xs X) (xs X).heap → bf_A X (bf_Q X Qc) n 0 lv [] w) : bf_MG l y cc n ret fr lo dC dI ac al avs w Qc := by
  intro sz
  refine Met.ofW (cc := cc) (maxL := n) (ret := ret) hy rfl ?_
  intro p e s m args below meth c s₁ B hml hv
  obtain ⟨⟨rfl, rfl, hP, hK, hD0, hN⟩, hG⟩ := hv
  have hts := atoms_spec (ws := bf_ws y cc n ret) B.pre
  have hD := hD0.self (sz := s.heap.size)
  have hC : bf_C (p, l, e, bf_rm fr lo, s, m, (avs.map (bf_cv al)).toArray, below, meth, c, dC, dI, ac, al, va_A (bf_cw ac al w) s.heap.size, 0, 0) y.cls cc n ret :=
    ⟨B.exec, B.bytes, hml, findClass_of_methodNamed B.named, fun q hq => hts q (List.mem_cons_of_mem _ hq), hK, hN, B.returns, B.notSynchronized, fun q h => Or.inr h⟩
  have hb := body (p, l, e, bf_rm fr lo, s, m, (avs.map (bf_cv al)).toArray, below, meth, c, dC, dI, ac, al, va_A (bf_cw ac al w) s.heap.size, 0, 0) rfl hC ⟨Nat.le_refl _, Nat.le_refl _, Nat.le_refl _, Nat.le_refl _⟩ rfl rfl rfl rfl hG
  rw [lg_entry_eq]
  refine hb s.heap [] _ hP hD va_S.rf ?_
  have hsl := bf_ent_sl al avs
  have he := lv_entry (avs.map (bf_cv al)) (n := n) (by rw [hsl, List.length_map]; exact hlen)
  refine ⟨he.1, he.2.1, fun i v hi => ?_⟩
  have h2 := bf_sub_get _ _ hlv i v hi
  have h3 : i < (bf_ent avs).length := (List.getElem?_eq_some_iff.mp h2).1
  show (lg_sl (avs.map (bf_cv al)) ++ List.replicate (n - (lg_sl (avs.map (bf_cv al))).length) Slot.unset).toArray[i]? = _
  rw [hsl, List.getElem?_toArray, List.getElem?_append_left (by simpa using h3), List.getElem?_map, h2]
  rfl
section BFGC
variable {X : bf_X} {Q : State → Prop} {own : String} {cc : ByteArray} {nL : Nat} {ret : Option FieldType} {pc pc2 : Nat} {lv : bf_V} {st : List Value} {w : bf_W} {fr0 lo0 : Nat}
variable {y : MethodName} {bytes : ByteArray} {maxL np index : Nat} {retc : Option FieldType} {fr lo : Nat} {ps : List Nat} {avs : List Value}
theorem bs_callGV_i {T : Type} {wf : T → bf_W} {S : T} {Qp : Int32 → T → Prop} (C : bf_C X own cc nL ret) (hR : bf_Rm X fr0 lo0) (hG : bf_G (xA X) (xs X) (xs X).heap) (hM : bf_MG (xl X) y bytes maxL retc fr lo (xdC X) (xdI X) (xac X) (bf_alc (xal X) ps) avs (wf S) (bf_Ki (xdC X) (xdI X) (xac X) (bf_alc (xal X) ps) wf Qp)) (hm : bf_MV y bytes maxL retc np) (hlk : Cond.methodLink own index y ∈ lw_good) {rq ci : Nat} {fs : List Value} {Tc : u_T} {Nc : Nat} (hrc : avs = .ref rq :: avs.tail) (hcl : bf_cl[ci]? = some (y.cls, Tc, Nc)) (hrw : (wf S)[rq]? = some (.inr (ci, fs))) (hnp : avs.tail.length = np) (hfr : fr + 1 ≤ fr0) (hlo : 8 + (maxL + 11) + lo ≤ lo0) (hs : bf_Sub w ps (wf S)) (hnd : va_nd ps = true) (hroom : (st.map fun v => v.category).sum ≤ 8) (hd : bf_D cc pc (.invokevirtual index) 3 pc2) {st0 : List Value} (hst0 : (avs.map (bf_ren ps)).reverse ++ st = st0) (hwl : ∀ u, (wf u).length = ps.length) {w2 : T → bf_W} (hput : ∀ u, bf_put w ps ((wf u).map (bf_rne ps)) = w2 u) (kk : ∀ (r : Int32) (u : T), Qp r u → bf_A X Q nL pc2 lv (.int r :: st) (w2 u)) : bf_A X Q nL pc lv st0 w := by
  intro H locs ls hP hD hS hL
  subst hst0
  have hFc : ∀ q, bf_fr (xac X) (bf_alc (xal X) ps) (wf S) H.size q → xA X q := va_free hD hS C.2.2.2.2.2.2.2.2.2 ps hs.conc
  have hRR : (bf_rm fr lo).frames + 1 ≤ (xR X).frames ∧ 8 + (maxL + 11) + (bf_rm fr lo).locals ≤ (xR X).locals := ⟨Nat.le_trans hfr hR.1, Nat.le_trans hlo hR.2.1⟩
  have hPc : va_P (xdC X, xdI X) bf_cl (bf_cw (xac X) (bf_alc (xal X) ps) (wf S)) H := hP.sub ps (by
    have h := hs.conc (ac := xac X) (al := xal X)
    have h2 : ps.filterMap (fun i => (bf_cw (xac X) (xal X) w)[i]?) = (ps.map (fun i => (bf_cw (xac X) (xal X) w)[i]?)).filterMap id := by rw [List.filterMap_map]; rfl
    rw [h2, h, List.filterMap_map]
    simp [Function.comp_def])
  have hDc : va_D (xA X) (bf_cw (xac X) (bf_alc (xal X) ps) (wf S)) := hD.sub ps hnd (hs.conc)
  have hst : ((avs.map (bf_ren ps)).reverse ++ st).map (bf_cv (xal X)) = (avs.map (bf_cv (bf_alc (xal X) ps))).reverse ++ st.map (bf_cv (xal X)) := by
    rw [List.map_append, List.map_reverse, List.map_map]
    congr 2
    apply List.map_congr_left
    intro v _
    exact bf_cv_ren (xal X) ps v
  have hpre : ∀ U : State, U.heap = H → (xs X).WarmedH U.vm → bf_PreG (xdC X) (xdI X) (xac X) (bf_alc (xal X) ps) H.size avs (wf S) (avs.map (bf_cv (bf_alc (xal X) ps))).toArray U := fun U hU hW => ⟨⟨rfl, by rw [hU], by rw [hU]; exact hPc, va_K.moved hW.alike C.2.2.2.2.2.1, hDc.weaken (fun _ _ _ _ => trivial), C.2.2.2.2.2.2.1.warm hW⟩, hG.warm (fun a h1 h2 => by rw [hU]; exact hS.2.1 a h1 h2) hFc hW⟩
  have hav : avs.map (bf_cv (bf_alc (xal X) ps)) = Value.ref (bf_alc (xal X) ps rq) :: avs.tail.map (bf_cv (bf_alc (xal X) ps)) := by rw [hrc]; rfl
  have hrun : va_Run (xp X) (xl X) (xe X) (xR X) (xs X) (xm X) (xa X) (xb X) (xh X) (xc X) H locs (xk X) (xn X) 0 0 (F0 (xm X) pc ls ((((avs.map (bf_ren ps)).reverse) ++ st).map (bf_cv (xal X)))) (st.map (bf_cv (xal X))) (bf_Ki (xdC X) (xdI X) (xac X) (bf_alc (xal X) ps) wf Qp (bf_fr (xac X) (bf_alc (xal X) ps) (wf S) H.size) (avs.map (bf_cv (bf_alc (xal X) ps))).toArray) (bf_fr (xac X) (bf_alc (xal X) ps) (wf S) H.size) := by
    rw [hst]
    rw [hav] at hpre ⊢
    rw [List.reverse_cons, List.append_assoc]
    exact va_runV (As := avs.tail.map (bf_cv (bf_alc (xal X) ps))) (rest := st.map (bf_cv (xal X))) ⟨C.1, C.2.1, C.2.2.1, C.2.2.2.1, C.2.2.2.2.1⟩ (hM H.size) ⟨callB_of np C.2.2.2.2.1 (bf_goodIn hm.1) rfl rfl rfl (C.2.2.2.2.1 _ hm.1.2.1) (C.2.2.2.2.1 _ hlk) hm.1.2.2 hRR, C.2.2.2.2.1 _ hm.2.1, C.2.2.2.2.1 _ hm.2.2⟩ ⟨bf_blindG _ _ _ _ _ _ _, va_recv C.2.2.2.2.2.1 hPc hcl (bf_cw_some hrw), hpre⟩ rfl (by rw [List.length_map]; exact hnp) hL.1 rfl (lv_room (by rw [bf_rest]; exact hroom)) hd.1 ⟨hR.2.2.1, hR.2.2.2⟩
  obtain ⟨hd1, hd2⟩ := hd
  subst hd2
  refine va_calli hrun hS (fun q _ h => hFc q h) hFc (fun r u t H1 locs1 ht hvm hw hB hz1 hk1 hS1 => ?_)
  obtain ⟨hP1, hK1, hD1⟩ := hB
  rw [ht] at hP1
  have hP2 := bf_back hP hD hs hnd (hwl u) hk1 hP1
  rw [hput] at hP2
  exact kk r u hw H1 locs1 ls hP2 (bf_D_len hD (by rw [← hput, bf_put_len])) hS1 hL
end BFGC
/-! THE LAW'S OWN ROWS -/
section BFLAW
def bf_law (X : bf_X) (b : Nat) : Prop := xR X = room_1 ∧ xa X = #[Value.ref b] ∧ xk X = 89 ∧ xn X = 9984 ∧ (∀ q, xA X q → (xs X).heap.size ≤ q) ∧ b < (xs X).heap.size ∧ xal X 1000 = b
variable {X : bf_X} {Q : State → Prop} {own : String} {cc : ByteArray} {nL : Nat} {rt : Option FieldType} {pc pc2 : Nat} {lv : bf_V} {st : List Value} {w : bf_W} {b L : Nat} {scr : Nat → Int32}
theorem bs_sld (C : bf_C X own cc nL rt) (hX : va_X b L scr (xs X) (xs X).heap) (hW : bf_law X b) (hd : bf_D cc pc .iaload 1 pc2) {i : Int32} (hin : vp_in i L) (k : bf_A X Q nL pc2 lv (.int (scr i.toNatClampNeg) :: st) w) : bf_A X Q nL pc lv (.int i :: .ref 1000 :: st) w := by
  intro H locs ls hP hD hS hL
  obtain ⟨hd, rfl⟩ := hd
  have h := va_sld (rest := st.map (bf_cv (xal X))) C.1 C.2.1 hX hW.2.2.2.2.2.1 (fun z => Nat.not_le.mpr hW.2.2.2.2.2.1 (hW.2.2.2.2.1 _ z)) hS hin hd (k H locs ls hP hD hS hL)
  rw [← hW.2.2.2.2.2.2] at h
  exact h
theorem bs_slen (C : bf_C X own cc nL rt) (hX : va_X b L scr (xs X) (xs X).heap) (hW : bf_law X b) (hd : bf_D cc pc .arraylength 1 pc2) (k : bf_A X Q nL pc2 lv (.int (Int32.ofNat L) :: st) w) : bf_A X Q nL pc lv (.ref 1000 :: st) w := by
  intro H locs ls hP hD hS hL
  obtain ⟨hd, rfl⟩ := hd
  have h := va_slen (rest := st.map (bf_cv (xal X))) C.1 C.2.1 hX hW.2.2.2.2.2.1 (fun z => Nat.not_le.mpr hW.2.2.2.2.2.1 (hW.2.2.2.2.1 _ z)) hS hd (k H locs ls hP hD hS hL)
  rw [← hW.2.2.2.2.2.2] at h
  exact h
theorem bs_lawret (C : bf_C X R_law code nL ret) (hW : bf_law X b) (hd : bf_D code pc .ireturn 1 pc2) : bf_A X (lw_Z (xb X) (xa X) (xs X)) nL pc lv [.int 1] w := by
  intro H locs ls hP hD hS hL
  obtain ⟨p, l, e, R, s, m, a, below, meth, c, dC, dI, ac, al, A, k, n⟩ := X
  obtain ⟨h1, h2, h3, h4, h5, h6, h7⟩ := hW
  change R = room_1 at h1
  change a = #[Value.ref b] at h2
  change k = 89 at h3
  change n = 9984 at h4
  subst h1; subst h2; subst h3; subst h4
  exact va_forget (fun q hq => h5 _ (hS.2.2 q hq)) (lw_ret C.1 C.2.1 C.2.2.2.2.2.2.2.1 C.2.2.2.2.2.2.2.2.1 hd.1)
end BFLAW

/-! Decode rows of a long code by one walk along its bytes. -/
theorem bf_u1_of {cc : ByteArray} {p : Nat} {b : UInt8} {r : List UInt8} (h : cc.data.toList.drop p = b :: r) : (Jvm.ClassFile.Reader.u1 : Jvm.ClassFile.Decoder Nat) cc p = .ok (b.toNat, p + 1) := by
  have hl : p < cc.data.toList.length := by
    have h1 : (cc.data.toList.drop p).length = r.length + 1 := by rw [h]; rfl
    rw [List.length_drop] at h1
    omega
  have hl' : p < cc.size := hl
  have hg : cc[p]'hl' = b := by
    have h1 : cc.data.toList[p]? = some b := by rw [← List.head?_drop, h]; rfl
    have h2 : cc.data.toList[p]'hl = b := by rw [List.getElem?_eq_getElem hl] at h1; exact Option.some.inj h1
    exact h2
  have e : (Jvm.ClassFile.Reader.u1 : Jvm.ClassFile.Decoder Nat) cc p = (if h : p < cc.size then (do set (p + 1); pure cc[p].toNat : Jvm.ClassFile.Decoder Nat) else throw (Jvm.ClassFile.HasTruncated.truncated p)) cc p := rfl
  rw [e, dif_pos hl', hg]; rfl
theorem bf_dc {cc : ByteArray} {p q : Nat} {i : Instr} (h : (Jvm.ClassFile.Decoder.instr p) cc p = .ok (i, q)) : decode cc p = .ok (i, q - p) := by
  unfold decode
  have h1 : (Jvm.ClassFile.Decoder.instr p).runAt cc p = .ok (i, q) := h
  rw [h1]; rfl
theorem bf_dtail {l r : List UInt8} {p : Nat} {b : UInt8} (h : l.drop p = b :: r) : l.drop (p + 1) = r := by
  rw [← List.drop_drop, h]; rfl
def bf_o1 : Nat → Option Instr
  | 1 => some .aconst_null
  | 2 => some (.iconst (-1))
  | 3 => some (.iconst 0)
  | 4 => some (.iconst 1)
  | 5 => some (.iconst 2)
  | 6 => some (.iconst 3)
  | 7 => some (.iconst 4)
  | 8 => some (.iconst 5)
  | 9 => some (.lconst 0)
  | 10 => some (.lconst 1)
  | 26 => some (.iload_n 0)
  | 27 => some (.iload_n 1)
  | 28 => some (.iload_n 2)
  | 29 => some (.iload_n 3)
  | 30 => some (.lload_n 0)
  | 31 => some (.lload_n 1)
  | 32 => some (.lload_n 2)
  | 33 => some (.lload_n 3)
  | 42 => some (.aload_n 0)
  | 43 => some (.aload_n 1)
  | 44 => some (.aload_n 2)
  | 45 => some (.aload_n 3)
  | 46 => some .iaload
  | 47 => some .laload
  | 52 => some .caload
  | 59 => some (.istore_n 0)
  | 60 => some (.istore_n 1)
  | 61 => some (.istore_n 2)
  | 62 => some (.istore_n 3)
  | 63 => some (.lstore_n 0)
  | 64 => some (.lstore_n 1)
  | 65 => some (.lstore_n 2)
  | 66 => some (.lstore_n 3)
  | 79 => some .iastore
  | 80 => some .lastore
  | 87 => some .pop
  | 88 => some .pop2
  | 89 => some .dup
  | 92 => some .dup2
  | 96 => some .iadd
  | 97 => some .ladd
  | 100 => some .isub
  | 101 => some .lsub
  | 104 => some .imul
  | 108 => some .idiv
  | 112 => some .irem
  | 120 => some .ishl
  | 121 => some .lshl
  | 122 => some .ishr
  | 124 => some .iushr
  | 125 => some .lushr
  | 126 => some .iand
  | 127 => some .land
  | 128 => some .ior
  | 129 => some .lor
  | 130 => some .ixor
  | 131 => some .lxor
  | 133 => some .i2l
  | 136 => some .l2i
  | 146 => some .i2c
  | 148 => some .lcmp
  | 172 => some .ireturn
  | 173 => some .lreturn
  | 176 => some .areturn
  | 177 => some .return_
  | 190 => some .arraylength
  | 191 => some .athrow
  | _ => none
def bf_o2u : Nat → Option (Nat → Instr)
  | 18 => some .ldc
  | 21 => some .iload
  | 22 => some .lload
  | 25 => some .aload
  | 54 => some .istore
  | 55 => some .lstore
  | 58 => some .astore
  | _ => none
def bf_o3u : Nat → Option (Nat → Instr)
  | 19 => some .ldc_w
  | 20 => some .ldc2_w
  | 178 => some .getstatic
  | 179 => some .putstatic
  | 180 => some .getfield
  | 181 => some .putfield
  | 182 => some .invokevirtual
  | 183 => some .invokespecial
  | 184 => some .invokestatic
  | 187 => some .new
  | 192 => some .checkcast
  | _ => none
def bf_o3s : Nat → Option (Int → Instr)
  | 17 => some .sipush
  | 153 => some (.ifCond .eq)
  | 154 => some (.ifCond .ne)
  | 155 => some (.ifCond .lt)
  | 156 => some (.ifCond .ge)
  | 157 => some (.ifCond .gt)
  | 158 => some (.ifCond .le)
  | 159 => some (.if_icmp .eq)
  | 160 => some (.if_icmp .ne)
  | 161 => some (.if_icmp .lt)
  | 162 => some (.if_icmp .ge)
  | 163 => some (.if_icmp .gt)
  | 164 => some (.if_icmp .le)
  | 167 => some .goto
  | _ => none
theorem bf_u2_of {cc : ByteArray} {p : Nat} {b c : UInt8} {r : List UInt8} (h : cc.data.toList.drop p = b :: c :: r) : (Jvm.ClassFile.Reader.u2 : Jvm.ClassFile.Decoder Nat) cc p = .ok (b.toNat * 256 + c.toNat, p + 2) := by
  have h1 := bf_u1_of h
  have h2 := bf_u1_of (bf_dtail h)
  have e : (Jvm.ClassFile.Reader.u2 : Jvm.ClassFile.Decoder Nat) cc p = Except.bind ((Jvm.ClassFile.Reader.u1 : Jvm.ClassFile.Decoder Nat) cc p) (fun q => Except.bind ((Jvm.ClassFile.Reader.u1 : Jvm.ClassFile.Decoder Nat) cc q.2) (fun q2 => .ok (q.1 * 256 + q2.1, q2.2))) := rfl
  rw [e, h1]
  show Except.bind ((Jvm.ClassFile.Reader.u1 : Jvm.ClassFile.Decoder Nat) cc (p + 1)) _ = _
  rw [h2]; rfl
theorem bf_e1 {cc : ByteArray} {p n : Nat} (hu : (Jvm.ClassFile.Reader.u1 : Jvm.ClassFile.Decoder Nat) cc p = .ok (n, p + 1)) (F : Nat → Jvm.ClassFile.Decoder Instr) : ((Jvm.ClassFile.Reader.u1 : Jvm.ClassFile.Decoder Nat) >>= F) cc p = F n cc (p + 1) := by
  show Except.bind ((Jvm.ClassFile.Reader.u1 : Jvm.ClassFile.Decoder Nat) cc p) (fun q => F q.1 cc q.2) = _
  rw [hu]; rfl
theorem bf_e2 {cc : ByteArray} {p n m : Nat} (hu : (Jvm.ClassFile.Reader.u1 : Jvm.ClassFile.Decoder Nat) cc p = .ok (n, p + 1)) (hv : (Jvm.ClassFile.Reader.u1 : Jvm.ClassFile.Decoder Nat) cc (p + 1) = .ok (m, p + 2)) (G : Nat → Instr) : ((do pure (G (← Jvm.ClassFile.Reader.u1)) : Jvm.ClassFile.Decoder Instr)) cc (p + 1) = .ok (G m, p + 2) := by
  show Except.bind ((Jvm.ClassFile.Reader.u1 : Jvm.ClassFile.Decoder Nat) cc (p + 1)) (fun q => .ok (G q.1, q.2)) = _
  rw [hv]; rfl
theorem bf_e2s {cc : ByteArray} {p n m : Nat} (hu : (Jvm.ClassFile.Reader.u1 : Jvm.ClassFile.Decoder Nat) cc p = .ok (n, p + 1)) (hv : (Jvm.ClassFile.Reader.u1 : Jvm.ClassFile.Decoder Nat) cc (p + 1) = .ok (m, p + 2)) (G : Int → Instr) : ((do pure (G (← Jvm.ClassFile.Reader.s1)) : Jvm.ClassFile.Decoder Instr)) cc (p + 1) = .ok (G (Jvm.ClassFile.Reader.signed 8 m), p + 2) := by
  show Except.bind (Except.bind ((Jvm.ClassFile.Reader.u1 : Jvm.ClassFile.Decoder Nat) cc (p + 1)) (fun q => .ok (Jvm.ClassFile.Reader.signed 8 q.1, q.2))) (fun q => .ok (G q.1, q.2)) = _
  rw [hv]; rfl
theorem bf_e3 {cc : ByteArray} {p n m : Nat} (hu : (Jvm.ClassFile.Reader.u1 : Jvm.ClassFile.Decoder Nat) cc p = .ok (n, p + 1)) (hv : (Jvm.ClassFile.Reader.u2 : Jvm.ClassFile.Decoder Nat) cc (p + 1) = .ok (m, p + 3)) (G : Nat → Instr) : ((do pure (G (← Jvm.ClassFile.Reader.u2)) : Jvm.ClassFile.Decoder Instr)) cc (p + 1) = .ok (G m, p + 3) := by
  show Except.bind ((Jvm.ClassFile.Reader.u2 : Jvm.ClassFile.Decoder Nat) cc (p + 1)) (fun q => .ok (G q.1, q.2)) = _
  rw [hv]; rfl
theorem bf_e3s {cc : ByteArray} {p n m : Nat} (hu : (Jvm.ClassFile.Reader.u1 : Jvm.ClassFile.Decoder Nat) cc p = .ok (n, p + 1)) (hv : (Jvm.ClassFile.Reader.u2 : Jvm.ClassFile.Decoder Nat) cc (p + 1) = .ok (m, p + 3)) (G : Int → Instr) : ((do pure (G (← Jvm.ClassFile.Reader.s2)) : Jvm.ClassFile.Decoder Instr)) cc (p + 1) = .ok (G (Jvm.ClassFile.Reader.signed 16 m), p + 3) := by
  show Except.bind (Except.bind ((Jvm.ClassFile.Reader.u2 : Jvm.ClassFile.Decoder Nat) cc (p + 1)) (fun q => .ok (Jvm.ClassFile.Reader.signed 16 q.1, q.2))) (fun q => .ok (G q.1, q.2)) = _
  rw [hv]; rfl
theorem bf_e3i {cc : ByteArray} {p n a b : Nat} (hu : (Jvm.ClassFile.Reader.u1 : Jvm.ClassFile.Decoder Nat) cc p = .ok (n, p + 1)) (hv : (Jvm.ClassFile.Reader.u1 : Jvm.ClassFile.Decoder Nat) cc (p + 1) = .ok (a, p + 2)) (hw : (Jvm.ClassFile.Reader.u1 : Jvm.ClassFile.Decoder Nat) cc (p + 2) = .ok (b, p + 3)) (G : Nat → Int → Instr) : ((do pure (G (← Jvm.ClassFile.Reader.u1) (← Jvm.ClassFile.Reader.s1)) : Jvm.ClassFile.Decoder Instr)) cc (p + 1) = .ok (G a (Jvm.ClassFile.Reader.signed 8 b), p + 3) := by
  show Except.bind ((Jvm.ClassFile.Reader.u1 : Jvm.ClassFile.Decoder Nat) cc (p + 1)) (fun q => Except.bind (Except.bind ((Jvm.ClassFile.Reader.u1 : Jvm.ClassFile.Decoder Nat) cc q.2) (fun q2 => .ok (Jvm.ClassFile.Reader.signed 8 q2.1, q2.2))) (fun q2 => .ok (G q.1 q2.1, q2.2))) = _
  rw [hv]
  show Except.bind (Except.bind ((Jvm.ClassFile.Reader.u1 : Jvm.ClassFile.Decoder Nat) cc (p + 2)) _) _ = _
  rw [hw]; rfl
theorem bf_o1_ok {cc : ByteArray} {p n : Nat} {i : Instr} (h : bf_o1 n = some i) (hu : (Jvm.ClassFile.Reader.u1 : Jvm.ClassFile.Decoder Nat) cc p = .ok (n, p + 1)) : (Jvm.ClassFile.Decoder.instr p) cc p = .ok (i, p + 1) := by
  unfold Jvm.ClassFile.Decoder.instr
  refine (bf_e1 hu _).trans ?_
  unfold bf_o1 at h
  split at h <;> first | (cases h; rfl) | cases h
theorem bf_o2u_ok {cc : ByteArray} {p n m : Nat} {g : Nat → Instr} (h : bf_o2u n = some g) (hu : (Jvm.ClassFile.Reader.u1 : Jvm.ClassFile.Decoder Nat) cc p = .ok (n, p + 1)) (hv : (Jvm.ClassFile.Reader.u1 : Jvm.ClassFile.Decoder Nat) cc (p + 1) = .ok (m, p + 2)) : (Jvm.ClassFile.Decoder.instr p) cc p = .ok (g (m), p + 2) := by
  unfold Jvm.ClassFile.Decoder.instr
  refine (bf_e1 hu _).trans ?_
  unfold bf_o2u at h
  split at h <;> first | (cases h; exact bf_e2 hu hv _) | cases h
theorem bf_o3u_ok {cc : ByteArray} {p n m : Nat} {g : Nat → Instr} (h : bf_o3u n = some g) (hu : (Jvm.ClassFile.Reader.u1 : Jvm.ClassFile.Decoder Nat) cc p = .ok (n, p + 1)) (hv : (Jvm.ClassFile.Reader.u2 : Jvm.ClassFile.Decoder Nat) cc (p + 1) = .ok (m, p + 3)) : (Jvm.ClassFile.Decoder.instr p) cc p = .ok (g (m), p + 3) := by
  unfold Jvm.ClassFile.Decoder.instr
  refine (bf_e1 hu _).trans ?_
  unfold bf_o3u at h
  split at h <;> first | (cases h; exact bf_e3 hu hv _) | cases h
theorem bf_o3s_ok {cc : ByteArray} {p n m : Nat} {g : Int → Instr} (h : bf_o3s n = some g) (hu : (Jvm.ClassFile.Reader.u1 : Jvm.ClassFile.Decoder Nat) cc p = .ok (n, p + 1)) (hv : (Jvm.ClassFile.Reader.u2 : Jvm.ClassFile.Decoder Nat) cc (p + 1) = .ok (m, p + 3)) : (Jvm.ClassFile.Decoder.instr p) cc p = .ok (g (Jvm.ClassFile.Reader.signed 16 m), p + 3) := by
  unfold Jvm.ClassFile.Decoder.instr
  refine (bf_e1 hu _).trans ?_
  unfold bf_o3s at h
  split at h <;> first | (cases h; exact bf_e3s hu hv _) | cases h
theorem bf_o16_ok {cc : ByteArray} {p m : Nat} (hu : (Jvm.ClassFile.Reader.u1 : Jvm.ClassFile.Decoder Nat) cc p = .ok (16, p + 1)) (hv : (Jvm.ClassFile.Reader.u1 : Jvm.ClassFile.Decoder Nat) cc (p + 1) = .ok (m, p + 2)) : (Jvm.ClassFile.Decoder.instr p) cc p = .ok (.bipush (Jvm.ClassFile.Reader.signed 8 m), p + 2) := by
  unfold Jvm.ClassFile.Decoder.instr
  exact (bf_e1 hu _).trans (bf_e2s hu hv _)
theorem bf_o132_ok {cc : ByteArray} {p a b : Nat} (hu : (Jvm.ClassFile.Reader.u1 : Jvm.ClassFile.Decoder Nat) cc p = .ok (132, p + 1)) (hv : (Jvm.ClassFile.Reader.u1 : Jvm.ClassFile.Decoder Nat) cc (p + 1) = .ok (a, p + 2)) (hw : (Jvm.ClassFile.Reader.u1 : Jvm.ClassFile.Decoder Nat) cc (p + 2) = .ok (b, p + 3)) : (Jvm.ClassFile.Decoder.instr p) cc p = .ok (.iinc a (Jvm.ClassFile.Reader.signed 8 b), p + 3) := by
  unfold Jvm.ClassFile.Decoder.instr
  exact (bf_e1 hu _).trans (bf_e3i hu hv hw _)
def bf_m1 (l : List UInt8) (i : Instr) : Nat → Bool
  | 1 => match l with
    | a :: _ => decide (bf_o1 a.toNat = some i)
    | _ => false
  | 2 => match l with
    | a :: b :: _ => (match bf_o2u a.toNat with
      | some g => decide (g b.toNat = i)
      | none => Nat.beq a.toNat 16 && decide (Instr.bipush (Jvm.ClassFile.Reader.signed 8 b.toNat) = i))
    | _ => false
  | 3 => match l with
    | a :: b :: c :: _ => (match bf_o3s a.toNat with
      | some g => decide (g (Jvm.ClassFile.Reader.signed 16 (b.toNat * 256 + c.toNat)) = i)
      | none => match bf_o3u a.toNat with
        | some g => decide (g (b.toNat * 256 + c.toNat) = i)
        | none => Nat.beq a.toNat 132 && decide (Instr.iinc b.toNat (Jvm.ClassFile.Reader.signed 8 c.toNat) = i))
    | _ => false
  | _ => false
theorem bf_fin {cc : ByteArray} {p n : Nat} {i : Instr} (h : (Jvm.ClassFile.Decoder.instr p) cc p = .ok (i, p + n)) : decode cc p = .ok (i, n) := by
  rw [bf_dc h]; congr 2; omega
theorem bf_m1_ok {cc : ByteArray} {l : List UInt8} {p n : Nat} {i : Instr} (hl : cc.data.toList.drop p = l) (h : bf_m1 l i n = true) : decode cc p = .ok (i, n) := by
  unfold bf_m1 at h
  split at h
  · split at h
    · exact bf_fin (bf_o1_ok (of_decide_eq_true h) (bf_u1_of hl))
    · cases h
  · split at h
    · have hu := bf_u1_of hl
      have hv := bf_u1_of (bf_dtail hl)
      split at h
      · next g hg => exact of_decide_eq_true h ▸ bf_fin (bf_o2u_ok hg hu hv)
      · rw [Bool.and_eq_true] at h
        rw [Nat.eq_of_beq_eq_true h.1] at hu
        exact of_decide_eq_true h.2 ▸ bf_fin (bf_o16_ok hu hv)
    · cases h
  · split at h
    · have hu := bf_u1_of hl
      have hv := bf_u2_of (bf_dtail hl)
      split at h
      · next g hg => exact of_decide_eq_true h ▸ bf_fin (bf_o3s_ok hg hu hv)
      · split at h
        · next g hg => exact of_decide_eq_true h ▸ bf_fin (bf_o3u_ok hg hu hv)
        · rw [Bool.and_eq_true] at h
          rw [Nat.eq_of_beq_eq_true h.1] at hu
          exact of_decide_eq_true h.2 ▸ bf_fin (bf_o132_ok hu (bf_u1_of (bf_dtail hl)) (bf_u1_of (bf_dtail (bf_dtail hl))))
    · cases h
  · cases h
def bf_wk (cc : ByteArray) : List UInt8 → Nat → List (Nat × Instr × Nat × Nat) → Bool
  | _, _, [] => true
  | l, p, (q, i, n, q2) :: L => Nat.beq p q && (Nat.beq (p + n) q2 && ((bf_m1 l i n || decide (decode cc q = .ok (i, n))) && bf_wk cc (l.drop n) (p + n) L))
theorem bf_wk_ok {cc : ByteArray} : ∀ (L : List (Nat × Instr × Nat × Nat)) (l : List UInt8) (p : Nat), cc.data.toList.drop p = l → bf_wk cc l p L = true → bf_ok cc L = true
  | [], _, _, _, _ => rfl
  | (q, i, n, q2) :: L, l, p, hl, h => by
    simp only [bf_wk, Bool.and_eq_true, Bool.or_eq_true, decide_eq_true_eq] at h
    obtain ⟨hq, hn, hd, ht⟩ := h
    have hq := Nat.eq_of_beq_eq_true hq
    subst hq
    have hd' : decode cc p = .ok (i, n) := hd.elim (bf_m1_ok hl) id
    have ih := bf_wk_ok L (l.drop n) (p + n) (by rw [← hl, List.drop_drop]) ht
    unfold bf_ok at ih ⊢
    simp only [List.all_cons, Bool.and_eq_true, decide_eq_true_eq]
    exact ⟨⟨hd', hn⟩, ih⟩
theorem bf_walk {cc : ByteArray} {L : List (Nat × Instr × Nat × Nat)} (p : Nat) (h : bf_wk cc (cc.data.toList.drop p) p L = true) : bf_ok cc L = true := bf_wk_ok L _ p rfl h

