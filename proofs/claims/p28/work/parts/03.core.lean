/-! THE THIN LAYER: worlds by places. A value's 'ref' is a place; al gives the address of a place, ac the class of an array's kind (0 int, 1 long, 2 char). -/
abbrev bf_E : Type := (Nat × vp_A) ⊕ (Nat × List Value)
abbrev bf_W : Type := List bf_E
def bf_cv (al : Nat → Nat) : Value → Value
  | .ref i => .ref (al i)
  | .int x => .int x
  | .long x => .long x
  | .null => .null
  | .float x => .float x
  | .double x => .double x
  | .retAddr x => .retAddr x
theorem bf_cv_cat (al : Nat → Nat) (v : Value) : (bf_cv al v).category = v.category := by cases v <;> rfl
def bf_ce (ac : Nat → ClassId) (al : Nat → Nat) : bf_E → va_E
  | .inl a => .inl (ac a.1, a.2)
  | .inr o => .inr (o.1, o.2.map (bf_cv al))
def bf_cw (ac : Nat → ClassId) (al : Nat → Nat) (w : bf_W) : va_W := w.mapIdx (fun i e => (al i, bf_ce ac al e))
theorem bf_cw_get (ac : Nat → ClassId) (al : Nat → Nat) (w : bf_W) (i : Nat) : (bf_cw ac al w)[i]? = (w[i]?).map (fun e => (al i, bf_ce ac al e)) := by
  simp [bf_cw]
theorem bf_cw_some {ac : Nat → ClassId} {al : Nat → Nat} {w : bf_W} {i : Nat} {e : bf_E} (h : w[i]? = some e) : (bf_cw ac al w)[i]? = some (al i, bf_ce ac al e) := by
  rw [bf_cw_get, h]; rfl
theorem bf_cw_set (ac : Nat → ClassId) (al : Nat → Nat) (w : bf_W) (i : Nat) (e : bf_E) : (bf_cw ac al w).set i (al i, bf_ce ac al e) = bf_cw ac al (w.set i e) := by
  apply List.ext_getElem?
  intro j
  rw [bf_cw_get, List.getElem?_set, List.getElem?_set]
  by_cases h : i = j
  · subst h
    simp [bf_cw]
  · simp [h, bf_cw_get]
theorem bf_cw_len (ac : Nat → ClassId) (al : Nat → Nat) (w : bf_W) : (bf_cw ac al w).length = w.length := by simp [bf_cw]
/-- locals: a list, none where nothing is known -/
abbrev bf_V : Type := List (Option Value)
def bf_L (al : Nat → Nat) (ls : Array Slot) (nL : Nat) (lv : bf_V) : Prop := ls.size = nL ∧ lv_wf ls ∧ ∀ (i : Nat) (v : Value), lv[i]? = some (some v) → ls[i]? = some (.val (bf_cv al v))
def bf_list (al : Nat → Nat) (nL : Nat) (lv : bf_V) : List (Nat × Value) := (List.range nL).filterMap (fun i => match lv[i]? with | some (some v) => some (i, bf_cv al v) | _ => none)
theorem bf_list_mem {al : Nat → Nat} {nL : Nat} {lv : bf_V} {i : Nat} {v : Value} (h : lv[i]? = some (some v)) (hi : i < nL) : (i, bf_cv al v) ∈ bf_list al nL lv := by
  refine List.mem_filterMap.mpr ⟨i, List.mem_range.mpr hi, ?_⟩
  rw [h]
theorem bf_list_of {al : Nat → Nat} {nL : Nat} {lv : bf_V} {q : Nat × Value} (h : q ∈ bf_list al nL lv) : ∃ v, lv[q.1]? = some (some v) ∧ q.2 = bf_cv al v := by
  obtain ⟨i, -, hi⟩ := List.mem_filterMap.mp h
  split at hi
  · rename_i v hv
    cases hi
    exact ⟨v, hv, rfl⟩
  · cases hi
theorem bf_has {al : Nat → Nat} {ls : Array Slot} {nL : Nat} {lv : bf_V} (h : bf_L al ls nL lv) : lv_has ls nL (bf_list al nL lv) :=
  ⟨h.1, h.2.1, fun q hq => by obtain ⟨v, h1, h2⟩ := bf_list_of hq; rw [h2]; exact h.2.2 _ _ h1⟩
/-- a local that is cut by a store right behind it -/
def bf_cut (lv : bf_V) (i : Nat) : bf_V := match i with
  | 0 => lv
  | k + 1 => match lv[k]? with
    | some (some (.long _)) => lv.set k none
    | some (some (.double _)) => lv.set k none
    | _ => lv
theorem bf_cut_get {lv : bf_V} {i j : Nat} {v : Value} (h : (bf_cut lv i)[j]? = some (some v)) : lv[j]? = some (some v) ∧ ¬ (j + 1 = i ∧ v.category = 2) := by
  unfold bf_cut at h
  split at h
  · exact ⟨h, fun q => by omega⟩
  · rename_i k
    split at h
    · by_cases hj : k = j
      · subst hj
        rw [List.getElem?_set] at h
        simp at h
      · rw [List.getElem?_set, if_neg hj] at h
        exact ⟨h, fun q => hj (by omega)⟩
    · by_cases hj : k = j
      · subst hj
        rw [List.getElem?_set] at h
        simp at h
      · rw [List.getElem?_set, if_neg hj] at h
        exact ⟨h, fun q => hj (by omega)⟩
    · rename_i h1 h2
      refine ⟨h, fun q => ?_⟩
      have hk : k = j := by omega
      subst hk
      cases v <;> first | exact h1 _ h | exact h2 _ h | (have z := q.2; simp [Value.category] at z; done)
def bf_st1 (lv : bf_V) (i : Nat) (v : Value) : bf_V := (bf_cut lv i).set i (some v)
def bf_st2 (lv : bf_V) (i : Nat) (v : Value) : bf_V := ((bf_cut lv i).set (i + 1) none).set i (some v)
theorem bf_L1 {al : Nat → Nat} {ls' : Array Slot} {nL i : Nat} {lv : bf_V} {v : Value} (hv : v.category = 1) (hls : ls'.size = nL)
    (h : lv_has ls' nL ((i, bf_cv al v) :: (bf_list al nL lv).filter (fun q => !(q.1 == i) && !(q.1 + 1 == i && q.2.category == 2)))) (hlen : lv.length ≤ nL) : bf_L al ls' nL (bf_st1 lv i v) := by
  refine ⟨h.1, h.2.1, fun j u hj => ?_⟩
  unfold bf_st1 at hj
  rw [List.getElem?_set] at hj
  by_cases hij : i = j
  · subst hij
    rw [if_pos rfl] at hj
    split at hj
    · cases hj
      exact h.2.2 (i, bf_cv al v) List.mem_cons_self
    · cases hj
  · rw [if_neg hij] at hj
    obtain ⟨h1, h2⟩ := bf_cut_get hj
    have hlt : j < nL := by
      have := (List.getElem?_eq_some_iff.mp h1).1
      omega
    refine h.2.2 (j, bf_cv al u) (List.mem_cons_of_mem _ (List.mem_filter.mpr ⟨bf_list_mem h1 hlt, ?_⟩))
    simp only [Bool.and_eq_true, Bool.not_eq_true', beq_eq_false_iff_ne, ne_eq, Bool.and_eq_false_iff, bf_cv_cat]
    refine ⟨fun q => hij q.symm, ?_⟩
    by_cases hq : j + 1 = i
    · exact Or.inr (fun z => h2 ⟨hq, z⟩)
    · exact Or.inl hq
theorem bf_L2 {al : Nat → Nat} {ls' : Array Slot} {nL i : Nat} {lv : bf_V} {v : Value} (hv : v.category = 2) (hls : ls'.size = nL)
    (h : lv_has ls' nL ((i, bf_cv al v) :: (bf_list al nL lv).filter (fun q => !(q.1 == i) && (!(q.1 == i + 1) && !(q.1 + 1 == i && q.2.category == 2))))) (hlen : lv.length ≤ nL) : bf_L al ls' nL (bf_st2 lv i v) := by
  refine ⟨h.1, h.2.1, fun j u hj => ?_⟩
  unfold bf_st2 at hj
  rw [List.getElem?_set] at hj
  by_cases hij : i = j
  · subst hij
    rw [if_pos rfl] at hj
    split at hj
    · cases hj
      exact h.2.2 (i, bf_cv al v) List.mem_cons_self
    · cases hj
  · rw [if_neg hij, List.getElem?_set] at hj
    by_cases hij2 : i + 1 = j
    · rw [if_pos hij2] at hj
      split at hj <;> cases hj
    · rw [if_neg hij2] at hj
      obtain ⟨h1, h2⟩ := bf_cut_get hj
      have hlt : j < nL := by
        have := (List.getElem?_eq_some_iff.mp h1).1
        omega
      refine h.2.2 (j, bf_cv al u) (List.mem_cons_of_mem _ (List.mem_filter.mpr ⟨bf_list_mem h1 hlt, ?_⟩))
      simp only [Bool.and_eq_true, Bool.not_eq_true', beq_eq_false_iff_ne, ne_eq, Bool.and_eq_false_iff, bf_cv_cat]
      refine ⟨fun q => hij q.symm, fun q => hij2 q.symm, ?_⟩
      by_cases hq : j + 1 = i
      · exact Or.inr (fun z => h2 ⟨hq, z⟩)
      · exact Or.inl hq
/-- fewer locals -/
def bf_sub : bf_V → bf_V → Prop
  | [], _ => True
  | none :: a, [] => bf_sub a []
  | none :: a, _ :: b => bf_sub a b
  | some v :: a, some u :: b => v = u ∧ bf_sub a b
  | some _ :: _, _ => False
theorem bf_sub_nil : ∀ (a : bf_V), bf_sub a [] → ∀ (i : Nat) (v : Value), ¬ a[i]? = some (some v)
  | [], _, i, v, h => by simp at h
  | none :: a, h, 0, v, h1 => by simp at h1
  | none :: a, h, i + 1, v, h1 => bf_sub_nil a h i v (by simpa using h1)
  | some _ :: a, h, i, v, h1 => by simp [bf_sub] at h
theorem bf_sub_get : ∀ (a b : bf_V), bf_sub a b → ∀ (i : Nat) (v : Value), a[i]? = some (some v) → b[i]? = some (some v)
  | [], _, _, i, v, h => by simp at h
  | none :: a, [], h, i, v, h1 => absurd h1 (bf_sub_nil (none :: a) h i v)
  | none :: a, _ :: b, h, 0, v, h1 => by simp at h1
  | none :: a, _ :: b, h, i + 1, v, h1 => by simpa using bf_sub_get a b h i v (by simpa using h1)
  | some w :: a, some u :: b, h, 0, v, h1 => by
    obtain ⟨rfl, -⟩ := h
    simpa using h1
  | some w :: a, some u :: b, h, i + 1, v, h1 => by simpa using bf_sub_get a b h.2 i v (by simpa using h1)
  | some w :: a, [], h, i, v, h1 => by simp [bf_sub] at h
  | some w :: a, none :: b, h, i, v, h1 => by simp [bf_sub] at h
theorem bf_L.weak {al : Nat → Nat} {ls : Array Slot} {nL : Nat} {lv lv' : bf_V} (h : bf_L al ls nL lv) (hs : bf_sub lv' lv) : bf_L al ls nL lv' :=
  ⟨h.1, h.2.1, fun i v hi => h.2.2 i v (bf_sub_get lv' lv hs i v hi)⟩

