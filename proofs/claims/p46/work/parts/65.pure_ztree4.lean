theorem PLR_skip {n : Nat} {C : Nat → Nat} {po lp : Nat → Int32} {b d : Nat} (h : PLR n C po lp b) (hn : ∀ w, b ≤ w → w < d → ¬ IsL n C w) : PLR n C po lp d := by
  intro w z hw hL hz
  by_cases y : w < b
  · exact h w z y hL hz
  · exact absurd hL (hn w (by omega) hw)
theorem PLR_add {n : Nat} {C : Nat → Nat} {po lp : Nat → Int32} {b m i : Nat} {x r : Int32} (h : PLR n C po lp b) (hL : IsL n C b) (hm : (m : Int) = LB n C b) (hi : b % 64 = i) (hx : x.toInt = (m : Int)) (hr : r.toInt = (i : Int)) : PLR n C (upd po i x) (upd lp m r) (b + 1) := by
  intro w z hw hL2 hz
  by_cases y : w = b
  · rw [y] at hz ⊢
    have ez : z = m := by omega
    rw [ez, hi, up_s, up_s]
    exact ⟨by omega, hr⟩
  · have lt : LB n C w < LB n C b := CTP_lt (by omega) hL2
    have ne : w % 64 ≠ i := by
      intro q
      have a := hL.2
      have c := hL2.2
      rw [hi] at a
      rw [q] at c
      omega
    rw [up_n ne, up_n (show z ≠ m by omega)]
    exact h w z (by omega) hL2 hz
/-! rows of bits: what is laid of them -/
def IsO (ro n : Nat) (C L : Nat → Nat) (P : Nat → Nat → Nat) (u w : Nat) : Prop := (ro = 0 ∧ w < 64 * u ∧ IsB n C L P w) ∨ (ro = 1 ∧ w < 64 * u ∧ IsK n C P w) ∨ (ro = 2 ∧ w < 64 * u ∧ IsD n C L P w) ∨ (ro = 3 ∧ 64 * u ≤ w ∧ IsD n C L P w) ∨ (ro = 4 ∧ 64 * u ≤ w ∧ IsK n C P w) ∨ (ro = 5 ∧ 64 * u ≤ w ∧ IsN n C P w)
noncomputable def VO (ro n : Nat) (C : Nat → Nat) (P : Nat → Nat → Nat) (f : Nat → Int64) (u w : Nat) : Int := if ro ≤ 1 then 256 * (NB n C P (w + 1) - 1) + (OCT (f (w % 64)) (nI (w / 64))).toInt else if ro = 2 then NB n C P (w + 1) - 1 else EB n C P w - EB n C P (64 * u)
noncomputable def RL (ro n : Nat) (C : Nat → Nat) (P : Nat → Nat → Nat) (u : Nat) : Int := if ro ≤ 1 then 256 * NB n C P (64 * u) else if ro = 2 then NB n C P (64 * u) else EB n C P 512 - EB n C P (64 * u)
noncomputable def OB (ro n : Nat) (C L : Nat → Nat) (P : Nat → Nat → Nat) (u w : Nat) : Int := CTP (IsO ro n C L P u) w
def OAR (ro n : Nat) (C L : Nat → Nat) (P : Nat → Nat → Nat) (f : Nat → Int64) (u : Nat) (om rl : Int32) (on : Nat → Int32) : Prop := om.toInt = OB ro n C L P u 512 ∧ rl.toInt = RL ro n C P u ∧ ∀ w : Nat, w < 512 → IsO ro n C L P u w → (on (OB ro n C L P u w).toNat).toInt = VO ro n C P f u w
theorem IsO_cg {n : Nat} {C C2 L L2 : Nat → Nat} {P P2 : Nat → Nat → Nat} (eC : ∀ i, i < n → C2 i = C i) (eL : ∀ i, i < n → L2 i = L i) (eE : ∀ w, IsE n C2 P2 w ↔ IsE n C P w) (eN : ∀ w, IsN n C2 P2 w ↔ IsN n C P w) (ro u w : Nat) : IsO ro n C2 L2 P2 u w ↔ IsO ro n C L P u w := by
  unfold IsO IsB IsK IsD
  by_cases hi : w % 64 < n
  · rw [eE, eN, eC _ hi, eL _ hi]
  · have a : ¬ IsE n C P w := fun z => hi z.1
    have b : ¬ IsN n C P w := fun z => hi z.1
    have a2 : ¬ IsE n C2 P2 w := fun z => hi z.1
    have b2 : ¬ IsN n C2 P2 w := fun z => hi z.1
    constructor
    · rintro (h | h | h | h | h | h)
      · exact absurd h.2.2.1 a2
      · exact absurd h.2.2.1 a2
      · exact absurd h.2.2.1 a2
      · exact absurd h.2.2.1 a2
      · exact absurd h.2.2.1 a2
      · exact absurd h.2.2 b2
    · rintro (h | h | h | h | h | h)
      · exact absurd h.2.2.1 a
      · exact absurd h.2.2.1 a
      · exact absurd h.2.2.1 a
      · exact absurd h.2.2.1 a
      · exact absurd h.2.2.1 a
      · exact absurd h.2.2 b
theorem IsO_in {ro n : Nat} {C L : Nat → Nat} {P : Nat → Nat → Nat} {u w : Nat} (h : IsO ro n C L P u w) : w % 64 < n := by
  rcases h with h | h | h | h | h | h
  · exact h.2.2.1.1
  · exact h.2.2.1.1
  · exact h.2.2.1.1
  · exact h.2.2.1.1
  · exact h.2.2.1.1
  · exact h.2.2.1
theorem VO_cg {n : Nat} {C C2 : Nat → Nat} {P P2 : Nat → Nat → Nat} {f f2 : Nat → Int64} (eNB : ∀ w, NB n C2 P2 w = NB n C P w) (eEB : ∀ w, EB n C2 P2 w = EB n C P w) (ef : ∀ i, i < n → f2 i = f i) {ro u w : Nat} (hi : w % 64 < n) : VO ro n C2 P2 f2 u w = VO ro n C P f u w := by
  unfold VO
  rw [eNB, eEB, eEB, ef _ hi]
theorem RL_cg {n : Nat} {C C2 : Nat → Nat} {P P2 : Nat → Nat → Nat} (eNB : ∀ w, NB n C2 P2 w = NB n C P w) (eEB : ∀ w, EB n C2 P2 w = EB n C P w) {ro u : Nat} : RL ro n C2 P2 u = RL ro n C P u := by
  unfold RL
  rw [eNB, eEB, eEB]
theorem OB_cg {n : Nat} {C C2 L L2 : Nat → Nat} {P P2 : Nat → Nat → Nat} (eC : ∀ i, i < n → C2 i = C i) (eL : ∀ i, i < n → L2 i = L i) (eE : ∀ w, IsE n C2 P2 w ↔ IsE n C P w) (eN : ∀ w, IsN n C2 P2 w ↔ IsN n C P w) (ro u w : Nat) : OB ro n C2 L2 P2 u w = OB ro n C L P u w := CTP_congr w (fun i _ => IsO_cg eC eL eE eN ro u i)
theorem OAR_cg {ro n : Nat} {C C2 L L2 : Nat → Nat} {P P2 : Nat → Nat → Nat} {f f2 : Nat → Int64} (eC : ∀ i, i < n → C2 i = C i) (eL : ∀ i, i < n → L2 i = L i) (eE : ∀ w, IsE n C2 P2 w ↔ IsE n C P w) (eN : ∀ w, IsN n C2 P2 w ↔ IsN n C P w) (eNB : ∀ w, NB n C2 P2 w = NB n C P w) (eEB : ∀ w, EB n C2 P2 w = EB n C P w) (ef : ∀ i, i < n → f2 i = f i) {u : Nat} {om rl : Int32} {on : Nat → Int32} (h : OAR ro n C L P f u om rl on) : OAR ro n C2 L2 P2 f2 u om rl on := by
  refine ⟨by rw [OB_cg eC eL eE eN]; exact h.1, by rw [RL_cg eNB eEB]; exact h.2.1, fun w w1 w2 => ?_⟩
  rw [OB_cg eC eL eE eN, VO_cg eNB eEB ef (IsO_in w2)]
  exact h.2.2 w w1 ((IsO_cg eC eL eE eN ro u w).mp w2)
def ODN (S : bT9) : Prop := ∀ ro u : Nat, (b9g_laidFor S).toInt = (ro : Int) → ro ≤ 5 → (b9g_upper S).toInt = (u : Int) → OAR ro (n9 S) (C9 S) (L9 S) (P9 S) (fun j => b9g_keys S (64 + j)) u (b9g_oneMany S) (b9g_rowLong S) (b9g_ones S)
def T9P (S : bT9) : Prop := SR9 S ∧ CLN (fun j => b9g_keys S (64 + j)) (fun j => b9g_lengths S (64 + j)) (b9g_now S 9).toInt ∧ ((b9g_now S 9).toInt = 0 ∨ 0 ≤ (b9g_now S 13 - 1).toInt)
def TD9 (S : bT9) : Prop := N9 S ∧ ∃ u lv : Nat, (b9g_levelMany S).toInt = (lv : Int) ∧ lv ≤ 8 ∧ LEVS (n9 S) (C9 S) (P9 S) (lv : Int) 8 ∧ (b9g_upper S).toInt = (u : Int) ∧ u ≤ lv ∧ UP9 (n9 S) (C9 S) (P9 S) (b9g_now S 13 - 1) (b9g_now S 14) lv u ∧ (b9g_upperNodes S).toInt = NB (n9 S) (C9 S) (P9 S) (64 * u) ∧ (b9g_itemMany S).toInt = EB (n9 S) (C9 S) (P9 S) 512 - EB (n9 S) (C9 S) (P9 S) (64 * u) ∧ IAR (n9 S) (C9 S) (L9 S) (P9 S) (fun j => b9g_keys S (64 + j)) (b9g_itemNode S) (b9g_itemByte S) (b9g_itemChild S) (64 * u) 512 ∧ PLR (n9 S) (C9 S) (b9g_placeOf S) (b9g_leafOfPlace S) 512
def TDW (S : bT9) : Prop := (b9g_areNodesLaid S).toInt ≠ 0 → TD9 S ∧ ODN S
def SM9 (V S : bT9) : Prop := b9g_keys V = b9g_keys S ∧ b9g_lengths V = b9g_lengths S ∧ b9g_now V = b9g_now S
theorem SM9_n {V S : bT9} (h : SM9 V S) : n9 V = n9 S ∧ C9 V = C9 S ∧ L9 V = L9 S ∧ P9 V = P9 S := by
  obtain ⟨a, b, c⟩ := h
  unfold n9 C9 L9 P9
  rw [a, b, c]
  exact ⟨rfl, rfl, rfl, rfl⟩
theorem R9_same {V S : bT9} (h : R9 S) (e : SM9 V S) (e1 : b9g_beginning V = b9g_beginning S) (e2 : b9g_common V = b9g_common S) : R9 V := by
  obtain ⟨q1, q2, q3, q4⟩ := SM9_n e
  unfold R9
  rw [q1, q2, q3, q4, e1, e2, e.2.2]
  exact h
theorem N9_same {V S : bT9} (h : N9 S) (e : SM9 V S) (e1 : b9g_nodeLevel V = b9g_nodeLevel S) (e2 : b9g_nodeLeaf V = b9g_nodeLeaf S) (e3 : b9g_nodeLeaves V = b9g_nodeLeaves S) (e4 : b9g_nodeMany V = b9g_nodeMany S) : N9 V := by
  obtain ⟨q1, q2, q3, q4⟩ := SM9_n e
  unfold N9
  rw [q1, q2, q4, e1, e2, e3, e4]
  exact h
theorem AT9_same {V S : bT9} {x l s f : Nat} (h : AT9 S x l s f) (e : SM9 V S) (e1 : b9g_nodeLevel V = b9g_nodeLevel S) (e2 : b9g_nodeLeaf V = b9g_nodeLeaf S) (e3 : b9g_nodeLeaves V = b9g_nodeLeaves S) : AT9 V x l s f := by
  obtain ⟨q1, q2, q3, q4⟩ := SM9_n e
  unfold AT9
  rw [q1, q2, q4, e1, e2, e3]
  exact h
theorem TD9_same {V S : bT9} (h : TD9 S) (e : SM9 V S) (e1 : b9g_nodeLevel V = b9g_nodeLevel S) (e2 : b9g_nodeLeaf V = b9g_nodeLeaf S) (e3 : b9g_nodeLeaves V = b9g_nodeLeaves S) (e4 : b9g_nodeMany V = b9g_nodeMany S) (e5 : b9g_levelMany V = b9g_levelMany S) (e6 : b9g_upper V = b9g_upper S) (e7 : b9g_upperNodes V = b9g_upperNodes S) (e8 : b9g_itemNode V = b9g_itemNode S) (e9 : b9g_itemByte V = b9g_itemByte S) (e10 : b9g_itemChild V = b9g_itemChild S) (e11 : b9g_itemMany V = b9g_itemMany S) (e12 : b9g_placeOf V = b9g_placeOf S) (e13 : b9g_leafOfPlace V = b9g_leafOfPlace S) : TD9 V := by
  obtain ⟨q1, q2, q3, q4⟩ := SM9_n e
  refine ⟨N9_same h.1 e e1 e2 e3 e4, ?_⟩
  rw [q1, q2, q3, q4, e.1, e.2.2, e5, e6, e7, e8, e9, e10, e11, e12, e13]
  exact h.2
theorem LEVS_last {S : bT9} (h : R9 S) (hN : N9 S) {lv : Int} (h0 : (b9g_nodeMany S).toInt = 0 → lv = 0) (h1 : ∀ x : Nat, (x : Int) + 1 = (b9g_nodeMany S).toInt → lv = (b9g_nodeLevel S x).toInt + 1) : LEVS (n9 S) (C9 S) (P9 S) lv 8 := by
  have hm := hN.1
  have g64 := h.1.1
  have nn := NB_nn (n := n9 S) (C := C9 S) (P := P9 S) 512
  have e512 : NB (n9 S) (C9 S) (P9 S) (64 * 8) = NB (n9 S) (C9 S) (P9 S) 512 := rfl
  by_cases z : (b9g_nodeMany S).toInt = 0
  · exact Or.inl ⟨h0 z, by omega⟩
  · obtain ⟨x, ex⟩ : ∃ x : Nat, (x : Int) + 1 = (b9g_nodeMany S).toInt := ⟨((b9g_nodeMany S).toInt - 1).toNat, by omega⟩
    obtain ⟨l, s, e, l7, s64, hs, hg, hx, f1, f2, f3⟩ := NOD_at (x := x) hN.2 (by omega)
    have a := NB_mono (n := n9 S) (C := C9 S) (P := P9 S) (show 64 * l ≤ 64 * l + s by omega)
    have b : NB (n9 S) (C9 S) (P9 S) (64 * l + s) < NB (n9 S) (C9 S) (P9 S) (64 * (l + 1)) := CTP_lt (by omega) ((IsN_at s64).mpr hs)
    have c := NB_mono (n := n9 S) (C := C9 S) (P := P9 S) (show 64 * (l + 1) ≤ 512 by omega)
    refine Or.inr ⟨l, by rw [h1 x ex, f1], by omega, by omega, by omega⟩
/-! nodes laid: seeds, the last level -/
def NSW (S : bT9) : Prop := NSD (b9g_beginning S) (b9g_nodeLevel S) (b9g_nodeLeaf S) (b9g_nodeLeaves S) (b9g_nodeMany S).toInt ∧ ((b9g_nodeMany S).toInt = 0 → (b9g_levelMany S).toInt = 0) ∧ (∀ x : Nat, (x : Int) + 1 = (b9g_nodeMany S).toInt → (b9g_levelMany S).toInt = (b9g_nodeLevel S x).toInt + 1) ∧ (b9g_areNodesLaid S = 1 ∧ b9g_laidFor S = -1) ∧ (b9g_isLaid S).toInt ≠ 0
theorem NSD_push {beg lv lf ls lv2 lf2 ls2 : Nat → Int32} {m m2 : Int32} (h : NSD beg lv lf ls m.toInt) (m0 : 0 ≤ m.toInt) (em : m2.toInt = m.toInt + 1) (hl : ∀ x : Nat, (x : Int) < m.toInt → lv2 x = lv x ∧ lf2 x = lf x ∧ ls2 x = ls x) (hs : ∃ i : Nat, (lf2 m.toNatClampNeg).toInt ≤ (i : Int) ∧ (i : Int) < (lf2 m.toNatClampNeg).toInt + (ls2 m.toNatClampNeg).toInt ∧ (lv2 m.toNatClampNeg).toInt < (beg i).toInt) : NSD beg lv2 lf2 ls2 m2.toInt := by
  have ec := pt_clamp m0
  intro x hx
  by_cases e : x = m.toNatClampNeg
  · subst e
    exact hs
  · have hx2 : (x : Int) < m.toInt := by omega
    obtain ⟨q1, q2, q3⟩ := hl x hx2
    rw [q1, q2, q3]
    exact h x hx2
theorem R9_LD {S : bT9} (hs : SR9 S) (hc : CLN (fun j => b9g_keys S (64 + j)) (fun j => b9g_lengths S (64 + j)) (b9g_now S 9).toInt) (hK : K9 S) (hd : LD (b9g_isLaid S) (b9g_common S) (b9g_beginning S) (b9g_keys S) (b9g_lengths S) (b9g_now S 9)) (hl : (b9g_isLaid S).toInt ≠ 0) : R9 S := by
  have jn := (K9g_now hK).2.2.2.1
  refine ⟨GRD_of hs hc jn.2, jn.1, fun i hi => ?_⟩
  unfold n9 at hi
  have d := hd hl i (by omega)
  exact ⟨d.2, d.1⟩
theorem T9P_same {V S : bT9} (h : T9P S) (e : SM9 V S) : T9P V := by
  unfold T9P SR9
  rw [e.1, e.2.1, e.2.2]
  exact h
theorem TDW_same {V S : bT9} (h : TDW S) (e : SM9 V S) (e0 : b9g_areNodesLaid V = b9g_areNodesLaid S) (e1 : b9g_nodeLevel V = b9g_nodeLevel S) (e2 : b9g_nodeLeaf V = b9g_nodeLeaf S) (e3 : b9g_nodeLeaves V = b9g_nodeLeaves S) (e4 : b9g_nodeMany V = b9g_nodeMany S) (e5 : b9g_levelMany V = b9g_levelMany S) (e6 : b9g_upper V = b9g_upper S) (e7 : b9g_upperNodes V = b9g_upperNodes S) (e8 : b9g_itemNode V = b9g_itemNode S) (e9 : b9g_itemByte V = b9g_itemByte S) (e10 : b9g_itemChild V = b9g_itemChild S) (e11 : b9g_itemMany V = b9g_itemMany S) (e12 : b9g_placeOf V = b9g_placeOf S) (e13 : b9g_leafOfPlace V = b9g_leafOfPlace S) (e14 : b9g_laidFor V = b9g_laidFor S) (e15 : b9g_oneMany V = b9g_oneMany S) (e16 : b9g_rowLong V = b9g_rowLong S) (e17 : b9g_ones V = b9g_ones S) : TDW V := by
  intro h0
  rw [e0] at h0
  refine ⟨TD9_same (h h0).1 e e1 e2 e3 e4 e5 e6 e7 e8 e9 e10 e11 e12 e13, ?_⟩
  obtain ⟨q1, q2, q3, q4⟩ := SM9_n e
  unfold ODN
  rw [q1, q2, q3, q4, e.1, e6, e14, e15, e16, e17]
  exact (h h0).2
/-- the rows are the same as far as the tree sees them -/
theorem TDW_rows {V S : bT9} (h : TDW S) (en : ∀ i : Nat, i = 9 ∨ i = 13 ∨ i = 14 → b9g_now V i = b9g_now S i) (eo : ∀ j : Nat, j < 64 → b9g_keys V (64 + j) = b9g_keys S (64 + j) ∧ b9g_lengths V (64 + j) = b9g_lengths S (64 + j)) (h9 : (b9g_now S 9).toInt ≤ 64) (e0 : b9g_areNodesLaid V = b9g_areNodesLaid S) (e1 : b9g_nodeLevel V = b9g_nodeLevel S) (e2 : b9g_nodeLeaf V = b9g_nodeLeaf S) (e3 : b9g_nodeLeaves V = b9g_nodeLeaves S) (e4 : b9g_nodeMany V = b9g_nodeMany S) (e5 : b9g_levelMany V = b9g_levelMany S) (e6 : b9g_upper V = b9g_upper S) (e7 : b9g_upperNodes V = b9g_upperNodes S) (e8 : b9g_itemNode V = b9g_itemNode S) (e9 : b9g_itemByte V = b9g_itemByte S) (e10 : b9g_itemChild V = b9g_itemChild S) (e11 : b9g_itemMany V = b9g_itemMany S) (e12 : b9g_placeOf V = b9g_placeOf S) (e13 : b9g_leafOfPlace V = b9g_leafOfPlace S) (e14 : b9g_laidFor V = b9g_laidFor S) (e15 : b9g_oneMany V = b9g_oneMany S) (e16 : b9g_rowLong V = b9g_rowLong S) (e17 : b9g_ones V = b9g_ones S) : TDW V := by
  have n9e : b9g_now V 9 = b9g_now S 9 := en 9 (Or.inl rfl)
  have n13 : b9g_now V 13 = b9g_now S 13 := en 13 (Or.inr (Or.inl rfl))
  have n14 : b9g_now V 14 = b9g_now S 14 := en 14 (Or.inr (Or.inr rfl))
  have eN : n9 V = n9 S := by unfold n9; rw [n9e]
  have hn64 : n9 S ≤ 64 := by unfold n9; omega
  have eC : ∀ i, i < n9 S → C9 V i = C9 S i := by
    intro i hi
    unfold C9
    rw [n9e]
    unfold n9 at hi
    exact COM_agr (fun j hj => eo j (by omega)) (by omega)
  have eL : ∀ i, i < n9 S → L9 V i = L9 S i := by
    intro i hi
    show (b9g_lengths V (64 + i)).toInt.toNat = (b9g_lengths S (64 + i)).toInt.toNat
    rw [(eo i (by omega)).2]
  have eP : ∀ l i, i < n9 S → P9 V l i = P9 S l i := by
    intro l i hi
    show PX (ub (b9g_keys V (64 + i))) l = PX (ub (b9g_keys S (64 + i))) l
    rw [(eo i (by omega)).1]
  have eNST : ∀ l i, NST (n9 S) (C9 V) (P9 V) l i ↔ NST (n9 S) (C9 S) (P9 S) l i := by
    intro l i
    unfold NST
    by_cases hi : i < n9 S
    · rw [eC i hi, eC (i - 1) (by omega), eP l i hi, eP l (i - 1) (by omega)]
    · exact ⟨fun t => absurd t.1 hi, fun t => absurd t.1 hi⟩
  have eN2 : ∀ w, IsN (n9 S) (C9 V) (P9 V) w ↔ IsN (n9 S) (C9 S) (P9 S) w := fun w => eNST _ _
  have eE2 : ∀ w, IsE (n9 S) (C9 V) (P9 V) w ↔ IsE (n9 S) (C9 S) (P9 S) w := by
    intro w
    unfold IsE EST
    rw [eNST]
    by_cases hi : w % 64 < n9 S
    · rw [eC _ hi]
    · exact ⟨fun t => absurd t.1 hi, fun t => absurd t.1 hi⟩
  have eL2 : ∀ w, IsL (n9 S) (C9 V) w ↔ IsL (n9 S) (C9 S) w := by
    intro w
    unfold IsL
    by_cases hi : w % 64 < n9 S
    · rw [eC _ hi]
    · exact ⟨fun t => absurd t.1 hi, fun t => absurd t.1 hi⟩
  have eNB : ∀ w, NB (n9 S) (C9 V) (P9 V) w = NB (n9 S) (C9 S) (P9 S) w := fun w => CTP_congr w (fun i _ => eN2 i)
  have eEB : ∀ w, EB (n9 S) (C9 V) (P9 V) w = EB (n9 S) (C9 S) (P9 S) w := fun w => CTP_congr w (fun i _ => eE2 i)
  have eLB : ∀ w, LB (n9 S) (C9 V) w = LB (n9 S) (C9 S) w := fun w => CTP_congr w (fun i _ => eL2 i)
  have eG : ∀ l s e m, m ≤ n9 S → GRQ (n9 S) (C9 S) (P9 S) l s e m → GRQ (n9 S) (C9 V) (P9 V) l s e m := by
    intro l s e m hm g
    have g1 := g.1
    have g2 := g.2.1
    refine ⟨g.1, g.2.1, fun k k1 k2 => ?_, fun t z => g.2.2.2 t ?_⟩
    · rw [eC k (by omega), eP l k (by omega), eP l s (by omega)]
      exact g.2.2.1 k k1 k2
    · rw [eC e (by omega), eP l e (by omega), eP l s (by omega)] at z
      exact z
  intro h0
  rw [e0] at h0
  obtain ⟨⟨⟨hm, hO⟩, u, lv, a1, a2, a3, a4, a5, a6, a7, a8, a9, a10⟩, hod⟩ := h h0
  have od : ODN V := by
    intro ro k b1 b2 b3
    rw [e14] at b1
    rw [e6] at b3
    rw [eN, e15, e16, e17]
    exact OAR_cg eC eL eE2 eN2 eNB eEB (fun i hi => (eo i (by omega)).1) (hod ro k b1 b2 b3)
  refine ⟨⟨⟨?_, ?_⟩, u, lv, by rw [e5]; exact a1, a2, ?_, by rw [e6]; exact a4, a5, ?_, ?_, ?_, ?_, ?_⟩, od⟩
  · rw [e4, eN, eNB]; exact hm
  · rw [eN, e1, e2, e3]
    intro w x hw hI hx
    rw [eNB] at hx
    obtain ⟨b1, b2, e, b3, b4, b5⟩ := hO w x hw ((eN2 w).mp hI) hx
    refine ⟨b1, b2, e, b3, eG _ _ _ _ ?_ b4, b5⟩
    by_cases z : w / 64 = 8
    · omega
    · rw [if_neg z]; exact Nat.le_refl _
  · rw [eN]
    unfold LEVS
    rcases a3 with ⟨b1, b2⟩ | ⟨q, b1, b2, b3, b4⟩
    · exact Or.inl ⟨b1, by rw [eNB]; exact b2⟩
    · exact Or.inr ⟨q, b1, b2, by rw [eNB, eNB]; exact b3, by rw [eNB, eNB]; exact b4⟩
  · rw [eN, n13, n14]
    have eU : ∀ k, COU (n9 S) (C9 V) (P9 V) (b9g_now S 14) k ↔ COU (n9 S) (C9 S) (P9 S) (b9g_now S 14) k := by
      intro k
      unfold COU BTN BTE
      rw [eNB, eEB, eEB]
    refine ⟨a6.1, fun z => ⟨fun y => ?_, (a6.2 z).2⟩⟩
    obtain ⟨b1, b2, b3⟩ := (a6.2 z).1 y
    exact ⟨b1, b2.imp id (fun t => (eU u).mpr t), fun i i1 i2 t => b3 i i1 i2 ((eU i).mp t)⟩
  · rw [e7, eN, eNB]; exact a7
  · rw [e11, eN, eEB, eEB]; exact a8
  · rw [eN, e8, e9, e10]
    intro w y w0 w1 w2 w3
    rw [eEB, eEB] at w3
    obtain ⟨b1, b2, b3⟩ := a9 w y w0 w1 ((eE2 w).mp w2) w3
    have hi := w2.1
    refine ⟨by rw [eNB]; exact b1, ?_, by rw [eC _ hi]; exact b3⟩
    rw [b2]
    unfold OCV
    rw [eL _ hi]
    show (if L9 S (w % 64) = w / 64 then -1 else OCT (b9g_keys S (64 + w % 64)) (nI (w / 64))) = (if L9 S (w % 64) = w / 64 then -1 else OCT (b9g_keys V (64 + w % 64)) (nI (w / 64)))
    rw [(eo (w % 64) (by omega)).1]
  · rw [eN, e12, e13]
    intro w z w1 w2 w3
    rw [eLB] at w3 ⊢
    exact a10 w z w1 ((eL2 w).mp w2) w3
/-! the tree stays -/
def TF9 (V S : bT9) : Prop := SM9 V S ∧ b9g_areNodesLaid V = b9g_areNodesLaid S ∧ b9g_nodeLevel V = b9g_nodeLevel S ∧ b9g_nodeLeaf V = b9g_nodeLeaf S ∧ b9g_nodeLeaves V = b9g_nodeLeaves S ∧ b9g_nodeMany V = b9g_nodeMany S ∧ b9g_levelMany V = b9g_levelMany S ∧ b9g_upper V = b9g_upper S ∧ b9g_upperNodes V = b9g_upperNodes S ∧ b9g_itemNode V = b9g_itemNode S ∧ b9g_itemByte V = b9g_itemByte S ∧ b9g_itemChild V = b9g_itemChild S ∧ b9g_itemMany V = b9g_itemMany S ∧ b9g_placeOf V = b9g_placeOf S ∧ b9g_leafOfPlace V = b9g_leafOfPlace S ∧ b9g_laidFor V = b9g_laidFor S ∧ b9g_oneMany V = b9g_oneMany S ∧ b9g_rowLong V = b9g_rowLong S ∧ b9g_ones V = b9g_ones S
theorem TDW_tf {V S : bT9} (h : TDW S) (t : TF9 V S) : TDW V := by
  obtain ⟨e, e0, e1, e2, e3, e4, e5, e6, e7, e8, e9, e10, e11, e12, e13, e14, e15, e16, e17⟩ := t
  exact TDW_same h e e0 e1 e2 e3 e4 e5 e6 e7 e8 e9 e10 e11 e12 e13 e14 e15 e16 e17
def TWW (S u : bT9) : Prop := T9P S → TDW S → TDW u ∧ (b9g_areNodesLaid u).toInt ≠ 0
theorem TWW_told {S S1 u : bT9} (e : S1 = b9s_told S 0) (h : TWW S1 u) : TWW S u := by
  intro hP hW
  refine h ?_ ?_
  · rw [e]; exact hP
  · rw [e]; exact hW
theorem TWW_tf {S V U : bT9} (h : TWW S V) (t : TF9 U V) : TWW S U := fun hP hW => ⟨TDW_tf (h hP hW).1 t, by rw [t.2.1]; exact (h hP hW).2⟩
theorem TWW_pre {S V U : bT9} (t : TF9 V S) (h : TWW V U) : TWW S U := fun hP hW => h (T9P_same hP t.1) (TDW_tf hW t)
theorem TWW_lays {S u : bT9} (h : T9P S → TDW S → TDW u ∧ (b9g_areNodesLaid u).toInt ≠ 0 ∧ (b9g_isLaid u).toInt ≠ 0) : TWW S u := fun hP hW => ⟨(h hP hW).1, (h hP hW).2.1⟩
theorem at2 {f : Nat → Int32} : atf 6 f 2 = f 2 := by
  unfold atf
  rw [if_neg (by decide), if_neg (by decide)]
  rfl
theorem at3 {f : Nat → Int32} : atf 6 f 3 = f 3 := by
  unfold atf
  rw [if_neg (by decide), if_neg (by decide)]
  rfl
/-! class and reference have one grid -/
theorem GAG {n : Nat} {C K : Nat → Nat} {P R : Nat → Nat → Nat} (eC : ∀ i, i < n → K i = C i) (eP : ∀ l i, i < n → R l i = P l i) : (∀ w, IsN n K R w ↔ IsN n C P w) ∧ (∀ w, IsE n K R w ↔ IsE n C P w) ∧ (∀ w, IsL n K w ↔ IsL n C w) ∧ (∀ w, NB n K R w = NB n C P w) ∧ (∀ w, EB n K R w = EB n C P w) ∧ ∀ w, LB n K w = LB n C w := by
  have eNST : ∀ l i, NST n K R l i ↔ NST n C P l i := by
    intro l i
    unfold NST
    by_cases hi : i < n
    · rw [eC i hi, eC (i - 1) (by omega), eP l i hi, eP l (i - 1) (by omega)]
    · exact ⟨fun t => absurd t.1 hi, fun t => absurd t.1 hi⟩
  have eN2 : ∀ w, IsN n K R w ↔ IsN n C P w := fun w => eNST _ _
  have eE2 : ∀ w, IsE n K R w ↔ IsE n C P w := by
    intro w
    unfold IsE EST
    rw [eNST]
    by_cases hi : w % 64 < n
    · rw [eC _ hi]
    · exact ⟨fun t => absurd t.1 hi, fun t => absurd t.1 hi⟩
  have eL2 : ∀ w, IsL n K w ↔ IsL n C w := by
    intro w
    unfold IsL
    by_cases hi : w % 64 < n
    · rw [eC _ hi]
    · exact ⟨fun t => absurd t.1 hi, fun t => absurd t.1 hi⟩
  exact ⟨eN2, eE2, eL2, fun w => CTP_congr w (fun i _ => eN2 i), fun w => CTP_congr w (fun i _ => eE2 i), fun w => CTP_congr w (fun i _ => eL2 i)⟩
/-- one grid: the leaves of the object and the rows of the reference -/
def AGX (X : bT1) (S : bT9) : Prop := tn X = n9 S ∧ (∀ i, i < n9 S → tC X i = C9 S i) ∧ (∀ i, i < n9 S → tL X i = L9 S i) ∧ (∀ l i, i < n9 S → tP X l i = P9 S l i) ∧ ∀ i, i < n9 S → b0g_bytes (b1g_owners X) i = b9g_keys S (64 + i)
theorem AGX_of {X : bT1} {S : bT9} (h9 : 0 ≤ (b9g_now S 9).toInt) (hx : LFP X (b9g_now S) (fun j => b9g_keys S (64 + j)) (fun j => b9g_lengths S (64 + j))) : AGX X S := by
  obtain ⟨_, _, _, hc, hr, _⟩ := hx
  have en : tn X = n9 S := by
    unfold tn n9
    rw [hc]
  have lt : ∀ i, i < n9 S → (i : Int) < (b9g_now S 9).toInt := by
    intro i hi
    unfold n9 at hi
    omega
  refine ⟨en, fun i hi => ?_, fun i hi => ?_, fun l i hi => ?_, fun i hi => (hr i (lt i hi)).1.symm⟩
  · unfold tC C9
    rw [hc]
    exact (COM_agr (fun j hj => hr j hj) (lt i hi)).symm
  · show (b0g_lengths (b1g_owners X) i).toInt.toNat = (b9g_lengths S (64 + i)).toInt.toNat
    rw [← (hr i (lt i hi)).2]
  · show PX (ub (b0g_bytes (b1g_owners X) i)) l = PX (ub (b9g_keys S (64 + i))) l
    rw [← (hr i (lt i hi)).1]
theorem AGX_g {X : bT1} {S : bT9} (h : AGX X S) : (∀ w, IsN (tn X) (tC X) (tP X) w ↔ IsN (n9 S) (C9 S) (P9 S) w) ∧ (∀ w, IsE (tn X) (tC X) (tP X) w ↔ IsE (n9 S) (C9 S) (P9 S) w) ∧ (∀ w, IsL (tn X) (tC X) w ↔ IsL (n9 S) (C9 S) w) ∧ (∀ w, NB (tn X) (tC X) (tP X) w = NB (n9 S) (C9 S) (P9 S) w) ∧ (∀ w, EB (tn X) (tC X) (tP X) w = EB (n9 S) (C9 S) (P9 S) w) ∧ ∀ w, LB (tn X) (tC X) w = LB (n9 S) (C9 S) w := by
  rw [h.1]
  exact GAG h.2.1 h.2.2.2.1
/-! the leaf at a place -/
def LPL (n : Nat) (C : Nat → Nat) (p r : Int) : Prop := ∃ w : Nat, w < 512 ∧ IsL n C w ∧ LB n C w = p ∧ r = ((w % 64 : Nat) : Int)
theorem LPL_one {n : Nat} {C : Nat → Nat} {p r q : Int} (h : LPL n C p r) (g : LPL n C p q) : r = q := by
  obtain ⟨w, _, a, b, c⟩ := h
  obtain ⟨v, _, d, e, f⟩ := g
  have wv : w = v := CTP_inj (P := IsL n C) a d (by show LB n C w = LB n C v; rw [b, e])
  rw [c, f, wv]
theorem LPL_agx {X : bT1} {S : bT9} (h : AGX X S) {p r : Int} (g : LPL (tn X) (tC X) p r) : LPL (n9 S) (C9 S) p r := by
  obtain ⟨_, _, e3, _, _, e6⟩ := AGX_g h
  obtain ⟨w, a, b, c, d⟩ := g
  exact ⟨w, a, (e3 w).mp b, by rw [← e6]; exact c, d⟩
theorem C_leafAt {X : bT1} {T : bT6} {S : bT9} {de ra a r q : Int32} (h9 : 0 ≤ (b9g_now S 9).toInt) (hx : LFP X (b9g_now S) (fun j => b9g_keys S (64 + j)) (fun j => b9g_lengths S (64 + j))) (ht : LVO X → TRX T X de ra) (hP : T9P S) (hW : TDW S) (h : LVO X → TRX T X de ra → ((0 ≤ a.toInt ∧ a.toInt < (b0g_count (b1g_owners X)).toInt) → LPL (tn X) (tC X) a.toInt r.toInt) ∧ (¬ (0 ≤ a.toInt ∧ a.toInt < (b0g_count (b1g_owners X)).toInt) → r.toInt = -1)) (h2 : T9P S → TDW S → ((0 ≤ a.toInt ∧ a.toInt < (b9g_now S 9).toInt) → LPL (n9 S) (C9 S) a.toInt q.toInt) ∧ (¬ (0 ≤ a.toInt ∧ a.toInt < (b9g_now S 9).toInt) → q.toInt = -1)) : r.toInt = q.toInt := by
  have ag := AGX_of h9 hx
  have o := hx.1
  have hc := hx.2.2.2.1
  have A := h o (ht o)
  have B := h2 hP hW
  rw [hc] at A
  by_cases z : 0 ≤ a.toInt ∧ a.toInt < (b9g_now S 9).toInt
  · exact LPL_one (LPL_agx ag (A.1 z)) (B.1 z)
  · rw [A.2 z, B.2 z]
/-! what is told of the dense levels stays in its bounds -/
def DB2 (P : bT3) : Prop := 0 ≤ (b3g_values P 2).toInt ∧ (b3g_values P 2).toInt ≤ 9
def DBM (M : bT2) : Prop := DB2 (b2g_told M) ∧ DB2 (b2g_built M)
theorem DB2_eq {P R : bT3} (h : DB2 R) (e : PEQ P R) : DB2 P := by
  unfold DB2
  rw [e.2.1 2 (by omega)]
  exact h
theorem DBM_eq {M R : bT2} (h : DBM R) (e : MEQ M R) : DBM M := ⟨DB2_eq h.1 e.1, DB2_eq h.2 e.2.1⟩
theorem T9P_of {X : bT1} {P : bT3} {S : bT9} (hx : LFP X (b9g_now S) (fun j => b9g_keys S (64 + j)) (fun j => b9g_lengths S (64 + j))) (hb : BRL P (b9g_now S) (fun j => b9g_keys S (64 + j)) (fun j => b9g_lengths S (64 + j))) (hd : DB2 P) : T9P S := by
  refine ⟨hx.2.1, hx.2.2.1, ?_⟩
  rcases hb.2.2.2.2.2 with z | ⟨z, _⟩
  · exact Or.inl z
  · refine Or.inr ?_
    rw [← z]
    have a := hd.1
    have b := hd.2
    have e : (b3g_values P 2 + 1).toInt = (b3g_values P 2).toInt + 1 := by rw [pt_add (by rw [pl_1]; omega) (by rw [pl_1]; omega), pl_1]
    rw [pt_sub (by rw [e, pl_1]; omega) (by rw [e, pl_1]; omega), e, pl_1]
    omega
def TKP (S u : bT9) : Prop := T9P S → TDW S → TDW u
theorem TKP_w {S u : bT9} (h : TWW S u) : TKP S u := fun hP hW => (h hP hW).1
theorem TKP_told {S S1 u : bT9} (e : S1 = b9s_told S 0) (h : TKP S1 u) : TKP S u := by
  intro hP hW
  refine h ?_ ?_
  · rw [e]; exact hP
  · rw [e]; exact hW
theorem TKP_tf {S V : bT9} (t : TF9 V S) : TKP S V := fun _ hW => TDW_tf hW t
theorem TF_sign {S S1 : bT9} {v : Int32} (e : S1 = b9s_signMany S v) : TF9 S1 S := by
  rw [e]
  exact ⟨⟨rfl, rfl, rfl⟩, rfl, rfl, rfl, rfl, rfl, rfl, rfl, rfl, rfl, rfl, rfl, rfl, rfl, rfl, rfl, rfl, rfl, rfl⟩
theorem DB_set {P R : bT3} {a1 a2 r : Int32} (h : DB2 R) (c : (r.toInt = 1 ∧ ((a1.toInt = 0 ∧ 0 ≤ a2.toInt ∧ a2.toInt ≤ 8) ∨ (a1.toInt = 1 ∧ 0 ≤ a2.toInt ∧ a2.toInt ≤ 8) ∨ (a1.toInt = 2 ∧ 0 ≤ a2.toInt ∧ a2.toInt ≤ 9) ∨ (a1.toInt = 3 ∧ 1 ≤ a2.toInt ∧ a2.toInt ≤ 64) ∨ (a1.toInt = 4 ∧ 1 ≤ a2.toInt ∧ a2.toInt ≤ 256) ∨ a1.toInt = 5)) ∨ (r.toInt = 0 ∧ ¬ ((a1.toInt = 0 ∧ 0 ≤ a2.toInt ∧ a2.toInt ≤ 8) ∨ (a1.toInt = 1 ∧ 0 ≤ a2.toInt ∧ a2.toInt ≤ 8) ∨ (a1.toInt = 2 ∧ 0 ≤ a2.toInt ∧ a2.toInt ≤ 9) ∨ (a1.toInt = 3 ∧ 1 ≤ a2.toInt ∧ a2.toInt ≤ 64) ∨ (a1.toInt = 4 ∧ 1 ≤ a2.toInt ∧ a2.toInt ≤ 256) ∨ a1.toInt = 5))) (c1 : r.toInt = 1 → b3g_values P = upd (b3g_values R) a1.toNatClampNeg a2) (c2 : r.toInt = 0 → b3g_values P = b3g_values R) : DB2 P := by
  unfold DB2
  rcases c with ⟨e, p⟩ | ⟨e, _⟩
  · rw [c1 e]
    by_cases z : a1.toInt = 2
    · have ez : a1.toNatClampNeg = 2 := by
        show a1.toInt.toNat = 2
        omega
      rw [ez, up_s]
      omega
    · have ez : 2 ≠ a1.toNatClampNeg := by
        show 2 ≠ a1.toInt.toNat
        omega
      rw [up_n ez]
      exact h
  · rw [c2 e]
    exact h
theorem DB_image {X U : bT8} {a : Int32} (h : DBM (b8g_now X) ∧ DBM (b8g_kept X)) (c1 : a.toInt ≠ 0 → MEQ (b8g_kept U) (b8g_now X) ∧ b8g_now U = b8g_now X) (c2 : a.toInt = 0 → (b8g_isKept X).toInt = 0 → b8g_now U = b8g_now X ∧ b8g_kept U = b8g_kept X) (c3 : a.toInt = 0 → (b8g_isKept X).toInt ≠ 0 → MEQ (b8g_now U) (b8g_kept X) ∧ b8g_kept U = b8g_kept X) : DBM (b8g_now U) ∧ DBM (b8g_kept U) := by
  by_cases z : a.toInt = 0
  · by_cases y : (b8g_isKept X).toInt = 0
    · rw [(c2 z y).1, (c2 z y).2]
      exact h
    · exact ⟨DBM_eq h.2 (c3 z y).1, by rw [(c3 z y).2]; exact h.2⟩
  · exact ⟨by rw [(c1 z).2]; exact h.1, DBM_eq h.1 (c1 z).1⟩
theorem D_start : DBM (b8g_now bi8) ∧ DBM (b8g_kept bi8) := ⟨⟨⟨by decide, by decide⟩, by decide, by decide⟩, ⟨by decide, by decide⟩, by decide, by decide⟩
/-! edges of a node, of the object's tree -/
theorem TR6_nx {T : bT6} {n : Nat} {C L : Nat → Nat} {P : Nat → Nat → Nat} {f : Nat → Int64} (G : GRD n C L P) (t : TR6 T n C L P f) {x l s e : Nat} (hs : NST n C P l s) (l7 : l ≤ 7) (hg : GRQ n C P l s e n) (hx : (x : Int) = NB n C P (64 * l + s)) : (b6g_edgeStarts T x).toInt = EB n C P (64 * l + s) ∧ (b6g_edgeStarts T (x + 1)).toInt = EB n C P (64 * l + e) := by
  have g64 := G.1
  have sn := hs.1
  have gn := hg.2.1
  refine ⟨t.2.2.2.2.1 (64 * l + s) x (by omega) ((IsN_at (by omega)).mpr hs) hx, ?_⟩
  have ng := NB_grp g64 hs hg
  obtain ⟨p, r1, r2, r3, r4, r5, r6⟩ := NB_pos (n := n) (C := C) (P := P) (b := 64 * l + e) (x := x + 1) (by omega) (by omega)
  have eg := EB_gap g64 (l := l) (e := e) (by omega) (GRQ_cl hg) r1 r6
  rw [← eg]
  by_cases z : ((x + 1 : Nat) : Int) < NB n C P 512
  · exact t.2.2.2.2.1 p (x + 1) (r4 z).1 (r4 z).2 r3
  · have q := r5 z
    subst q
    exact t.2.2.2.2.2.1 (x + 1) r3
theorem OCV_end {f : Nat → Int64} {L : Nat → Nat} {w : Nat} (hw : w < 512) : OCV f L w = -1 ↔ L (w % 64) = w / 64 := by
  unfold OCV
  by_cases z : L (w % 64) = w / 64
  · rw [if_pos z]
    exact ⟨fun _ => z, fun _ => rfl⟩
  · rw [if_neg z]
    refine ⟨fun y => ?_, fun y => absurd y z⟩
    have e : (nI (w / 64)).toInt = ((w / 64 : Nat) : Int) := nI_toInt (by omega)
    have r := OCT_rng (f (w % 64)) (i := nI (w / 64)) (by omega) (by omega)
    rw [y, pl_m1] at r
    omega
theorem fx6_isEnd {T : bT6} {n : Nat} {C L : Nat → Nat} {P : Nat → Nat → Nat} {f : Nat → Int64} (t : TR6 T n C L P f) {a : Int32} {w y : Nat} {Q : Int32 → Prop} (hw : w < 512) (hE : IsE n C P w) (hy : (y : Int) = EB n C P w) (h5 : y < 296) (ha : a.toInt = (y : Int)) (hq : ∀ r : Int32, (r = 0 ↔ ¬ L (w % 64) = w / 64) → Q r) : wp_X6_isEnd T a Q := by
  obtain ⟨_, e2, _, _, _⟩ := t.2.2.2.2.2.2.2 w y hw hE hy
  have k := OCV_end (f := f) (L := L) hw
  unfold wp_X6_isEnd
  refine fx_atN (by decide) ha h5 ⟨fun c => ⟨rfl, hq _ ⟨fun _ => ?_, fun _ => rfl⟩⟩, fun c => ⟨rfl, hq _ ⟨fun z => absurd z (by decide), fun z => ?_⟩⟩⟩
  · rw [e2] at c
    exact fun z => c (k.mpr z)
  · rw [e2] at c
    exact absurd (k.mp c) z
theorem fx6_hasChild {T : bT6} {n : Nat} {C L : Nat → Nat} {P : Nat → Nat → Nat} {f : Nat → Int64} (t : TR6 T n C L P f) {a : Int32} {w y : Nat} {Q : Int32 → Prop} (hw : w < 512) (hE : IsE n C P w) (hy : (y : Int) = EB n C P w) (h5 : y < 296) (ha : a.toInt = (y : Int)) (hq : ∀ r : Int32, (r = 0 ↔ C (w % 64) = w / 64) → Q r) : wp_X6_hasChild T a Q := by
  obtain ⟨_, _, _, _, e5⟩ := t.2.2.2.2.2.2.2 w y hw hE hy
  unfold wp_X6_hasChild
  refine fx_atN (by decide) ha h5 ⟨fun c => ⟨rfl, hq _ ⟨fun _ => e5.mp c, fun _ => rfl⟩⟩, fun c => ⟨rfl, hq _ ⟨fun z => absurd z (by decide), fun z => absurd (e5.mpr z) c⟩⟩⟩
theorem fx6_endsAmong {T : bT6} {n : Nat} {C L : Nat → Nat} {P : Nat → Nat → Nat} {f : Nat → Int64} (G : GRD n C L P) (t : TR6 T n C L P f) {a1 a2 : Int32} {x y a b : Nat} {Q : Int32 → Prop} (h1 : a1.toInt = (x : Int)) (h2 : a2.toInt = (y : Int)) (hx : x < 233) (hy : y < 233) (hab : a ≤ b) (hb : b ≤ 512) (ea : (b6g_edgeStarts T x).toInt = EB n C P a) (eb : (b6g_edgeStarts T y).toInt = EB n C P b) (hq : ∀ r : Int32, r.toInt = DB n C L P b - DB n C L P a → Q r) : wp_X6_endsAmong T a1 a2 Q := by
  have m := EB_mono (n := n) (C := C) (P := P) hab
  have bl := EB_le G (w := b) hb
  have al := EB_le G (w := a) (by omega)
  unfold wp_X6_endsAmong
  refine fx_atN (by decide) h1 hx ?_
  unfold wp_X6_endsAmong_12
  refine ⟨fun k x2 x3 x4 => ∃ i p : Nat, a2 = x2 ∧ x4.toInt = (i : Int) ∧ a ≤ p ∧ p ≤ b ∧ (i : Int) = EB n C P p ∧ x3.toInt = DB n C L P p - DB n C L P a ∧ 0 ≤ x3.toInt ∧ x3.toInt ≤ (i : Int) - EB n C P a ∧ k = 300 - i, ⟨_, (EB n C P a).toNat, a, rfl, by omega, Nat.le_refl _, hab, by omega, by rw [pl_0]; omega, by decide, by rw [pl_0]; omega, rfl⟩, ?_⟩
  rintro k x2 x3 x4 ⟨i, p, rfl, e4, hap, hpb, hi, hv, v0, v1, hk⟩
  suffices H : ∀ B : Int32 → Int32 → Int32 → Prop, (∀ (v : Int32) (p' : Nat), a ≤ p' → p' ≤ b → ((i + 1 : Nat) : Int) = EB n C P p' → v.toInt = DB n C L P p' - DB n C L P a → 0 ≤ v.toInt → v.toInt ≤ (i : Int) + 1 - EB n C P a → (i : Int) < EB n C P b → B a2 v (x4 + 1)) → wp_X6_endsAmong_12b T a2 x3 x4 Q B from H _ (fun v p' t1 t2 t3 t4 t5 t6 hlt => ⟨300 - (i + 1), by omega, i + 1, p', rfl, by rw [pt_add (by rw [pl_1]; omega) (by rw [pl_1]; omega), pl_1, e4]; omega, t1, t2, t3, t4, t5, by omega, rfl⟩)
  intro B hB
  unfold wp_X6_endsAmong_12b
  refine fx_atN (by decide) h2 hy ⟨fun c => hq x3 ?_, fun c => ?_⟩
  · simp only [pn] at c
    have mp := EB_mono (n := n) (C := C) (P := P) hpb
    have k2 : DB n C L P p = DB n C L P b := CTP_sub2 (P := IsE n C P) (R := IsD n C L P) (fun w hw => hw.1) (by show EB n C P p = EB n C P b; omega)
    rw [hv, k2]
  simp only [pn] at c
  have hlt : (i : Int) < EB n C P b := by omega
  obtain ⟨w, w1, w2, w3⟩ := CTP_inv (P := IsE n C P) (e := (i : Int)) (by omega) b hlt
  have w3' : EB n C P w = (i : Int) := w3
  have aw : a ≤ w := by
    apply Classical.byContradiction
    intro z
    have lt : EB n C P w < EB n C P a := CTP_lt (by omega) w2
    have mp := EB_mono (n := n) (C := C) (P := P) hap
    omega
  have dw : DB n C L P w = DB n C L P p := CTP_sub2 (P := IsE n C P) (R := IsD n C L P) (fun w hw => hw.1) (by show EB n C P w = EB n C P p; omega)
  have nx : EB n C P (w + 1) = EB n C P w + 1 := CTP_y w2
  refine fx6_isEnd t (by omega) w2 w3'.symm (by omega) e4 (fun r3 hr => ⟨fun d => ?_, fun d => ?_⟩)
  · unfold wp_X6_endsAmong_40
    have nd : ¬ IsD n C L P w := fun z => hr.mp d z.2
    have dn : DB n C L P (w + 1) = DB n C L P w := CTP_n nd
    have e0 : (x3 + 0).toInt = x3.toInt := by rw [pt_add (by rw [pl_0]; omega) (by rw [pl_0]; omega), pl_0]; omega
    exact hB _ (w + 1) (by omega) (by omega) (by omega) (by rw [e0, dn, dw]; exact hv) (by omega) (by omega) hlt
  · unfold wp_X6_endsAmong_40
    have yd : IsD n C L P w := ⟨w2, Classical.byContradiction (fun z => d (hr.mpr z))⟩
    have dn : DB n C L P (w + 1) = DB n C L P w + 1 := CTP_y yd
    have e1 : (x3 + 1).toInt = x3.toInt + 1 := by rw [pt_add (by rw [pl_1]; omega) (by rw [pl_1]; omega), pl_1]
    exact hB _ (w + 1) (by omega) (by omega) (by omega) (by rw [e1, dn, dw]; omega) (by omega) (by omega) hlt
theorem fx6_childrenOf {T : bT6} {n : Nat} {C L : Nat → Nat} {P : Nat → Nat → Nat} {f : Nat → Int64} (G : GRD n C L P) (t : TR6 T n C L P f) {a1 : Int32} {x a b : Nat} {Q : Int32 → Prop} (h1 : a1.toInt = (x : Int)) (hx : x < 232) (hab : a ≤ b) (hb : b ≤ 512) (ea : (b6g_edgeStarts T x).toInt = EB n C P a) (eb : (b6g_edgeStarts T (x + 1)).toInt = EB n C P b) (hq : ∀ r : Int32, r.toInt = KB n C P b - KB n C P a → Q r) : wp_X6_childrenOf T a1 Q := by
  have m := EB_mono (n := n) (C := C) (P := P) hab
  have bl := EB_le G (w := b) hb
  have al := EB_le G (w := a) (by omega)
  have e11 : (a1 + 1).toInt = ((x + 1 : Nat) : Int) := by rw [pt_add (by rw [pl_1]; omega) (by rw [pl_1]; omega), pl_1]; omega
  unfold wp_X6_childrenOf
  refine fx_atN (by decide) h1 (by omega) ?_
  unfold wp_X6_childrenOf_11
  refine ⟨fun k x1 x2 x3 => ∃ i p : Nat, a1 = x1 ∧ x3.toInt = (i : Int) ∧ a ≤ p ∧ p ≤ b ∧ (i : Int) = EB n C P p ∧ x2.toInt = KB n C P p - KB n C P a ∧ 0 ≤ x2.toInt ∧ x2.toInt ≤ (i : Int) - EB n C P a ∧ k = 300 - i, ⟨_, (EB n C P a).toNat, a, rfl, by omega, Nat.le_refl _, hab, by omega, by rw [pl_0]; omega, by decide, by rw [pl_0]; omega, rfl⟩, ?_⟩
  rintro k x1 x2 x3 ⟨i, p, rfl, e4, hap, hpb, hi, hv, v0, v1, hk⟩
  suffices H : ∀ B : Int32 → Int32 → Int32 → Prop, (∀ (v : Int32) (p' : Nat), a ≤ p' → p' ≤ b → ((i + 1 : Nat) : Int) = EB n C P p' → v.toInt = KB n C P p' - KB n C P a → 0 ≤ v.toInt → v.toInt ≤ (i : Int) + 1 - EB n C P a → (i : Int) < EB n C P b → B a1 v (x3 + 1)) → wp_X6_childrenOf_11b T a1 x2 x3 Q B from H _ (fun v p' t1 t2 t3 t4 t5 t6 hlt => ⟨300 - (i + 1), by omega, i + 1, p', rfl, by rw [pt_add (by rw [pl_1]; omega) (by rw [pl_1]; omega), pl_1, e4]; omega, t1, t2, t3, t4, t5, by omega, rfl⟩)
  intro B hB
  unfold wp_X6_childrenOf_11b
  refine fx_atN (by decide) e11 (by omega) ⟨fun c => hq x2 ?_, fun c => ?_⟩
  · simp only [pn] at c
    have mp := EB_mono (n := n) (C := C) (P := P) hpb
    have k2 : KB n C P p = KB n C P b := CTP_sub2 (P := IsE n C P) (R := IsK n C P) (fun w hw => hw.1) (by show EB n C P p = EB n C P b; omega)
    rw [hv, k2]
  simp only [pn] at c
  have hlt : (i : Int) < EB n C P b := by omega
  obtain ⟨w, w1, w2, w3⟩ := CTP_inv (P := IsE n C P) (e := (i : Int)) (by omega) b hlt
  have w3' : EB n C P w = (i : Int) := w3
  have aw : a ≤ w := by
    apply Classical.byContradiction
    intro z
    have lt : EB n C P w < EB n C P a := CTP_lt (by omega) w2
    have mp := EB_mono (n := n) (C := C) (P := P) hap
    omega
  have dw : KB n C P w = KB n C P p := CTP_sub2 (P := IsE n C P) (R := IsK n C P) (fun w hw => hw.1) (by show EB n C P w = EB n C P p; omega)
  have nx : EB n C P (w + 1) = EB n C P w + 1 := CTP_y w2
  refine fx6_hasChild t (by omega) w2 w3'.symm (by omega) e4 (fun r3 hr => ⟨fun d => ?_, fun d => ?_⟩)
  · unfold wp_X6_childrenOf_39
    have nd : ¬ IsK n C P w := fun z => z.2 (hr.mp d)
    have dn : KB n C P (w + 1) = KB n C P w := CTP_n nd
    have e0 : (x2 + 0).toInt = x2.toInt := by rw [pt_add (by rw [pl_0]; omega) (by rw [pl_0]; omega), pl_0]; omega
    exact hB _ (w + 1) (by omega) (by omega) (by omega) (by rw [e0, dn, dw]; exact hv) (by omega) (by omega) hlt
  · unfold wp_X6_childrenOf_39
    have yd : IsK n C P w := ⟨w2, fun z => d (hr.mpr z)⟩
    have dn : KB n C P (w + 1) = KB n C P w + 1 := CTP_y yd
    have e1 : (x2 + 1).toInt = x2.toInt + 1 := by rw [pt_add (by rw [pl_1]; omega) (by rw [pl_1]; omega), pl_1]
    exact hB _ (w + 1) (by omega) (by omega) (by omega) (by rw [e1, dn, dw]; omega) (by omega) (by omega) hlt
theorem fx6_branches {T : bT6} {n : Nat} {C L : Nat → Nat} {P : Nat → Nat → Nat} {f : Nat → Int64} (G : GRD n C L P) (t : TR6 T n C L P f) {a1 a2 : Int32} {x y a b : Nat} {Q : Int32 → Prop} (h1 : a1.toInt = (x : Int)) (h2 : a2.toInt = (y : Int)) (hx : x < 233) (hy : y < 233) (hab : a ≤ b) (hb : b ≤ 512) (ea : (b6g_edgeStarts T x).toInt = EB n C P a) (eb : (b6g_edgeStarts T y).toInt = EB n C P b) (hq : ∀ r : Int32, r.toInt = BB n C L P b - BB n C L P a → Q r) : wp_X6_branches T a1 a2 Q := by
  have m := EB_mono (n := n) (C := C) (P := P) hab
  have bl := EB_le G (w := b) hb
  have al := EB_le G (w := a) (by omega)
  have p1 := DB_BB (n := n) (C := C) (L := L) (P := P) a
  have p2 := DB_BB (n := n) (C := C) (L := L) (P := P) b
  have dm : DB n C L P a ≤ DB n C L P b := CTP_le b hab
  have bm : BB n C L P a ≤ BB n C L P b := CTP_le b hab
  unfold wp_X6_branches
  refine fx6_edgesAmong h1 h2 hx hy (fx6_endsAmong G t h1 h2 hx hy hab hb ea eb (fun r3 hr => hq _ ?_))
  have q : (b6g_edgeStarts T y - b6g_edgeStarts T x).toInt = EB n C P b - EB n C P a := by rw [pt_sub (by omega) (by omega), ea, eb]
  rw [pt_sub (by rw [q, hr]; omega) (by rw [q, hr]; omega), q, hr]
  omega
/-! what is asked of a node -/
def NDV (n : Nat) (C L : Nat → Nat) (P : Nat → Nat → Nat) (un x a r : Int) : Prop := ∃ l s e : Nat, l ≤ 7 ∧ NST n C P l s ∧ GRQ n C P l s e n ∧ x = NB n C P (64 * l + s) ∧ (a = 0 → r = (l : Int)) ∧ (a = 1 → r = BB n C L P (64 * l + e) - BB n C L P (64 * l + s)) ∧ (a = 2 → r = KB n C P (64 * l + e) - KB n C P (64 * l + s)) ∧ (a = 3 → r = DB n C L P (64 * l + e) - DB n C L P (64 * l + s)) ∧ (a = 4 → (x < un → r = 1) ∧ (¬ x < un → r = 0)) ∧ (a = 5 → r = (s : Int)) ∧ (a = 6 → r = (e : Int) - (s : Int)) ∧ (¬ (0 ≤ a ∧ a ≤ 6) → r = -1)
theorem NDV_one {n : Nat} {C L : Nat → Nat} {P : Nat → Nat → Nat} (h64 : n ≤ 64) {un x a r q : Int} (h : NDV n C L P un x a r) (g : NDV n C L P un x a q) : r = q := by
  obtain ⟨l, s, e, h1, h2, h3, h4, a0, a1, a2, a3, a4, a5, a6, a7⟩ := h
  obtain ⟨l', s', e', g1, g2, g3, g4, b0, b1, b2, b3, b4, b5, b6, b7⟩ := g
  have sn := h2.1
  have sn' := g2.1
  have ew : 64 * l + s = 64 * l' + s' := CTP_inj (P := IsN n C P) ((IsN_at (by omega)).mpr h2) ((IsN_at (by omega)).mpr g2) (by show NB n C P (64 * l + s) = NB n C P (64 * l' + s'); omega)
  have el : l = l' := by omega
  have es : s = s' := by omega
  subst el
  subst es
  have ee := GRQ_one h3 g3
  subst ee
  by_cases z0 : a = 0
  · rw [a0 z0, b0 z0]
  by_cases z1 : a = 1
  · rw [a1 z1, b1 z1]
  by_cases z2 : a = 2
  · rw [a2 z2, b2 z2]
  by_cases z3 : a = 3
  · rw [a3 z3, b3 z3]
  by_cases z4 : a = 4
  · by_cases y : x < un
    · rw [(a4 z4).1 y, (b4 z4).1 y]
    · rw [(a4 z4).2 y, (b4 z4).2 y]
  by_cases z5 : a = 5
  · rw [a5 z5, b5 z5]
  by_cases z6 : a = 6
  · rw [a6 z6, b6 z6]
  rw [a7 (by omega), b7 (by omega)]
theorem AGX_b {X : bT1} {S : bT9} (h : AGX X S) : (∀ w, BB (tn X) (tC X) (tL X) (tP X) w = BB (n9 S) (C9 S) (L9 S) (P9 S) w) ∧ (∀ w, KB (tn X) (tC X) (tP X) w = KB (n9 S) (C9 S) (P9 S) w) ∧ (∀ w, DB (tn X) (tC X) (tL X) (tP X) w = DB (n9 S) (C9 S) (L9 S) (P9 S) w) ∧ (∀ l i, NST (tn X) (tC X) (tP X) l i ↔ NST (n9 S) (C9 S) (P9 S) l i) ∧ ∀ l s e, GRQ (tn X) (tC X) (tP X) l s e (tn X) ↔ GRQ (n9 S) (C9 S) (P9 S) l s e (n9 S) := by
  obtain ⟨e1, e2, _⟩ := AGX_g h
  have en := h.1
  have eL := h.2.2.1
  have eC := h.2.1
  have eP := h.2.2.2.1
  refine ⟨fun w => CTP_congr w (fun i _ => ?_), fun w => CTP_congr w (fun i _ => ?_), fun w => CTP_congr w (fun i _ => ?_), fun l i => ?_, fun l s e => ?_⟩
  · unfold IsB
    rw [e2]
    by_cases hi : i % 64 < n9 S
    · rw [eL _ hi]
    · exact ⟨fun z => absurd z.1.1 hi, fun z => absurd z.1.1 hi⟩
  · unfold IsK
    rw [e2]
    by_cases hi : i % 64 < n9 S
    · rw [eC _ hi]
    · exact ⟨fun z => absurd z.1.1 hi, fun z => absurd z.1.1 hi⟩
  · unfold IsD
    rw [e2]
    by_cases hi : i % 64 < n9 S
    · rw [eL _ hi]
    · exact ⟨fun z => absurd z.1.1 hi, fun z => absurd z.1.1 hi⟩
  · rw [en]
    unfold NST
    by_cases hi : i < n9 S
    · rw [eC i hi, eC (i - 1) (by omega), eP l i hi, eP l (i - 1) (by omega)]
    · exact ⟨fun t => absurd t.1 hi, fun t => absurd t.1 hi⟩
  · rw [en]
    unfold GRQ
    constructor
    · intro g
      have g1 := g.1
      have g2 := g.2.1
      refine ⟨g1, g2, fun k k1 k2 => ?_, fun t => ?_⟩
      · have := g.2.2.1 k k1 k2
        rw [eC k (by omega), eP l k (by omega), eP l s (by omega)] at this
        exact this
      · have := g.2.2.2 t
        rw [eC e t, eP l e t, eP l s (by omega)] at this
        exact this
    · intro g
      have g1 := g.1
      have g2 := g.2.1
      refine ⟨g1, g2, fun k k1 k2 => ?_, fun t => ?_⟩
      · rw [eC k (by omega), eP l k (by omega), eP l s (by omega)]
        exact g.2.2.1 k k1 k2
      · rw [eC e t, eP l e t, eP l s (by omega)]
        exact g.2.2.2 t
theorem NDV_agx {X : bT1} {S : bT9} (h : AGX X S) {un x a r : Int} (g : NDV (tn X) (tC X) (tL X) (tP X) un x a r) : NDV (n9 S) (C9 S) (L9 S) (P9 S) un x a r := by
  obtain ⟨_, _, _, eN, _, _⟩ := AGX_g h
  obtain ⟨eB, eK, eD, eS, eG⟩ := AGX_b h
  obtain ⟨l, s, e, g1, g2, g3, g4, a0, a1, a2, a3, a4⟩ := g
  rw [eB, eB] at a1
  rw [eK, eK] at a2
  rw [eD, eD] at a3
  rw [eN] at g4
  exact ⟨l, s, e, g1, (eS l s).mp g2, (eG l s e).mp g3, g4, a0, a1, a2, a3, a4⟩
/-! the upper levels of both -/
theorem TD_use {S u : bT9} (hJ : J9 u) (hP : T9P S) (sm : SM9 u S) (h : TDW u ∧ (b9g_areNodesLaid u).toInt ≠ 0 ∧ (b9g_isLaid u).toInt ≠ 0) : R9 u ∧ TD9 u := by
  have hPu := T9P_same hP sm
  exact ⟨R9_of hPu.1 hPu.2.1 hJ h.2.2, (h.1 h.2.1).1⟩
def UPX (X : bT1) (de ra : Int32) (k lv : Nat) : Prop := LEVS (tn X) (tC X) (tP X) (lv : Int) 8 ∧ lv ≤ 8 ∧ k ≤ lv ∧ UPS (tn X) (tC X) (tP X) de ra lv k
def UPD (S : bT9) (k lv : Nat) : Prop := LEVS (n9 S) (C9 S) (P9 S) (lv : Int) 8 ∧ lv ≤ 8 ∧ k ≤ lv ∧ UP9 (n9 S) (C9 S) (P9 S) (b9g_now S 13 - 1) (b9g_now S 14) lv k
theorem LEVS_one {n : Nat} {C : Nat → Nat} {P : Nat → Nat → Nat} {v w : Int} (h : LEVS n C P v 8) (g : LEVS n C P w 8) : v = w := by
  have nn := NB_nn (n := n) (C := C) (P := P)
  rcases h with ⟨h1, h2⟩ | ⟨q, h1, h2, h3, h4⟩
  · rcases g with ⟨g1, g2⟩ | ⟨p, g1, g2, g3, g4⟩
    · omega
    · have a := nn (64 * p)
      omega
  · rcases g with ⟨g1, g2⟩ | ⟨p, g1, g2, g3, g4⟩
    · have a := nn (64 * q)
      omega
    · have e : q = p := by
        apply Classical.byContradiction
        intro z
        by_cases y : q < p
        · have m := NB_mono (n := n) (C := C) (P := P) (show 64 * (q + 1) ≤ 64 * p by omega)
          have m2 := NB_mono (n := n) (C := C) (P := P) (show 64 * (p + 1) ≤ 64 * 8 by omega)
          omega
        · have m := NB_mono (n := n) (C := C) (P := P) (show 64 * (p + 1) ≤ 64 * q by omega)
          have m2 := NB_mono (n := n) (C := C) (P := P) (show 64 * (q + 1) ≤ 64 * 8 by omega)
          omega
      omega
theorem UPQ {X : bT1} {P : bT3} {S : bT9} (ag : AGX X S) (hb : (b9g_now S 9).toInt = 0 ∨ (b3g_values P 2 + 1 = b9g_now S 13 ∧ b3g_values P 3 = b9g_now S 14)) (hd : DB2 P) {k lv k' lv' : Nat} (h : UPX X (b3g_values P 2) (b3g_values P 3) k lv) (g : UPD S k' lv') : k = k' ∧ lv = lv' := by
  obtain ⟨_, _, _, eN, eE, _⟩ := AGX_g ag
  obtain ⟨h1, h2, h3, h4⟩ := h
  obtain ⟨g1, g2, g3, g4⟩ := g
  have h1' : LEVS (n9 S) (C9 S) (P9 S) (lv : Int) 8 := by
    unfold LEVS at h1 ⊢
    rcases h1 with ⟨a, b⟩ | ⟨q, a, b, c, d⟩
    · exact Or.inl ⟨a, by rw [← eN]; exact b⟩
    · exact Or.inr ⟨q, a, b, by rw [← eN, ← eN]; exact c, by rw [← eN, ← eN]; exact d⟩
  have el : lv = lv' := by
    have := LEVS_one h1' g1
    omega
  subst el
  refine ⟨?_, rfl⟩
  have d0 := hd.1
  have d9 := hd.2
  by_cases z : lv = 0
  · have a := g4.1 z
    omega
  · obtain ⟨e1, e2⟩ : b3g_values P 2 + 1 = b9g_now S 13 ∧ b3g_values P 3 = b9g_now S 14 := by
      rcases hb with y | y
      · exfalso
        have e0 : n9 S = 0 := by unfold n9; omega
        rcases g1 with ⟨y1, _⟩ | ⟨q, y1, _, y3, _⟩
        · omega
        · have kk : NB (n9 S) (C9 S) (P9 S) (64 * (q + 1)) = NB (n9 S) (C9 S) (P9 S) (64 * q) := CTP_st _ (by omega) (fun w _ _ r => by have := r.1; omega)
          omega
      · exact y
    have v21 : (b3g_values P 2 + 1).toInt = (b3g_values P 2).toInt + 1 := by rw [pt_add (by rw [pl_1]; omega) (by rw [pl_1]; omega), pl_1]
    have de : (b9g_now S 13 - 1).toInt = (b3g_values P 2).toInt := by
      rw [← e1, pt_sub (by rw [v21, pl_1]; omega) (by rw [v21, pl_1]; omega), v21, pl_1]
      omega
    have q := g4.2 z
    rw [de, ← e2] at q
    by_cases y : (b3g_values P 2).toInt = 9
    · have a := h4.1 y
      have b := q.1 (by omega)
      have eU : ∀ i, COU (tn X) (tC X) (tP X) (b3g_values P 3) i ↔ COU (n9 S) (C9 S) (P9 S) (b3g_values P 3) i := by
        intro i
        unfold COU BTN BTE
        rw [eN, eE, eE]
      exact UPR_one (n := n9 S) (C := C9 S) (P := P9 S) ⟨a.1, a.2.1.imp id (fun t => (eU k).mp t), fun i i1 i2 t => a.2.2 i i1 i2 ((eU i).mpr t)⟩ b
    · have a := h4.2 y
      have b := q.2 (by omega)
      omega
theorem C_node {X : bT1} {P : bT3} {S : bT9} {a b r q : Int32} (h9 : 0 ≤ (b9g_now S 9).toInt) (h64 : (b9g_now S 9).toInt ≤ 64) (hx : LFP X (b9g_now S) (fun j => b9g_keys S (64 + j)) (fun j => b9g_lengths S (64 + j))) (hb : (b9g_now S 9).toInt = 0 ∨ (b3g_values P 2 + 1 = b9g_now S 13 ∧ b3g_values P 3 = b9g_now S 14)) (hd : DB2 P) {A B : Prop} (ha : A) (hbb : B) (h : A → ∃ k lv : Nat, UPX X (b3g_values P 2) (b3g_values P 3) k lv ∧ ((0 ≤ a.toInt ∧ a.toInt < NB (tn X) (tC X) (tP X) 512) → NDV (tn X) (tC X) (tL X) (tP X) (NB (tn X) (tC X) (tP X) (64 * k)) a.toInt b.toInt r.toInt) ∧ (¬ (0 ≤ a.toInt ∧ a.toInt < NB (tn X) (tC X) (tP X) 512) → r.toInt = -1)) (h2 : B → ∃ k lv : Nat, UPD S k lv ∧ ((0 ≤ a.toInt ∧ a.toInt < NB (n9 S) (C9 S) (P9 S) 512) → NDV (n9 S) (C9 S) (L9 S) (P9 S) (NB (n9 S) (C9 S) (P9 S) (64 * k)) a.toInt b.toInt q.toInt) ∧ (¬ (0 ≤ a.toInt ∧ a.toInt < NB (n9 S) (C9 S) (P9 S) 512) → q.toInt = -1)) : r.toInt = q.toInt := by
  have ag := AGX_of h9 hx
  obtain ⟨_, _, _, eN, _, _⟩ := AGX_g ag
  obtain ⟨k, lv, u1, u2, u3⟩ := h ha
  obtain ⟨k', lv', v1, v2, v3⟩ := h2 hbb
  obtain ⟨e1, e2⟩ := UPQ ag hb hd u1 v1
  subst e1
  rw [eN] at u2 u3
  have n64 : n9 S ≤ 64 := by unfold n9; omega
  by_cases z : 0 ≤ a.toInt ∧ a.toInt < NB (n9 S) (C9 S) (P9 S) 512
  · refine NDV_one n64 (NDV_agx ag ?_) (v2 z)
    have := u2 z
    rw [eN] at this
    exact this
  · rw [u3 z, v3 z]
/-! items, least, tails -/
def ITV (n : Nat) (C L : Nat → Nat) (P : Nat → Nat → Nat) (f : Nat → Int64) (u : Nat) (k a r : Int) : Prop := ∃ w : Nat, 64 * u ≤ w ∧ w < 512 ∧ IsE n C P w ∧ EB n C P w - EB n C P (64 * u) = k ∧ (a = 0 → r = (OCV f L w).toInt) ∧ (a = 1 → (L (w % 64) = w / 64 → r = 1) ∧ (¬ L (w % 64) = w / 64 → r = 0)) ∧ (a = 2 → (C (w % 64) = w / 64 → r = 0) ∧ (¬ C (w % 64) = w / 64 → r = 1)) ∧ (a = 3 → r = NB n C P (w + 1) - 1) ∧ (¬ (0 ≤ a ∧ a ≤ 3) → r = -1)
theorem ITV_one {n : Nat} {C L : Nat → Nat} {P : Nat → Nat → Nat} {f : Nat → Int64} {u : Nat} {k a r q : Int} (h : ITV n C L P f u k a r) (g : ITV n C L P f u k a q) : r = q := by
  obtain ⟨w, _, _, h3, h4, a0, a1, a2, a3, a4⟩ := h
  obtain ⟨v, _, _, g3, g4, b0, b1, b2, b3, b4⟩ := g
  have e : w = v := CTP_inj (P := IsE n C P) h3 g3 (by show EB n C P w = EB n C P v; omega)
  subst e
  by_cases z0 : a = 0
  · rw [a0 z0, b0 z0]
  by_cases z1 : a = 1
  · by_cases y : L (w % 64) = w / 64
    · rw [(a1 z1).1 y, (b1 z1).1 y]
    · rw [(a1 z1).2 y, (b1 z1).2 y]
  by_cases z2 : a = 2
  · by_cases y : C (w % 64) = w / 64
    · rw [(a2 z2).1 y, (b2 z2).1 y]
    · rw [(a2 z2).2 y, (b2 z2).2 y]
  by_cases z3 : a = 3
  · rw [a3 z3, b3 z3]
  rw [a4 (by omega), b4 (by omega)]
theorem ITV_agx {X : bT1} {S : bT9} (h : AGX X S) {u : Nat} {k a r : Int} (g : ITV (tn X) (tC X) (tL X) (tP X) (b0g_bytes (b1g_owners X)) u k a r) : ITV (n9 S) (C9 S) (L9 S) (P9 S) (fun j => b9g_keys S (64 + j)) u k a r := by
  obtain ⟨_, eE2, _, eN, eE, _⟩ := AGX_g h
  obtain ⟨w, g1, g2, g3, g4, a0, a1, a2, a3, a4⟩ := g
  rw [eE, eE] at g4
  rw [eN] at a3
  have g3' := (eE2 w).mp g3
  have hi := g3'.1
  rw [h.2.2.1 _ hi] at a1
  rw [h.2.1 _ hi] at a2
  have eo : OCV (b0g_bytes (b1g_owners X)) (tL X) w = OCV (fun j => b9g_keys S (64 + j)) (L9 S) w := by
    unfold OCV
    rw [h.2.2.1 _ hi, h.2.2.2.2 _ hi]
  rw [eo] at a0
  exact ⟨w, g1, g2, g3', g4, a0, a1, a2, a3, a4⟩
theorem C_item {X : bT1} {P : bT3} {S : bT9} {a b r q : Int32} (h9 : 0 ≤ (b9g_now S 9).toInt) (hx : LFP X (b9g_now S) (fun j => b9g_keys S (64 + j)) (fun j => b9g_lengths S (64 + j))) (hb : (b9g_now S 9).toInt = 0 ∨ (b3g_values P 2 + 1 = b9g_now S 13 ∧ b3g_values P 3 = b9g_now S 14)) (hd : DB2 P) {A B : Prop} (ha : A) (hbb : B) (h : A → ∃ k lv : Nat, UPX X (b3g_values P 2) (b3g_values P 3) k lv ∧ ((0 ≤ a.toInt ∧ a.toInt < EB (tn X) (tC X) (tP X) 512 - EB (tn X) (tC X) (tP X) (64 * k)) → ITV (tn X) (tC X) (tL X) (tP X) (b0g_bytes (b1g_owners X)) k a.toInt b.toInt r.toInt) ∧ (¬ (0 ≤ a.toInt ∧ a.toInt < EB (tn X) (tC X) (tP X) 512 - EB (tn X) (tC X) (tP X) (64 * k)) → r.toInt = -1)) (h2 : B → ∃ k lv : Nat, UPD S k lv ∧ ((0 ≤ a.toInt ∧ a.toInt < EB (n9 S) (C9 S) (P9 S) 512 - EB (n9 S) (C9 S) (P9 S) (64 * k)) → ITV (n9 S) (C9 S) (L9 S) (P9 S) (fun j => b9g_keys S (64 + j)) k a.toInt b.toInt q.toInt) ∧ (¬ (0 ≤ a.toInt ∧ a.toInt < EB (n9 S) (C9 S) (P9 S) 512 - EB (n9 S) (C9 S) (P9 S) (64 * k)) → q.toInt = -1)) : r.toInt = q.toInt := by
  have ag := AGX_of h9 hx
  obtain ⟨_, _, _, _, eE, _⟩ := AGX_g ag
  obtain ⟨k, lv, u1, u2, u3⟩ := h ha
  obtain ⟨k', lv', v1, v2, v3⟩ := h2 hbb
  obtain ⟨e1, e2⟩ := UPQ ag hb hd u1 v1
  subst e1
  rw [eE, eE] at u2 u3
  by_cases z : 0 ≤ a.toInt ∧ a.toInt < EB (n9 S) (C9 S) (P9 S) 512 - EB (n9 S) (C9 S) (P9 S) (64 * k)
  · exact ITV_one (ITV_agx ag (u2 z)) (v2 z)
  · rw [u3 z, v3 z]
theorem fx9_hashBits {S : bT9} {Q : Int32 → Prop} (hq : Q (HBT (b9g_now S))) : wp_X9_hashBits S Q := by
  unfold wp_X9_hashBits
  refine ⟨pt_in (by decide) (by decide), by decide, fun c => ?_, fun c => ⟨pt_in (by decide) (by decide), ?_⟩⟩
  · have e : HBT (b9g_now S) = 0 := if_neg c
    rw [e] at hq
    exact hq
  · have e : HBT (b9g_now S) = b9g_now S 11 := if_pos c
    rw [e] at hq
    exact hq
theorem fx9_nextBits {S : bT9} {Q : Int32 → Prop} (hq : Q (NBT (b9g_now S))) : wp_X9_nextBits S Q := by
  unfold wp_X9_nextBits
  refine ⟨pt_in (by decide) (by decide), fun c => ?_, fun c => ⟨pt_in (by decide) (by decide), ?_⟩⟩
  · have e : NBT (b9g_now S) = 0 := if_pos c
    rw [e] at hq
    exact hq
  · have e : NBT (b9g_now S) = b9g_now S 12 := if_neg c
    rw [e] at hq
    exact hq
def TLB (c h r : Int32) : Int32 := c * (h + r)
theorem fx9_tailBits {S : bT9} {Q : Int32 → Prop} (hq : Q (TLB (b9g_now S 9) (HBT (b9g_now S)) (NBT (b9g_now S)))) : wp_X9_tailBits S Q := by
  unfold wp_X9_tailBits
  exact ⟨pt_in (by decide) (by decide), fx9_hashBits (fx9_nextBits hq)⟩
theorem TLB_eq {X : bT1} {n : Nat → Int32} {f : Nat → Int64} {g : Nat → Int32} (hx : LFP X n f g) : TLB (b0g_count (b1g_owners X)) (b1g_hashBits X) (b1g_realBits X) = TLB (n 9) (HBT n) (NBT n) := by
  rw [Int32.toInt_inj.mp hx.2.2.2.1, hx.2.2.2.2.2.1, hx.2.2.2.2.2.2.1]
noncomputable def BTS (n : Nat) (C : Nat → Nat) (P : Nat → Nat → Nat) (u : Nat) : Int := BTN n C P u + BTE n C P u
def LSU (n : Nat) (C : Nat → Nat) (P : Nat → Nat → Nat) (lv u : Nat) : Prop := u ≤ lv ∧ (∀ i, i < u → BTS n C P u < BTS n C P i) ∧ ∀ i, i ≤ lv → BTS n C P u ≤ BTS n C P i
theorem LSU_one {n : Nat} {C : Nat → Nat} {P : Nat → Nat → Nat} {lv u v : Nat} (h : LSU n C P lv u) (g : LSU n C P lv v) : u = v := by
  by_cases a : u < v
  · have x := g.2.1 u a
    have y := h.2.2 v g.1
    omega
  · by_cases b : v < u
    · have x := h.2.1 v b
      have y := g.2.2 u h.1
      omega
    · omega
def LSV (n : Nat) (C : Nat → Nat) (P : Nat → Nat → Nat) (tl : Int32) (lv : Nat) (a r : Int32) : Prop := ∃ u : Nat, LSU n C P lv u ∧ (a.toInt = 0 → r.toInt = (u : Int)) ∧ (a.toInt = 1 → ∃ x : Int32, x.toInt = BTS n C P u ∧ r = x + tl) ∧ (¬ (0 ≤ a.toInt ∧ a.toInt ≤ 1) → r.toInt = -1)
theorem LSV_one {n : Nat} {C : Nat → Nat} {P : Nat → Nat → Nat} {tl : Int32} {lv : Nat} {a r q : Int32} (h : LSV n C P tl lv a r) (g : LSV n C P tl lv a q) : r.toInt = q.toInt := by
  obtain ⟨u, h1, a0, a1, a2⟩ := h
  obtain ⟨v, g1, b0, b1, b2⟩ := g
  have e := LSU_one h1 g1
  subst e
  by_cases z0 : a.toInt = 0
  · rw [a0 z0, b0 z0]
  by_cases z1 : a.toInt = 1
  · obtain ⟨x, x1, x2⟩ := a1 z1
    obtain ⟨y, y1, y2⟩ := b1 z1
    rw [x2, y2, Int32.toInt_inj.mp (x1.trans y1.symm)]
  rw [a2 (by omega), b2 (by omega)]
theorem C_least {X : bT1} {P : bT3} {S : bT9} {a r q : Int32} (h9 : 0 ≤ (b9g_now S 9).toInt) (hx : LFP X (b9g_now S) (fun j => b9g_keys S (64 + j)) (fun j => b9g_lengths S (64 + j))) (hb : (b9g_now S 9).toInt = 0 ∨ (b3g_values P 2 + 1 = b9g_now S 13 ∧ b3g_values P 3 = b9g_now S 14)) (hd : DB2 P) {A B : Prop} (ha : A) (hbb : B) (h : A → ∃ k lv : Nat, UPX X (b3g_values P 2) (b3g_values P 3) k lv ∧ LSV (tn X) (tC X) (tP X) (TLB (b0g_count (b1g_owners X)) (b1g_hashBits X) (b1g_realBits X)) lv a r) (h2 : B → ∃ k lv : Nat, UPD S k lv ∧ LSV (n9 S) (C9 S) (P9 S) (TLB (b9g_now S 9) (HBT (b9g_now S)) (NBT (b9g_now S))) lv a q) : r.toInt = q.toInt := by
  have ag := AGX_of h9 hx
  obtain ⟨_, _, _, eN, eE, _⟩ := AGX_g ag
  obtain ⟨k, lv, u1, u2⟩ := h ha
  obtain ⟨k', lv', v1, v2⟩ := h2 hbb
  obtain ⟨e1, e2⟩ := UPQ ag hb hd u1 v1
  subst e2
  have eB : ∀ i, BTS (tn X) (tC X) (tP X) i = BTS (n9 S) (C9 S) (P9 S) i := by
    intro i
    unfold BTS BTN BTE
    rw [eN, eE, eE]
  refine LSV_one ?_ v2
  obtain ⟨u, w1, w2, w3, w4⟩ := u2
  rw [TLB_eq hx, eB] at w3
  refine ⟨u, ⟨w1.1, fun i hi => ?_, fun i hi => ?_⟩, w2, w3, w4⟩
  · have := w1.2.1 i hi
    rw [eB, eB] at this
    exact this
  · have := w1.2.2 i hi
    rw [eB, eB] at this
    exact this
theorem LSU_ex {n : Nat} {C : Nat → Nat} {P : Nat → Nat → Nat} : ∀ lv : Nat, ∃ u : Nat, LSU n C P lv u := by
  intro lv
  induction lv with
  | zero => exact ⟨0, Nat.le_refl _, fun i hi => by omega, fun i hi => by rw [show i = 0 by omega]; exact Int.le_refl _⟩
  | succ lv ih =>
    obtain ⟨u, h1, h2, h3⟩ := ih
    by_cases z : BTS n C P (lv + 1) < BTS n C P u
    · refine ⟨lv + 1, Nat.le_refl _, fun i hi => ?_, fun i hi => ?_⟩
      · have := h3 i (by omega)
        omega
      · by_cases y : i = lv + 1
        · rw [y]; exact Int.le_refl _
        · have := h3 i (by omega)
          omega
    · refine ⟨u, by omega, h2, fun i hi => ?_⟩
      by_cases y : i = lv + 1
      · rw [y]; omega
      · exact h3 i (by omega)
/-! what is asked of a leaf -/
def LFV (n : Nat) (C : Nat → Nat) (P : Nat → Nat → Nat) (f : Nat → Int64) (g : Nat → Int32) (sa hb rb : Int32) (i : Nat) (a r : Int32) : Prop := (a.toInt = 0 → r.toInt = ((min (C i + 1) (g i).toInt.toNat : Nat) : Int)) ∧ (a.toInt = 1 → (C i = (g i).toInt.toNat → r.toInt = 1) ∧ (¬ C i = (g i).toInt.toNat → r.toInt = 0)) ∧ (a.toInt = 2 → r = LWS (MIX sa (f i) (g i)) hb) ∧ (a.toInt = 3 → r = (OC8 (f i) (nI (min (C i + 1) (g i).toInt.toNat))) >>> (((8 : Int32) - rb) &&& 31)) ∧ (a.toInt = 4 → r.toInt = LB n C (64 * C i + i)) ∧ (a.toInt = 5 → r.toInt = NB n C P (64 * C i + i + 1) - 1) ∧ (a.toInt = 6 → r.toInt = (C i : Int)) ∧ (10 ≤ a.toInt ∧ a.toInt < 10 + ((min (C i + 1) (g i).toInt.toNat : Nat) : Int) → r = OCT (f i) (a - 10)) ∧ (¬ (0 ≤ a.toInt ∧ a.toInt ≤ 6) → ¬ (10 ≤ a.toInt ∧ a.toInt < 10 + ((min (C i + 1) (g i).toInt.toNat : Nat) : Int)) → r.toInt = -1)
theorem LFV_one {n : Nat} {C : Nat → Nat} {P : Nat → Nat → Nat} {f : Nat → Int64} {g : Nat → Int32} {sa hb rb : Int32} {i : Nat} {a r q : Int32} (h : LFV n C P f g sa hb rb i a r) (k : LFV n C P f g sa hb rb i a q) : r.toInt = q.toInt := by
  obtain ⟨a0, a1, a2, a3, a4, a5, a6, a7, a8⟩ := h
  obtain ⟨b0, b1, b2, b3, b4, b5, b6, b7, b8⟩ := k
  by_cases z0 : a.toInt = 0
  · rw [a0 z0, b0 z0]
  by_cases z1 : a.toInt = 1
  · by_cases y : C i = (g i).toInt.toNat
    · rw [(a1 z1).1 y, (b1 z1).1 y]
    · rw [(a1 z1).2 y, (b1 z1).2 y]
  by_cases z2 : a.toInt = 2
  · rw [a2 z2, b2 z2]
  by_cases z3 : a.toInt = 3
  · rw [a3 z3, b3 z3]
  by_cases z4 : a.toInt = 4
  · rw [a4 z4, b4 z4]
  by_cases z5 : a.toInt = 5
  · rw [a5 z5, b5 z5]
  by_cases z6 : a.toInt = 6
  · rw [a6 z6, b6 z6]
  by_cases z7 : 10 ≤ a.toInt ∧ a.toInt < 10 + ((min (C i + 1) (g i).toInt.toNat : Nat) : Int)
  · rw [a7 z7, b7 z7]
  · rw [a8 (by omega) z7, b8 (by omega) z7]
theorem C_leaf2 {X : bT1} {S : bT9} {a b r q : Int32} (h9 : 0 ≤ (b9g_now S 9).toInt) (hx : LFP X (b9g_now S) (fun j => b9g_keys S (64 + j)) (fun j => b9g_lengths S (64 + j))) {A B : Prop} (ha : A) (hbb : B) (h : A → ((0 ≤ a.toInt ∧ a.toInt < (b0g_count (b1g_owners X)).toInt) → LFV (tn X) (tC X) (tP X) (b0g_bytes (b1g_owners X)) (b0g_lengths (b1g_owners X)) (b1g_salt X) (b1g_hashBits X) (b1g_realBits X) a.toInt.toNat b r) ∧ (¬ (0 ≤ a.toInt ∧ a.toInt < (b0g_count (b1g_owners X)).toInt) → r.toInt = -1)) (h2 : B → ((0 ≤ a.toInt ∧ a.toInt < (b9g_now S 9).toInt) → LFV (n9 S) (C9 S) (P9 S) (fun j => b9g_keys S (64 + j)) (fun j => b9g_lengths S (64 + j)) (b9g_now S 16) (HBT (b9g_now S)) (NBT (b9g_now S)) a.toInt.toNat b q) ∧ (¬ (0 ≤ a.toInt ∧ a.toInt < (b9g_now S 9).toInt) → q.toInt = -1)) : r.toInt = q.toInt := by
  have ag := AGX_of h9 hx
  obtain ⟨_, _, _, eN, _, eL⟩ := AGX_g ag
  have u := h ha
  have v := h2 hbb
  rw [hx.2.2.2.1] at u
  by_cases z : 0 ≤ a.toInt ∧ a.toInt < (b9g_now S 9).toInt
  · refine LFV_one ?_ (v.1 z)
    have w := u.1 z
    have hi : a.toInt.toNat < n9 S := by unfold n9; omega
    have e1 := (hx.2.2.2.2.1 a.toInt.toNat (by omega)).1
    have e2 := (hx.2.2.2.2.1 a.toInt.toNat (by omega)).2
    unfold LFV at w ⊢
    rw [ag.2.1 _ hi, eL, eN, hx.2.2.2.2.2.1, hx.2.2.2.2.2.2.1, hx.2.2.2.2.2.2.2.1] at w
    rw [e1, e2]
    exact w
  · rw [u.2 z, v.2 z]
theorem i32_sh0 (x : Int32) : (0 : Int32) >>> x = 0 := by
  rw [Int32.zero_shiftRight]
/-- the node of a leaf -/
theorem fx9_nodeOf {S : bT9} (h : R9 S) (hN : N9 S) {a1 : Int32} {i : Nat} {Q : Int32 → Prop} (h1 : a1.toInt = (i : Int)) (hi : i < n9 S) (hq : ∀ r : Int32, r.toInt = NB (n9 S) (C9 S) (P9 S) (64 * C9 S i + i + 1) - 1 → Q r) : wp_X9_nodeOf S a1 Q := by
  have G := h.1
  have g64 := G.1
  have ai := G.2.1 i hi
  have bi := h.2.2 i hi
  obtain ⟨s, s1, s2, s3, s4⟩ := GRP_st (P := P9 S) g64 (l := C9 S i) i hi (Nat.le_refl _)
  have n5 := NB_le G (l := 7) (i := 64) (by omega) (by omega)
  have nb5 : NB (n9 S) (C9 S) (P9 S) (64 * 7 + 64) = NB (n9 S) (C9 S) (P9 S) 512 := rfl
  have nn := NB_nn (n := n9 S) (C := C9 S) (P := P9 S) (64 * C9 S i + s)
  have lt5 : NB (n9 S) (C9 S) (P9 S) (64 * C9 S i + s) < NB (n9 S) (C9 S) (P9 S) 512 := CTP_lt (by omega) ((IsN_at (by omega)).mpr s2)
  have hm := hN.1
  have ei : a1.toNatClampNeg = i := by
    show a1.toInt.toNat = i
    omega
  have loop : ∀ t0 : Int32, t0.toInt = (C9 S i : Int) → wp_X9_nodeOf_25 S a1 t0 Q := by
    intro t0 ht
    unfold wp_X9_nodeOf_25 wp_X9_nodeOf_28
    refine ⟨fun k x1 x2 x3 => ∃ x : Nat, a1 = x1 ∧ t0 = x2 ∧ x3.toInt = (x : Int) ∧ (x : Int) ≤ NB (n9 S) (C9 S) (P9 S) (64 * C9 S i + s) ∧ k = 600 - x, ⟨_, 0, rfl, rfl, rfl, by omega, rfl⟩, ?_⟩
    rintro k x1 x2 x3 ⟨x, rfl, rfl, e3, xm, hk⟩
    suffices H : ∀ B : Int32 → Int32 → Int32 → Prop, ((x : Int) < NB (n9 S) (C9 S) (P9 S) (64 * C9 S i + s) → B a1 t0 (x3 + 1)) → wp_X9_nodeOf_28b S a1 t0 x3 Q B from H _ (fun hx => ⟨600 - (x + 1), by omega, x + 1, rfl, rfl, by rw [pt_add (by rw [pl_1]; omega) (by rw [pl_1]; omega), pl_1, e3]; omega, by omega, rfl⟩)
    intro B hB
    have ex : x3.toNatClampNeg = x := by
      show x3.toInt.toNat = x
      omega
    obtain ⟨l, t, e, ha⟩ := AT9_of h hN (x := x) (by omega)
    have ha' := ha
    obtain ⟨x5, l7, hs, hg, hx, f1, f2, f3⟩ := ha'
    have ge := hg.1
    have gn := hg.2.1
    -- the node is the one exactly when the leaf is in it
    have one : l = C9 S i → t ≤ i → i < e → (x : Int) = NB (n9 S) (C9 S) (P9 S) (64 * C9 S i + s) := by
      intro z1 z2 z3
      subst z1
      have k := NST_one hs s2 z2 s1 (fun k k1 k2 => hg.2.2.1 k k1 (by omega)) s4
      rw [← k]
      exact hx
    have back : (x : Int) = NB (n9 S) (C9 S) (P9 S) (64 * C9 S i + s) → l = C9 S i ∧ t ≤ i ∧ i < e := by
      intro z
      have w : 64 * l + t = 64 * C9 S i + s := CTP_inj (P := IsN (n9 S) (C9 S) (P9 S)) ((IsN_at (by omega)).mpr hs) ((IsN_at (by omega)).mpr s2) (by show NB (n9 S) (C9 S) (P9 S) (64 * l + t) = NB (n9 S) (C9 S) (P9 S) (64 * C9 S i + s); omega)
      have el : l = C9 S i := by omega
      have et : t = s := by omega
      refine ⟨el, by omega, ?_⟩
      apply Classical.byContradiction
      intro y
      have q := s4 e (by omega) (by omega)
      refine hg.2.2.2 (by omega) ⟨by rw [el]; exact q.1, ?_⟩
      rw [el, et]
      exact q.2
    unfold wp_X9_nodeOf_28b
    rw [ex]
    refine ⟨fun c => ?_, fun c => ⟨pt_in (by omega) (by omega), fun d => ?_, fun d => ⟨pt_in (by omega) (by omega), fun d2 => ?_, fun d2 => fx9_lastOf e3 x5 f2 f3 ge (by omega) (fun r1 hr => ⟨fun d3 => ?_, fun d3 => ?_⟩)⟩⟩⟩
    · simp only [pn] at c
      omega
    · simp only [pn] at d
      unfold wp_X9_nodeOf_67
      refine hB ?_
      apply Classical.byContradiction
      intro y
      have := back (by omega)
      omega
    · simp only [pn] at d2
      unfold wp_X9_nodeOf_67
      refine hB ?_
      apply Classical.byContradiction
      intro y
      have := back (by omega)
      omega
    · simp only [pn] at d3
      unfold wp_X9_nodeOf_67
      refine hB ?_
      apply Classical.byContradiction
      intro y
      have := back (by omega)
      omega
    · simp only [pn] at d d2 d3
      refine hq x3 ?_
      have := one (by omega) (by omega) (by omega)
      rw [s3]
      omega
  have c9 : b9g_lengths S (64 + i) = b9g_lengths S (64 + i) := rfl
  have ln : L9 S i = (b9g_lengths S (64 + i)).toInt.toNat := rfl
  unfold wp_X9_nodeOf wp_X9_isEnded
  refine ⟨pt_in (by omega) (by omega), fx9_lengthOf (by omega) (by omega) ?_⟩
  rw [ei]
  refine ⟨fun c => ⟨rfl, fun _ => ⟨pt_in (by omega) (by omega), loop _ ?_⟩, fun z => absurd rfl z⟩, fun c => ⟨rfl, fun z => absurd z (by decide), fun _ => ⟨pt_in (by omega) (by omega), loop _ ?_⟩⟩⟩
  · simp only [pn] at c
    rw [pt_sub (by rw [pl_1]; omega) (by rw [pl_1]; omega), pl_1]
    omega
  · simp only [pn] at c
    omega
/-! a look -/
def SMB (b : Nat → Nat) : Nat → Int
  | 0 => 0
  | i + 1 => SMB b i + (b i : Int)
theorem SMB_congr {b d : Nat → Nat} : ∀ n : Nat, (∀ i, i < n → b i = d i) → SMB b n = SMB d n := by
  intro n
  induction n with
  | zero => exact fun _ => rfl
  | succ n ih =>
    intro h
    show SMB b n + (b n : Int) = SMB d n + (d n : Int)
    rw [ih (fun i hi => h i (by omega)), h n (by omega)]
theorem SMB_rng {b : Nat → Nat} (hb : ∀ i, b i ≤ 8) : ∀ n : Nat, 0 ≤ SMB b n ∧ SMB b n ≤ 8 * (n : Int) := by
  intro n
  induction n with
  | zero => exact ⟨Int.le_refl _, Int.le_refl _⟩
  | succ n ih =>
    have := hb n
    show 0 ≤ SMB b n + (b n : Int) ∧ SMB b n + (b n : Int) ≤ 8 * ((n + 1 : Nat) : Int)
    omega
theorem fx_allEnded {X : bT1} (o : LVO X) (j : J1 X) {Q : Int32 → Prop} (hq : ∀ r : Int32, r.toInt = CTP (fun i => tC X i = tL X i) (tn X) → Q r) : wp_X1_allEnded X Q := by
  have jn := tnn j
  have jo := J0g_count (J1g_owners j)
  unfold wp_X1_allEnded wp_X1_allEnded_4
  refine ⟨fun k x1 x2 => ∃ i : Nat, x2.toInt = (i : Int) ∧ i ≤ tn X ∧ x1.toInt = CTP (fun i => tC X i = tL X i) i ∧ k = 64 - i, ⟨_, 0, rfl, by omega, rfl, rfl⟩, ?_⟩
  rintro k x1 x2 ⟨i, e2, hi, hv, hk⟩
  have cr := CTP_rng (fun i => tC X i = tL X i) i
  suffices H : ∀ B : Int32 → Int32 → Prop, (∀ v : Int32, i < tn X → v.toInt = CTP (fun i => tC X i = tL X i) (i + 1) → B v (x2 + 1)) → wp_X1_allEnded_4b X x1 x2 Q B from H _ (fun v h t => ⟨64 - (i + 1), by omega, i + 1, by rw [pt_add (by rw [pl_1]; omega) (by rw [pl_1]; omega), pl_1, e2]; omega, by omega, t, rfl⟩)
  intro B hB
  unfold wp_X1_allEnded_4b
  refine ⟨fun c => ?_, fun c => ?_⟩
  · simp only [pn] at c
    have ei : i = tn X := by omega
    rw [ei] at hv
    exact hq x1 hv
  simp only [pn] at c
  refine fx_endAt o j e2 (by omega) (fun r1 hr => ⟨fun d => ?_, fun d => ?_⟩)
  · unfold wp_X1_allEnded_29
    refine hB _ (by omega) ?_
    rw [CTP_n (P := fun i => tC X i = tL X i) (hr.mp d), pt_add (by rw [pl_0]; omega) (by rw [pl_0]; omega), pl_0, hv]
    omega
  · unfold wp_X1_allEnded_29
    refine hB _ (by omega) ?_
    rw [CTP_y (P := fun i => tC X i = tL X i) (Classical.byContradiction (fun z => d (hr.mpr z))), pt_add (by rw [pl_1]; omega) (by rw [pl_1]; omega), pl_1, hv]
theorem fx_allBytes {X : bT1} (o : LVO X) (j : J1 X) {Q : Int32 → Prop} (hq : ∀ r : Int32, r.toInt = SMB (fun i => min (min (tC X i + 1) (tL X i)) 8) (tn X) → Q r) : wp_X1_allBytes X Q := by
  have jn := tnn j
  have jo := J0g_count (J1g_owners j)
  have G := tG o j
  unfold wp_X1_allBytes wp_X1_allBytes_4
  refine ⟨fun k x1 x2 => ∃ i : Nat, x2.toInt = (i : Int) ∧ i ≤ tn X ∧ x1.toInt = SMB (fun i => min (min (tC X i + 1) (tL X i)) 8) i ∧ k = 64 - i, ⟨_, 0, rfl, by omega, rfl, rfl⟩, ?_⟩
  rintro k x1 x2 ⟨i, e2, hi, hv, hk⟩
  have cr := SMB_rng (b := fun i => min (min (tC X i + 1) (tL X i)) 8) (fun i => Nat.min_le_right _ _) i
  suffices H : ∀ B : Int32 → Int32 → Prop, (∀ v : Int32, i < tn X → v.toInt = SMB (fun i => min (min (tC X i + 1) (tL X i)) 8) (i + 1) → B v (x2 + 1)) → wp_X1_allBytes_4b X x1 x2 Q B from H _ (fun v h t => ⟨64 - (i + 1), by omega, i + 1, by rw [pt_add (by rw [pl_1]; omega) (by rw [pl_1]; omega), pl_1, e2]; omega, by omega, t, rfl⟩)
  intro B hB
  unfold wp_X1_allBytes_4b
  refine ⟨fun c => ?_, fun c => ?_⟩
  · simp only [pn] at c
    have ei : i = tn X := by omega
    rw [ei] at hv
    exact hq x1 hv
  simp only [pn] at c
  refine fx_lenAt o j e2 (by omega) (fun r1 hr => hB _ (by omega) ?_)
  have ai := G.2.1 i (by omega)
  show (x1 + r1).toInt = SMB (fun i => min (min (tC X i + 1) (tL X i)) 8) i + ((min (min (tC X i + 1) (tL X i)) 8 : Nat) : Int)
  rw [pt_add (by omega) (by omega), hv, hr]
  omega
theorem fx9_isEnded {S : bT9} (h : R9 S) {a : Int32} {i : Nat} {Q : Int32 → Prop} (h0 : a.toInt = (i : Int)) (h1 : i < n9 S) (hk : K9 S) (hq : ∀ r : Int32, (r = 0 ↔ ¬ C9 S i = L9 S i) → Q r) : wp_X9_isEnded S a Q := by
  have g64 := h.1.1
  have bi := (h.2.2 i h1).2
  have lr := K9g_lengths hk (64 + i)
  have ln : L9 S i = (b9g_lengths S (64 + i)).toInt.toNat := rfl
  have ei : a.toNatClampNeg = i := by
    show a.toInt.toNat = i
    omega
  unfold wp_X9_isEnded
  refine ⟨pt_in (by omega) (by omega), fx9_lengthOf (by omega) (by omega) ?_⟩
  rw [ei]
  refine ⟨fun c => ⟨rfl, hq _ ⟨fun _ => ?_, fun _ => rfl⟩⟩, fun c => ⟨rfl, hq _ ⟨fun z => absurd z (by decide), fun z => absurd ?_ z⟩⟩⟩
  · simp only [pn] at c
    omega
  · simp only [pn] at c
    omega
theorem fx9_endedMany {S : bT9} (h : R9 S) (hk : K9 S) {Q : Int32 → Prop} (hq : ∀ r : Int32, r.toInt = CTP (fun i => C9 S i = L9 S i) (n9 S) → Q r) : wp_X9_endedMany S Q := by
  have g64 := h.1.1
  have en : ((n9 S : Nat) : Int) = (b9g_now S 9).toInt := by have := h.2.1; unfold n9; omega
  unfold wp_X9_endedMany wp_X9_endedMany_4
  refine ⟨fun k x1 x2 => ∃ i : Nat, x2.toInt = (i : Int) ∧ i ≤ n9 S ∧ x1.toInt = CTP (fun i => C9 S i = L9 S i) i ∧ k = 64 - i, ⟨_, 0, rfl, by omega, rfl, rfl⟩, ?_⟩
  rintro k x1 x2 ⟨i, e2, hi, hv, hk'⟩
  have cr := CTP_rng (fun i => C9 S i = L9 S i) i
  suffices H : ∀ B : Int32 → Int32 → Prop, (∀ v : Int32, i < n9 S → v.toInt = CTP (fun i => C9 S i = L9 S i) (i + 1) → B v (x2 + 1)) → wp_X9_endedMany_4b S x1 x2 Q B from H _ (fun v h t => ⟨64 - (i + 1), by omega, i + 1, by rw [pt_add (by rw [pl_1]; omega) (by rw [pl_1]; omega), pl_1, e2]; omega, by omega, t, rfl⟩)
  intro B hB
  have e9 : b9g_now S ((9 : Int32)).toNatClampNeg = b9g_now S 9 := rfl
  unfold wp_X9_endedMany_4b
  rw [e9]
  refine ⟨pt_in (by decide) (by decide), fun c => ?_, fun c => ?_⟩
  · simp only [pn] at c
    have ei : i = n9 S := by omega
    rw [ei] at hv
    exact hq x1 hv
  simp only [pn] at c
  refine fx9_isEnded h e2 (by omega) hk (fun r1 hr => ⟨fun d => ?_, fun d => ?_⟩)
  · unfold wp_X9_endedMany_27
    refine hB _ (by omega) ?_
    rw [CTP_n (P := fun i => C9 S i = L9 S i) (hr.mp d), hv]
  · unfold wp_X9_endedMany_27
    refine hB _ (by omega) ?_
    rw [CTP_y (P := fun i => C9 S i = L9 S i) (Classical.byContradiction (fun z => d (hr.mpr z))), pt_add (by rw [pl_1]; omega) (by rw [pl_1]; omega), pl_1, hv]
theorem fx9_beginningBytes {S : bT9} (h : R9 S) {Q : Int32 → Prop} (hq : ∀ r : Int32, r.toInt = SMB (fun i => min (min (C9 S i + 1) (L9 S i)) 8) (n9 S) → Q r) : wp_X9_beginningBytes S Q := by
  have g64 := h.1.1
  have en : ((n9 S : Nat) : Int) = (b9g_now S 9).toInt := by have := h.2.1; unfold n9; omega
  unfold wp_X9_beginningBytes wp_X9_beginningBytes_4
  refine ⟨fun k x1 x2 => ∃ i : Nat, x2.toInt = (i : Int) ∧ i ≤ n9 S ∧ x1.toInt = SMB (fun i => min (min (C9 S i + 1) (L9 S i)) 8) i ∧ k = 64 - i, ⟨_, 0, rfl, by omega, rfl, rfl⟩, ?_⟩
  rintro k x1 x2 ⟨i, e2, hi, hv, hk'⟩
  have cr := SMB_rng (b := fun i => min (min (C9 S i + 1) (L9 S i)) 8) (fun i => Nat.min_le_right _ _) i
  suffices H : ∀ B : Int32 → Int32 → Prop, (∀ v : Int32, i < n9 S → v.toInt = SMB (fun i => min (min (C9 S i + 1) (L9 S i)) 8) (i + 1) → B v (x2 + 1)) → wp_X9_beginningBytes_4b S x1 x2 Q B from H _ (fun v h t => ⟨64 - (i + 1), by omega, i + 1, by rw [pt_add (by rw [pl_1]; omega) (by rw [pl_1]; omega), pl_1, e2]; omega, by omega, t, rfl⟩)
  intro B hB
  have e9 : b9g_now S ((9 : Int32)).toNatClampNeg = b9g_now S 9 := rfl
  have ei : x2.toNatClampNeg = i := by
    show x2.toInt.toNat = i
    omega
  unfold wp_X9_beginningBytes_4b
  rw [e9, ei]
  refine ⟨pt_in (by decide) (by decide), fun c => ?_, fun c => ?_⟩
  · simp only [pn] at c
    have ei : i = n9 S := by omega
    rw [ei] at hv
    exact hq x1 hv
  simp only [pn] at c
  have bi := (h.2.2 i (by omega)).1
  have ai := h.1.2.1 i (by omega)
  refine ⟨pt_in (by omega) (by omega), hB _ (by omega) ?_⟩
  show (x1 + b9g_beginning S i).toInt = SMB (fun i => min (min (C9 S i + 1) (L9 S i)) 8) i + ((min (min (C9 S i + 1) (L9 S i)) 8 : Nat) : Int)
  rw [pt_add (by omega) (by omega), hv, bi]
  omega
