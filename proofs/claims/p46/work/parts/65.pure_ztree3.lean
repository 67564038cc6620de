theorem NOD_at {n : Nat} {C : Nat → Nat} {P : Nat → Nat → Nat} {lv lf ls : Nat → Int32} {x : Nat} (h : NOD n C P lv lf ls 8 0) (hx : (x : Int) < NB n C P 512) : ∃ l s e : Nat, l ≤ 7 ∧ s < 64 ∧ NST n C P l s ∧ GRQ n C P l s e n ∧ (x : Int) = NB n C P (64 * l + s) ∧ (lv x).toInt = (l : Int) ∧ (lf x).toInt = (s : Int) ∧ (ls x).toInt = (e : Int) - (s : Int) := by
  obtain ⟨p, p1, p2, p3⟩ := CTP_inv (P := IsN n C P) (e := (x : Int)) (by omega) 512 hx
  have p3' : NB n C P p = (x : Int) := p3
  obtain ⟨a, b, e, g1, g2, g3⟩ := h p x (by omega) p2 p3'.symm
  rw [if_neg (show ¬ p / 64 = 8 by omega)] at g2
  refine ⟨p / 64, p % 64, e, by omega, by omega, p2, g2, ?_, a, b, g1⟩
  rw [show 64 * (p / 64) + p % 64 = p by omega]
  exact p3'.symm
theorem NOD_back {n : Nat} {C : Nat → Nat} {P : Nat → Nat → Nat} {lv lf ls : Nat → Int32} {l s : Nat} (h : NOD n C P lv lf ls 8 0) (h64 : n ≤ 64) (hl : l ≤ 7) (hs : NST n C P l s) {x : Nat} (hx : (x : Int) = NB n C P (64 * l + s)) : (x : Int) < NB n C P 512 ∧ (lv x).toInt = (l : Int) ∧ (lf x).toInt = (s : Int) := by
  have sn := hs.1
  have hI : IsN n C P (64 * l + s) := (IsN_at (by omega)).mpr hs
  have lt : NB n C P (64 * l + s) < NB n C P 512 := CTP_lt (by omega) hI
  obtain ⟨a, b, _⟩ := h (64 * l + s) x (by omega) hI hx
  rw [gd1 l (by omega)] at a
  rw [gd2 l (by omega)] at b
  exact ⟨by omega, a, b⟩
theorem fx9_lastOf {S : bT9} {a1 : Int32} {x s e : Nat} {Q : Int32 → Prop} (h : a1.toInt = (x : Int)) (hx : x < 512) (hf : (b9g_nodeLeaf S x).toInt = (s : Int)) (hc : (b9g_nodeLeaves S x).toInt = (e : Int) - (s : Int)) (h1 : s < e) (h2 : e ≤ 64) (hq : ∀ r : Int32, r.toInt = (e : Int) - 1 → Q r) : wp_X9_lastOf S a1 Q := by
  have em : a1.toNatClampNeg = x := by
    show a1.toInt.toNat = x
    omega
  unfold wp_X9_lastOf
  rw [em]
  refine ⟨pt_in (by omega) (by omega), pt_in (by omega) (by omega), hq _ ?_⟩
  have q : (b9g_nodeLeaf S x + b9g_nodeLeaves S x).toInt = (e : Int) := by rw [pt_add (by omega) (by omega)]; omega
  rw [pt_sub (by rw [q, pl_1]; omega) (by rw [q, pl_1]; omega), q, pl_1]
theorem lgs (x y : Int64) : lg_cmp x y = 0 ↔ x = y := by
  unfold lg_cmp
  by_cases h : x = y
  · subst h
    rw [if_neg (fun t => Int64.lt_irrefl t), if_pos rfl]
    exact ⟨fun _ => rfl, fun _ => rfl⟩
  · by_cases g : x > y
    · rw [if_pos g]
      exact ⟨fun q => absurd q (by decide), fun q => absurd q h⟩
    · rw [if_neg g, if_neg h]
      exact ⟨fun q => absurd q (by decide), fun q => absurd q h⟩
theorem fx9_isAlike {S : bT9} {a1 a2 a3 : Int32} {i j l : Nat} {Q : Int32 → Prop} (h1 : a1.toInt = (i : Int)) (h2 : a2.toInt = (j : Int)) (h3 : a3.toInt = (l : Int)) (hi : i < 64) (hj : j < 64) (hl : l ≤ 8) (hq : ∀ r : Int32, (r = 0 ↔ ¬ P9 S l i = P9 S l j) → Q r) : wp_X9_isAlike S a1 a2 a3 Q := by
  have e1 : a1.toNatClampNeg = i := by
    show a1.toInt.toNat = i
    omega
  have e2 : a2.toNatClampNeg = j := by
    show a2.toInt.toNat = j
    omega
  unfold wp_X9_isAlike
  refine fx9_key (by omega) (by omega) (fx9_cut (fx9_key (by omega) (by omega) (fx9_cut ?_)))
  rw [e1, e2]
  have k : lg_cmp (cutf (b9g_keys S (64 + i)) a3) (cutf (b9g_keys S (64 + j)) a3) = 0 ↔ P9 S l i = P9 S l j := by
    rw [lgs]
    have q := AK_iff (K := b9g_keys S) (l := a3) (i := i) (j := j) (by omega) (by omega)
    rw [show a3.toInt.toNat = l by omega] at q
    exact q
  refine ⟨fun c => ⟨rfl, hq _ ⟨fun _ => fun t => c (k.mpr t), fun _ => rfl⟩⟩, fun c => ⟨rfl, hq _ ⟨fun t => absurd t (by decide), fun t => absurd (k.mp c) t⟩⟩⟩
/-- a node of the reference, and a leaf of it -/
def AT9 (S : bT9) (x l s e : Nat) : Prop := x < 512 ∧ l ≤ 7 ∧ NST (n9 S) (C9 S) (P9 S) l s ∧ GRQ (n9 S) (C9 S) (P9 S) l s e (n9 S) ∧ (x : Int) = NB (n9 S) (C9 S) (P9 S) (64 * l + s) ∧ (b9g_nodeLevel S x).toInt = (l : Int) ∧ (b9g_nodeLeaf S x).toInt = (s : Int) ∧ (b9g_nodeLeaves S x).toInt = (e : Int) - (s : Int)
theorem AT9_of {S : bT9} (h : R9 S) (hN : N9 S) {x : Nat} (hx : (x : Int) < (b9g_nodeMany S).toInt) : ∃ l s e : Nat, AT9 S x l s e := by
  have n5 := NB_le h.1 (l := 7) (i := 64) (by omega) (by omega)
  have nb5 : NB (n9 S) (C9 S) (P9 S) (64 * 7 + 64) = NB (n9 S) (C9 S) (P9 S) 512 := rfl
  rw [hN.1] at hx
  obtain ⟨l, s, e, a, _, b, c, d, f, g, k⟩ := NOD_at hN.2 hx
  exact ⟨l, s, e, by omega, a, b, c, d, f, g, k⟩
theorem fx9_isBranch {S : bT9} (h : R9 S) {a1 a2 : Int32} {x l s e i : Nat} {Q : Int32 → Prop} (ha : AT9 S x l s e) (h1 : a1.toInt = (x : Int)) (h2 : a2.toInt = (i : Int)) (hsi : s ≤ i) (hie : i < e) (hq : ∀ r : Int32, (r = 0 ↔ ¬ (EST (n9 S) (C9 S) (P9 S) l i ∧ ¬ L9 S i = l)) → Q r) : wp_X9_isBranch S a1 a2 Q := by
  obtain ⟨G, h0, hb⟩ := h
  obtain ⟨x5, l7, hs, hg, hx, e1, e2, e3⟩ := ha
  have gn := hg.2.1
  have g64 := G.1
  have grp : ∀ q, s ≤ q → q ≤ i → l ≤ C9 S q ∧ P9 S l q = P9 S l s := fun q q1 q2 => hg.2.2.1 q q1 (by omega)
  have iff := EST_iff G hs grp hsi (by omega)
  have gi := (grp i hsi (Nat.le_refl _)).1
  have ai := G.2.1 i (by omega)
  have bi := hb i (by omega)
  have em : a1.toNatClampNeg = x := by
    show a1.toInt.toNat = x
    omega
  have ei : a2.toNatClampNeg = i := by
    show a2.toInt.toNat = i
    omega
  have yes : EST (n9 S) (C9 S) (P9 S) l i → ¬ L9 S i = l → wp_X9_isBranch_53 S Q := by
    intro p q
    unfold wp_X9_isBranch_53
    exact ⟨rfl, hq _ ⟨fun t => absurd t (by decide), fun t => absurd ⟨p, q⟩ t⟩⟩
  have no : ¬ (EST (n9 S) (C9 S) (P9 S) l i ∧ ¬ L9 S i = l) → bf_bool 0 ∧ Q 0 := fun p => ⟨rfl, hq _ ⟨fun _ => p, fun _ => rfl⟩⟩
  unfold wp_X9_isBranch
  rw [em, ei]
  refine ⟨pt_in (by omega) (by omega), pt_in (by omega) (by omega), fun c => no (fun t => ?_), fun c => ⟨pt_in (by omega) (by omega), fun d => ?_, fun d => ?_⟩⟩
  · simp only [pn] at c
    omega
  · simp only [pn] at c d
    exact yes (iff.mpr (Or.inr (Or.inl (by omega)))) (by omega)
  · simp only [pn] at c d
    have ni : ¬ i = s := by omega
    have e21 : (a2 - 1).toInt = ((i - 1 : Nat) : Int) := by rw [pt_sub (by rw [pl_1]; omega) (by rw [pl_1]; omega), pl_1]; omega
    have e22 : (a2 - 1).toNatClampNeg = i - 1 := by
      show (a2 - 1).toInt.toNat = i - 1
      omega
    have gp := (grp (i - 1) (by omega) (by omega)).1
    have ap := G.2.1 (i - 1) (by omega)
    have bp := hb (i - 1) (by omega)
    rw [e22]
    refine ⟨pt_in (by omega) (by omega), fun d2 => ?_, fun d2 => ?_⟩
    · simp only [pn] at d2
      exact yes (iff.mpr (Or.inr (Or.inr (Or.inl (by omega))))) (by omega)
    · simp only [pn] at d2
      have el1 : (b9g_nodeLevel S x + 1).toInt = ((l + 1 : Nat) : Int) := by rw [pt_add (by rw [pl_1]; omega) (by rw [pl_1]; omega), pl_1]; omega
      refine fx9_isAlike e21 h2 el1 (by omega) (by omega) (by omega) (fun r1 hr => ⟨fun c1 => no (fun t => ?_), fun c1 => yes (iff.mpr (Or.inr (Or.inr (Or.inr (hr.mp c1))))) (by omega)⟩)
      have pe : P9 S (l + 1) (i - 1) = P9 S (l + 1) i := Classical.byContradiction (fun z => c1 (hr.mpr z))
      rcases iff.mp t.1 with z | z | z | z
      · omega
      · exact ni z
      · omega
      · exact z pe
theorem NB_nn {n : Nat} {C : Nat → Nat} {P : Nat → Nat → Nat} (w : Nat) : 0 ≤ NB n C P w := (CTP_rng _ _).1
theorem fx9_childAt {S : bT9} (h : R9 S) (hN : N9 S) {a1 a2 : Int32} {x l s e i : Nat} {Q : Int32 → Prop} (ha : AT9 S x l s e) (h1 : a1.toInt = (x : Int)) (h2 : a2.toInt = (i : Int)) (hsi : s ≤ i) (hie : i < e) (hE : EST (n9 S) (C9 S) (P9 S) l i) (hq : ∀ r : Int32, (r = -1 ↔ C9 S i = l) → Q r) : wp_X9_childAt S a1 a2 Q := by
  have G := h.1
  have g64 := G.1
  obtain ⟨x5, l7, hs, hg, hx, e1, e2, e3⟩ := ha
  have gn := hg.2.1
  have gi := (hg.2.2.1 i hsi hie).1
  have ai := G.2.1 i (by omega)
  have n5 := NB_le G (l := 7) (i := 64) (by omega) (by omega)
  have nb5 : NB (n9 S) (C9 S) (P9 S) (64 * 7 + 64) = NB (n9 S) (C9 S) (P9 S) 512 := rfl
  have em : a1.toNatClampNeg = x := by
    show a1.toInt.toNat = x
    omega
  have hm := hN.1
  have el1 : (b9g_nodeLevel S x + 1).toInt = ((l + 1 : Nat) : Int) := by rw [pt_add (by rw [pl_1]; omega) (by rw [pl_1]; omega), pl_1]; omega
  have ea1 : (a1 + 1).toInt = ((x + 1 : Nat) : Int) := by rw [pt_add (by rw [pl_1]; omega) (by rw [pl_1]; omega), pl_1]; omega
  -- the child, if there is one
  have ch : ¬ C9 S i = l → ∃ y : Nat, x < y ∧ (y : Int) < NB (n9 S) (C9 S) (P9 S) 512 ∧ (b9g_nodeLevel S y).toInt = ((l + 1 : Nat) : Int) ∧ (b9g_nodeLeaf S y).toInt = (i : Int) := by
    intro z
    have ns : NST (n9 S) (C9 S) (P9 S) (l + 1) i := by
      rcases hE.2 with t | t
      · exact absurd t z
      · exact t
    have nn := NB_nn (n := n9 S) (C := C9 S) (P := P9 S) (64 * (l + 1) + i)
    obtain ⟨y, ey⟩ : ∃ y : Nat, (y : Int) = NB (n9 S) (C9 S) (P9 S) (64 * (l + 1) + i) := ⟨(NB (n9 S) (C9 S) (P9 S) (64 * (l + 1) + i)).toNat, by omega⟩
    have k := NOD_back hN.2 g64 (by omega) ns ey
    have lt : NB (n9 S) (C9 S) (P9 S) (64 * l + s) < NB (n9 S) (C9 S) (P9 S) (64 * (l + 1) + i) := CTP_lt (by omega) ((IsN_at (by omega)).mpr hs)
    exact ⟨y, by omega, k.1, k.2.1, k.2.2⟩
  unfold wp_X9_childAt wp_X9_childAt_14
  rw [em]
  refine ⟨pt_in (by omega) (by omega), fun k x2 x3 x4 => ∃ y : Nat, a2 = x2 ∧ x3.toInt = ((l + 1 : Nat) : Int) ∧ x4.toInt = (y : Int) ∧ x < y ∧ (y : Int) ≤ NB (n9 S) (C9 S) (P9 S) 512 ∧ (∀ z : Nat, x < z → z < y → (b9g_nodeLevel S z).toInt = ((l + 1 : Nat) : Int) → ¬ (b9g_nodeLeaf S z).toInt = (i : Int)) ∧ k = 600 - y, ⟨_, x + 1, rfl, el1, ea1, by omega, ?_, fun z z1 z2 => by omega, rfl⟩, ?_⟩
  · have lt : NB (n9 S) (C9 S) (P9 S) (64 * l + s) < NB (n9 S) (C9 S) (P9 S) 512 := CTP_lt (by have := hs.1; omega) ((IsN_at (by have := hs.1; omega)).mpr hs)
    omega
  rintro k x2 x3 x4 ⟨y, rfl, e3', e4, hxy, ym, hno, hk⟩
  suffices H : ∀ B : Int32 → Int32 → Int32 → Prop, ((y : Int) < NB (n9 S) (C9 S) (P9 S) 512 → ((b9g_nodeLevel S y).toInt = ((l + 1 : Nat) : Int) → ¬ (b9g_nodeLeaf S y).toInt = (i : Int)) → B a2 x3 (x4 + 1)) → wp_X9_childAt_14b S a2 x3 x4 Q B from H _ (fun hy t => ⟨600 - (y + 1), by omega, y + 1, rfl, e3', by rw [pt_add (by rw [pl_1]; omega) (by rw [pl_1]; omega), pl_1, e4]; omega, by omega, by omega, fun z z1 z2 z3 => by
      by_cases q : z = y
      · rw [q] at z3 ⊢
        exact t z3
      · exact hno z z1 (by omega) z3, rfl⟩)
  intro B hB
  have ey : x4.toNatClampNeg = y := by
    show x4.toInt.toNat = y
    omega
  have none : (∀ z : Nat, y ≤ z → (z : Int) < NB (n9 S) (C9 S) (P9 S) 512 → (b9g_nodeLevel S z).toInt = ((l + 1 : Nat) : Int) → False) → ((-1 : Int32) = -1 ↔ C9 S i = l) := by
    intro p
    refine ⟨fun _ => ?_, fun _ => rfl⟩
    apply Classical.byContradiction
    intro q
    obtain ⟨z, z1, z2, z3, z4⟩ := ch q
    by_cases t : z < y
    · exact hno z z1 t z3 z4
    · exact p z (by omega) z2 z3
  unfold wp_X9_childAt_14b
  rw [ey]
  refine ⟨fun c => hq _ (none (fun z z1 z2 _ => ?_)), fun c => ?_⟩
  · simp only [pn] at c
    omega
  simp only [pn] at c
  obtain ⟨l', s', e', _, _, f3, f4, f5, f6, f7, f8⟩ := NOD_at (x := y) hN.2 (by omega)
  have s64 := f3.1
  refine ⟨pt_in (by omega) (by omega), fun d => hq _ (none (fun z z1 z2 z3 => ?_)), fun d => ⟨pt_in (by omega) (by omega), fun d2 => hB (by omega) (fun t => ?_), fun d2 => ⟨pt_in (by omega) (by omega), fun d3 => hB (by omega) (fun _ t => ?_), fun d3 => hq _ ?_⟩⟩⟩
  · simp only [pn] at d
    obtain ⟨l2, s2, e2', _, _, g3, g4, g5, g6, g7, g8⟩ := NOD_at (x := z) hN.2 z2
    have := g3.1
    by_cases zy : z = y
    · rw [zy] at z3
      omega
    · have lt : 64 * l' + s' < 64 * l2 + s2 := by
        apply Classical.byContradiction
        intro t
        have := NB_mono (n := n9 S) (C := C9 S) (P := P9 S) (show 64 * l2 + s2 ≤ 64 * l' + s' by omega)
        omega
      omega
  · simp only [pn] at d2
    omega
  · simp only [pn] at d3
    omega
  · simp only [pn] at d2 d3
    refine ⟨fun t => ?_, fun t => ?_⟩
    · rw [t, pl_m1] at e4
      omega
    · exfalso
      have q := f3.2.1
      have el : l' = l + 1 := by omega
      have es : s' = i := by omega
      rw [el, es] at q
      omega
theorem fx9_isNodeEnd {S : bT9} (h : R9 S) {a1 : Int32} {x l s e : Nat} {Q : Int32 → Prop} (ha : AT9 S x l s e) (h1 : a1.toInt = (x : Int)) (hq : ∀ r : Int32, (r = 0 ↔ ¬ L9 S s = l) → Q r) : wp_X9_isNodeEnd S a1 Q := by
  obtain ⟨G, h0, hb⟩ := h
  obtain ⟨x5, l7, hs, hg, hx, e1, e2, e3⟩ := ha
  have g64 := G.1
  have sn := hs.1
  have bs := hb s sn
  have as := G.2.1 s sn
  have cs := hs.2.1
  have em : a1.toNatClampNeg = x := by
    show a1.toInt.toNat = x
    omega
  have es : (b9g_nodeLeaf S x).toNatClampNeg = s := by
    show (b9g_nodeLeaf S x).toInt.toNat = s
    omega
  unfold wp_X9_isNodeEnd
  rw [em, es]
  refine ⟨pt_in (by omega) (by omega), pt_in (by omega) (by omega), pt_in (by omega) (by omega), fun c => ⟨rfl, hq _ ⟨fun _ => ?_, fun _ => rfl⟩⟩, fun c => ⟨rfl, hq _ ⟨fun t => absurd t (by decide), fun t => ?_⟩⟩⟩
  · simp only [pn] at c
    omega
  · simp only [pn] at c
    exfalso
    omega
/-! branches, kids, ends -/
def IsB (n : Nat) (C L : Nat → Nat) (P : Nat → Nat → Nat) (w : Nat) : Prop := IsE n C P w ∧ ¬ L (w % 64) = w / 64
def IsK (n : Nat) (C : Nat → Nat) (P : Nat → Nat → Nat) (w : Nat) : Prop := IsE n C P w ∧ ¬ C (w % 64) = w / 64
def IsD (n : Nat) (C L : Nat → Nat) (P : Nat → Nat → Nat) (w : Nat) : Prop := IsE n C P w ∧ L (w % 64) = w / 64
noncomputable def BB (n : Nat) (C L : Nat → Nat) (P : Nat → Nat → Nat) (w : Nat) : Int := CTP (IsB n C L P) w
noncomputable def KB (n : Nat) (C : Nat → Nat) (P : Nat → Nat → Nat) (w : Nat) : Int := CTP (IsK n C P) w
noncomputable def DB (n : Nat) (C L : Nat → Nat) (P : Nat → Nat → Nat) (w : Nat) : Int := CTP (IsD n C L P) w
theorem CTP_part (Q R : Nat → Prop) : ∀ n : Nat, CTP (fun w => Q w ∧ R w) n + CTP (fun w => Q w ∧ ¬ R w) n = CTP Q n := by
  intro n
  induction n with
  | zero => rfl
  | succ n ih =>
    by_cases q : Q n
    · by_cases r : R n
      · rw [CTP_y (P := fun w => Q w ∧ R w) ⟨q, r⟩, CTP_n (P := fun w => Q w ∧ ¬ R w) (fun z => z.2 r), CTP_y q]
        omega
      · rw [CTP_n (P := fun w => Q w ∧ R w) (fun z => r z.2), CTP_y (P := fun w => Q w ∧ ¬ R w) ⟨q, r⟩, CTP_y q]
        omega
    · rw [CTP_n (P := fun w => Q w ∧ R w) (fun z => q z.1), CTP_n (P := fun w => Q w ∧ ¬ R w) (fun z => q z.1), CTP_n q]
      exact ih
theorem DB_BB {n : Nat} {C L : Nat → Nat} {P : Nat → Nat → Nat} (w : Nat) : DB n C L P w + BB n C L P w = EB n C P w := CTP_part (IsE n C P) (fun w => L (w % 64) = w / 64) w
theorem DB_grp {n : Nat} {C L : Nat → Nat} {P : Nat → Nat → Nat} (G : GRD n C L P) {l s e : Nat} (hs : NST n C P l s) (hg : GRQ n C P l s e n) : (L s = l → DB n C L P (64 * l + e) = DB n C L P (64 * l + s) + 1) ∧ (¬ L s = l → DB n C L P (64 * l + e) = DB n C L P (64 * l + s)) := by
  have g64 := G.1
  have a := hg.1
  have b := hg.2.1
  have as := G.2.1 s hs.1
  have cs := hs.2.1
  have rest : DB n C L P (64 * l + e) = DB n C L P (64 * l + s + 1) := by
    refine CTP_st _ (by omega) (fun w p q r => ?_)
    have ew : w = 64 * l + (w - 64 * l) := by omega
    have r2 := r.2
    rw [ew, gd1 l (by omega), gd2 l (by omega)] at r2
    have := END_first G (l := l) (s := s) (i := w - 64 * l) (fun k k1 k2 => hg.2.2.1 k k1 (by omega)) (by omega) (by omega) r2
    omega
  have hl : (64 * l + s) / 64 = l := gd1 l (by omega)
  have hm : (64 * l + s) % 64 = s := gd2 l (by omega)
  refine ⟨fun z => ?_, fun z => ?_⟩
  · rw [rest]
    refine CTP_y ⟨(IsE_at (by omega)).mpr ⟨hs.1, Or.inl (by omega)⟩, ?_⟩
    rw [hl, hm]
    exact z
  · rw [rest]
    refine CTP_n (fun t => z ?_)
    have := t.2
    rw [hl, hm] at this
    exact this
theorem fx9_branchMany {S : bT9} (h : R9 S) {a1 : Int32} {x l s e : Nat} {Q : Int32 → Prop} (ha : AT9 S x l s e) (h1 : a1.toInt = (x : Int)) (hq : ∀ r : Int32, r.toInt = BB (n9 S) (C9 S) (L9 S) (P9 S) (64 * l + e) - BB (n9 S) (C9 S) (L9 S) (P9 S) (64 * l + s) → 0 ≤ r.toInt → r.toInt ≤ 64 → Q r) : wp_X9_branchMany S a1 Q := by
  have g64 := h.1.1
  have ha' := ha
  obtain ⟨x5, l7, hs, hg, hx, e1, e2, e3⟩ := ha'
  have ge := hg.1
  have gn := hg.2.1
  have em : a1.toNatClampNeg = x := by
    show a1.toInt.toNat = x
    omega
  unfold wp_X9_branchMany wp_X9_branchMany_9
  rw [em]
  refine ⟨pt_in (by omega) (by omega), fun k x1 x2 x3 => ∃ i : Nat, a1 = x1 ∧ x3.toInt = (i : Int) ∧ s ≤ i ∧ i ≤ e ∧ x2.toInt = BB (n9 S) (C9 S) (L9 S) (P9 S) (64 * l + i) - BB (n9 S) (C9 S) (L9 S) (P9 S) (64 * l + s) ∧ 0 ≤ x2.toInt ∧ x2.toInt ≤ (i : Int) - (s : Int) ∧ k = e - i, ⟨_, s, rfl, e2, Nat.le_refl _, by omega, by rw [pl_0]; omega, by decide, by rw [pl_0]; omega, rfl⟩, ?_⟩
  rintro k x1 x2 x3 ⟨i, rfl, e3', hsi, hie, hv, v0, v1, hk⟩
  suffices H : ∀ B : Int32 → Int32 → Int32 → Prop, (∀ v : Int32, i < e → v.toInt = BB (n9 S) (C9 S) (L9 S) (P9 S) (64 * l + (i + 1)) - BB (n9 S) (C9 S) (L9 S) (P9 S) (64 * l + s) → 0 ≤ v.toInt → v.toInt ≤ (i : Int) + 1 - (s : Int) → B a1 v (x3 + 1)) → wp_X9_branchMany_9b S a1 x2 x3 Q B from H _ (fun v hi t1 t2 t3 => ⟨e - (i + 1), by omega, i + 1, rfl, by rw [pt_add (by rw [pl_1]; omega) (by rw [pl_1]; omega), pl_1, e3']; omega, by omega, by omega, t1, t2, by omega, rfl⟩)
  intro B hB
  unfold wp_X9_branchMany_9b
  refine fx9_lastOf h1 x5 e2 e3 ge (by omega) (fun r1 hr => ⟨fun c => ?_, fun c => ?_⟩)
  · simp only [pn] at c
    have ei : i = e := by omega
    rw [ei] at hv
    exact hq x2 hv v0 (by omega)
  simp only [pn] at c
  have w1 : (64 * l + i) / 64 = l := gd1 l (by omega)
  have w2 : (64 * l + i) % 64 = i := gd2 l (by omega)
  have iff : IsB (n9 S) (C9 S) (L9 S) (P9 S) (64 * l + i) ↔ (EST (n9 S) (C9 S) (P9 S) l i ∧ ¬ L9 S i = l) := by
    unfold IsB
    rw [IsE_at (by omega), w1, w2]
  refine fx9_isBranch h ha h1 e3' hsi (by omega) (fun r3 hr3 => ⟨fun d => ?_, fun d => ?_⟩)
  · unfold wp_X9_branchMany_31
    have t : BB (n9 S) (C9 S) (L9 S) (P9 S) (64 * l + (i + 1)) = BB (n9 S) (C9 S) (L9 S) (P9 S) (64 * l + i) := CTP_n (fun z => hr3.mp d (iff.mp z))
    exact hB x2 (by omega) (by rw [t]; exact hv) v0 (by omega)
  · unfold wp_X9_branchMany_31
    have hB1 : IsB (n9 S) (C9 S) (L9 S) (P9 S) (64 * l + i) := iff.mpr (Classical.byContradiction (fun z => d (hr3.mpr z)))
    have t : BB (n9 S) (C9 S) (L9 S) (P9 S) (64 * l + (i + 1)) = BB (n9 S) (C9 S) (L9 S) (P9 S) (64 * l + i) + 1 := CTP_y hB1
    have e21 : (x2 + 1).toInt = x2.toInt + 1 := by rw [pt_add (by rw [pl_1]; omega) (by rw [pl_1]; omega), pl_1]
    exact hB (x2 + 1) (by omega) (by rw [t, e21]; omega) (by omega) (by omega)
theorem fx9_kidMany {S : bT9} (h : R9 S) (hN : N9 S) {a1 : Int32} {x l s e : Nat} {Q : Int32 → Prop} (ha : AT9 S x l s e) (h1 : a1.toInt = (x : Int)) (hq : ∀ r : Int32, r.toInt = KB (n9 S) (C9 S) (P9 S) (64 * l + e) - KB (n9 S) (C9 S) (P9 S) (64 * l + s) → Q r) : wp_X9_kidMany S a1 Q := by
  have g64 := h.1.1
  have ha' := ha
  obtain ⟨x5, l7, hs, hg, hx, e1, e2, e3⟩ := ha'
  have ge := hg.1
  have gn := hg.2.1
  have em : a1.toNatClampNeg = x := by
    show a1.toInt.toNat = x
    omega
  unfold wp_X9_kidMany wp_X9_kidMany_9
  rw [em]
  refine ⟨pt_in (by omega) (by omega), fun k x1 x2 x3 => ∃ i : Nat, a1 = x1 ∧ x3.toInt = (i : Int) ∧ s ≤ i ∧ i ≤ e ∧ x2.toInt = KB (n9 S) (C9 S) (P9 S) (64 * l + i) - KB (n9 S) (C9 S) (P9 S) (64 * l + s) ∧ 0 ≤ x2.toInt ∧ x2.toInt ≤ (i : Int) - (s : Int) ∧ k = e - i, ⟨_, s, rfl, e2, Nat.le_refl _, by omega, by rw [pl_0]; omega, by decide, by rw [pl_0]; omega, rfl⟩, ?_⟩
  rintro k x1 x2 x3 ⟨i, rfl, e3', hsi, hie, hv, v0, v1, hk⟩
  suffices H : ∀ B : Int32 → Int32 → Int32 → Prop, (∀ v : Int32, i < e → v.toInt = KB (n9 S) (C9 S) (P9 S) (64 * l + (i + 1)) - KB (n9 S) (C9 S) (P9 S) (64 * l + s) → 0 ≤ v.toInt → v.toInt ≤ (i : Int) + 1 - (s : Int) → B a1 v (x3 + 1)) → wp_X9_kidMany_9b S a1 x2 x3 Q B from H _ (fun v hi t1 t2 t3 => ⟨e - (i + 1), by omega, i + 1, rfl, by rw [pt_add (by rw [pl_1]; omega) (by rw [pl_1]; omega), pl_1, e3']; omega, by omega, by omega, t1, t2, by omega, rfl⟩)
  intro B hB
  unfold wp_X9_kidMany_9b
  refine fx9_lastOf h1 x5 e2 e3 ge (by omega) (fun r1 hr => ⟨fun c => ?_, fun c => ?_⟩)
  · simp only [pn] at c
    have ei : i = e := by omega
    rw [ei] at hv
    exact hq x2 hv
  simp only [pn] at c
  have w1 : (64 * l + i) / 64 = l := gd1 l (by omega)
  have w2 : (64 * l + i) % 64 = i := gd2 l (by omega)
  have ci := (hg.2.2.1 i hsi (by omega)).1
  have ai := h.1.2.1 i (by omega)
  have iff : IsK (n9 S) (C9 S) (P9 S) (64 * l + i) ↔ (EST (n9 S) (C9 S) (P9 S) l i ∧ ¬ C9 S i = l) := by
    unfold IsK
    rw [IsE_at (by omega), w1, w2]
  have no : ¬ IsK (n9 S) (C9 S) (P9 S) (64 * l + i) → wp_X9_kidMany_41 S a1 x2 x3 Q B := by
    intro z
    unfold wp_X9_kidMany_41
    have t : KB (n9 S) (C9 S) (P9 S) (64 * l + (i + 1)) = KB (n9 S) (C9 S) (P9 S) (64 * l + i) := CTP_n z
    exact hB x2 (by omega) (by rw [t]; exact hv) v0 (by omega)
  refine fx9_isBranch h ha h1 e3' hsi (by omega) (fun r3 hr3 => ⟨fun d => no (fun z => ?_), fun d => ?_⟩)
  · have q := iff.mp z
    exact hr3.mp d ⟨q.1, by have := q.2; omega⟩
  · have q : EST (n9 S) (C9 S) (P9 S) l i ∧ ¬ L9 S i = l := Classical.byContradiction (fun z => d (hr3.mpr z))
    refine fx9_childAt h hN ha h1 e3' hsi (by omega) q.1 (fun r5 hr5 => ⟨fun d5 => no (fun z => (iff.mp z).2 (hr5.mp d5)), fun d5 => ?_⟩)
    unfold wp_X9_kidMany_41
    have t : KB (n9 S) (C9 S) (P9 S) (64 * l + (i + 1)) = KB (n9 S) (C9 S) (P9 S) (64 * l + i) + 1 := CTP_y (iff.mpr ⟨q.1, fun z => d5 (hr5.mpr z)⟩)
    have e21 : (x2 + 1).toInt = x2.toInt + 1 := by rw [pt_add (by rw [pl_1]; omega) (by rw [pl_1]; omega), pl_1]
    exact hB (x2 + 1) (by omega) (by rw [t, e21]; omega) (by omega) (by omega)
theorem fx9_bitsOf {S : bT9} (h : R9 S) {a1 a2 : Int32} {x l s e : Nat} {Q : Int32 → Prop} (ha : AT9 S x l s e) (h1 : a1.toInt = (x : Int)) (hq : ∀ r : Int32, (a2 = 0 → r.toInt = 11 * (EB (n9 S) (C9 S) (P9 S) (64 * l + e) - EB (n9 S) (C9 S) (P9 S) (64 * l + s))) → (¬ a2 = 0 → r.toInt = 513) → Q r) : wp_X9_bitsOf S a1 a2 Q := by
  have ha' := ha
  obtain ⟨x5, l7, hs, hg, hx, e1, e2, e3⟩ := ha'
  have d := DB_grp h.1 hs hg
  have p1 := DB_BB (n := n9 S) (C := C9 S) (L := L9 S) (P := P9 S) (64 * l + e)
  have p2 := DB_BB (n := n9 S) (C := C9 S) (L := L9 S) (P := P9 S) (64 * l + s)
  unfold wp_X9_bitsOf
  refine ⟨fun c => fx9_branchMany h ha h1 (fun r1 v1 v2 v3 => fx9_isNodeEnd h ha h1 (fun r3 hr3 => ⟨fun d3 => hq _ (fun _ => ?_) (fun z => absurd c z), fun d3 => hq _ (fun _ => ?_) (fun z => absurd c z)⟩)), fun c => hq _ (fun z => absurd z c) (fun _ => rfl)⟩
  · have dd := d.2 (hr3.mp d3)
    have q : (r1 + 0).toInt = r1.toInt := by rw [pt_add (by rw [pl_0]; omega) (by rw [pl_0]; omega), pl_0]; omega
    rw [pt_mul (by rw [q]; show _ ≤ 11 * _; omega) (by rw [q]; show 11 * _ < _; omega), q]
    show 11 * _ = _
    omega
  · have dd := d.1 (Classical.byContradiction (fun z => d3 (hr3.mpr z)))
    have q : (r1 + 1).toInt = r1.toInt + 1 := by rw [pt_add (by rw [pl_1]; omega) (by rw [pl_1]; omega), pl_1]
    rw [pt_mul (by rw [q]; show _ ≤ 11 * _; omega) (by rw [q]; show 11 * _ < _; omega), q]
    show 11 * _ = _
    omega
theorem fx9_bitsAbove {S : bT9} (h : R9 S) (hN : N9 S) {a1 : Int32} {u : Nat} {Q : Int32 → Prop} (hu : a1.toInt = (u : Int)) (h8 : u ≤ 8) (hq : ∀ r : Int32, r.toInt = BTN (n9 S) (C9 S) (P9 S) u → Q r) : wp_X9_bitsAbove S a1 Q := by
  have n5 := NB_le h.1 (l := 7) (i := 64) (by omega) (by omega)
  have nb5 : NB (n9 S) (C9 S) (P9 S) (64 * 7 + 64) = NB (n9 S) (C9 S) (P9 S) 512 := rfl
  have nu := NB_nn (n := n9 S) (C := C9 S) (P := P9 S) (64 * u)
  have nm := NB_mono (n := n9 S) (C := C9 S) (P := P9 S) (show 64 * u ≤ 512 by omega)
  have g64 := h.1.1
  have hm := hN.1
  unfold wp_X9_bitsAbove wp_X9_bitsAbove_4
  refine ⟨fun k x1 x2 x3 => ∃ x : Nat, a1 = x1 ∧ x3.toInt = (x : Int) ∧ (x : Int) ≤ NB (n9 S) (C9 S) (P9 S) 512 ∧ x2.toInt = 513 * min (x : Int) (NB (n9 S) (C9 S) (P9 S) (64 * u)) ∧ k = 600 - x, ⟨_, 0, rfl, rfl, by omega, by rw [pl_0]; omega, rfl⟩, ?_⟩
  rintro k x1 x2 x3 ⟨x, rfl, e3, xm, hv, hk⟩
  suffices H : ∀ B : Int32 → Int32 → Int32 → Prop, (∀ v : Int32, (x : Int) < NB (n9 S) (C9 S) (P9 S) 512 → v.toInt = 513 * min ((x : Int) + 1) (NB (n9 S) (C9 S) (P9 S) (64 * u)) → B a1 v (x3 + 1)) → wp_X9_bitsAbove_4b S a1 x2 x3 Q B from H _ (fun v hx t => ⟨600 - (x + 1), by omega, x + 1, rfl, by rw [pt_add (by rw [pl_1]; omega) (by rw [pl_1]; omega), pl_1, e3]; omega, by omega, by rw [t]; omega, rfl⟩)
  intro B hB
  have ex : x3.toNatClampNeg = x := by
    show x3.toInt.toNat = x
    omega
  unfold wp_X9_bitsAbove_4b
  rw [ex]
  refine ⟨fun c => hq x2 ?_, fun c => ?_⟩
  · simp only [pn] at c
    unfold BTN
    rw [hv]
    omega
  simp only [pn] at c
  obtain ⟨l, s, e, ha⟩ := AT9_of h hN (x := x) (by omega)
  obtain ⟨x5, l7, hs, hg, hx, f1, f2, f3⟩ := ha
  have sn := hs.1
  refine ⟨pt_in (by omega) (by omega), fun d => ?_, fun d v1 ev => ?_⟩
  · simp only [pn] at d
    unfold wp_X9_bitsAbove_28
    have mn := NB_mono (n := n9 S) (C := C9 S) (P := P9 S) (show 64 * u ≤ 64 * l + s by omega)
    exact hB x2 (by omega) (by omega)
  · simp only [pn] at d
    unfold wp_X9_bitsAbove_28
    have lt : NB (n9 S) (C9 S) (P9 S) (64 * l + s) < NB (n9 S) (C9 S) (P9 S) (64 * u) := CTP_lt (by omega) ((IsN_at (by omega)).mpr hs)
    have q : v1.toInt = x2.toInt + 513 := by rw [ev, pt_add (by show _ ≤ _ + 513; omega) (by show _ + 513 < _; omega)]; rfl
    exact hB v1 (by omega) (by omega)
theorem fx9_bitsBelow {S : bT9} (h : R9 S) (hN : N9 S) {a1 : Int32} {u : Nat} {Q : Int32 → Prop} (hu : a1.toInt = (u : Int)) (h8 : u ≤ 8) (hq : ∀ r : Int32, r.toInt = BTE (n9 S) (C9 S) (P9 S) u → Q r) : wp_X9_bitsBelow S a1 Q := by
  have G := h.1
  have n5 := NB_le h.1 (l := 7) (i := 64) (by omega) (by omega)
  have nb5 : NB (n9 S) (C9 S) (P9 S) (64 * 7 + 64) = NB (n9 S) (C9 S) (P9 S) 512 := rfl
  have e5 := EB_le G (w := 512) (by omega)
  have eu := EB_le G (w := 64 * u) (by omega)
  have g64 := h.1.1
  have hm := hN.1
  obtain ⟨p0, q1, q2, q3, q4, q5, q6⟩ := NB_pos (n := n9 S) (C := C9 S) (P := P9 S) (b := 0) (x := 0) (by omega) rfl
  have z0E : EB (n9 S) (C9 S) (P9 S) p0 = 0 := EB_gap g64 (l := 0) (e := 0) (by omega) (fun a b => ⟨a, b, Or.inl rfl⟩) (by omega) (fun w a b => q6 w (by omega) b)
  unfold wp_X9_bitsBelow wp_X9_bitsBelow_4
  refine ⟨fun k x1 x2 x3 => ∃ x p : Nat, a1 = x1 ∧ x3.toInt = (x : Int) ∧ p ≤ 512 ∧ (x : Int) = NB (n9 S) (C9 S) (P9 S) p ∧ ((x : Int) < NB (n9 S) (C9 S) (P9 S) 512 → IsN (n9 S) (C9 S) (P9 S) p) ∧ (¬ (x : Int) < NB (n9 S) (C9 S) (P9 S) 512 → p = 512) ∧ x2.toInt = 11 * max 0 (EB (n9 S) (C9 S) (P9 S) p - EB (n9 S) (C9 S) (P9 S) (64 * u)) ∧ k = 600 - x, ⟨_, 0, p0, rfl, rfl, q2, q3, fun t => (q4 t).2, q5, by rw [pl_0, z0E]; omega, rfl⟩, ?_⟩
  rintro k x1 x2 x3 ⟨x, p, rfl, e3, p5, hx, pN, pE, hv, hk⟩
  have mx := NB_mono (n := n9 S) (C := C9 S) (P := P9 S) p5
  suffices H : ∀ B : Int32 → Int32 → Int32 → Prop, (∀ (v : Int32) (p' : Nat), (x : Int) < NB (n9 S) (C9 S) (P9 S) 512 → p' ≤ 512 → ((x + 1 : Nat) : Int) = NB (n9 S) (C9 S) (P9 S) p' → (((x + 1 : Nat) : Int) < NB (n9 S) (C9 S) (P9 S) 512 → IsN (n9 S) (C9 S) (P9 S) p') → (¬ ((x + 1 : Nat) : Int) < NB (n9 S) (C9 S) (P9 S) 512 → p' = 512) → v.toInt = 11 * max 0 (EB (n9 S) (C9 S) (P9 S) p' - EB (n9 S) (C9 S) (P9 S) (64 * u)) → B a1 v (x3 + 1)) → wp_X9_bitsBelow_4b S a1 x2 x3 Q B from H _ (fun v p' hx t1 t2 t3 t4 t5 => ⟨600 - (x + 1), by omega, x + 1, p', rfl, by rw [pt_add (by rw [pl_1]; omega) (by rw [pl_1]; omega), pl_1, e3]; omega, t1, t2, t3, t4, t5, rfl⟩)
  intro B hB
  have ex : x3.toNatClampNeg = x := by
    show x3.toInt.toNat = x
    omega
  unfold wp_X9_bitsBelow_4b
  rw [ex]
  refine ⟨fun c => hq x2 ?_, fun c => ?_⟩
  · simp only [pn] at c
    have pp := pE (by omega)
    subst pp
    have mn := EB_mono (n := n9 S) (C := C9 S) (P := P9 S) (show 64 * u ≤ 512 by omega)
    unfold BTE
    rw [hv]
    omega
  simp only [pn] at c
  have pI := pN (by omega)
  obtain ⟨l, s, e, ha⟩ := AT9_of h hN (x := x) (by omega)
  have ha' := ha
  obtain ⟨x5, l7, hs, hg, hx2, f1, f2, f3⟩ := ha'
  have sn := hs.1
  have ge := hg.1
  have gn := hg.2.1
  have ep : p = 64 * l + s := CTP_inj (P := IsN (n9 S) (C9 S) (P9 S)) pI ((IsN_at (by omega)).mpr hs) (by show NB _ _ _ p = NB _ _ _ (64 * l + s); omega)
  have ng := NB_grp g64 hs hg
  obtain ⟨p', r1, r2, r3, r4, r5, r6⟩ := NB_pos (n := n9 S) (C := C9 S) (P := P9 S) (b := 64 * l + e) (x := x + 1) (by omega) (by omega)
  have eg := EB_gap g64 (l := l) (e := e) (by omega) (GRQ_cl hg) r1 r6
  have eb1 := EB_le G (w := 64 * l + e) (by omega)
  have eb2 := EB_le G (w := 64 * l + s) (by omega)
  refine ⟨pt_in (by omega) (by omega), fun d => ?_, fun d => ?_⟩
  · simp only [pn] at d
    unfold wp_X9_bitsBelow_31
    have m1 := EB_mono (n := n9 S) (C := C9 S) (P := P9 S) (show 64 * l + s ≤ 64 * u by omega)
    have m2 := EB_mono (n := n9 S) (C := C9 S) (P := P9 S) (show 64 * l + e ≤ 64 * u by omega)
    refine hB x2 p' (by omega) r2 r3 (fun t => (r4 t).2) r5 ?_
    rw [hv, eg, ep]
    omega
  · simp only [pn] at d
    have m1 := EB_mono (n := n9 S) (C := C9 S) (P := P9 S) (show 64 * u ≤ 64 * l + s by omega)
    have m2 := EB_mono (n := n9 S) (C := C9 S) (P := P9 S) (show 64 * l + s ≤ 64 * l + e by omega)
    rw [ep] at hv
    refine fx9_bitsOf h ha e3 (fun r1' hr1 _ => ?_)
    have hr := hr1 rfl
    unfold wp_X9_bitsBelow_31
    refine hB (x2 + r1') p' (by omega) r2 r3 (fun t => (r4 t).2) r5 ?_
    rw [pt_add (by omega) (by omega), hv, hr, eg]
    omega
def UP9 (n : Nat) (C : Nat → Nat) (P : Nat → Nat → Nat) (de ra : Int32) (lv u : Nat) : Prop := (lv = 0 → u = 0) ∧ (¬ lv = 0 → (9 ≤ de.toInt → UPR n C P ra lv u) ∧ (de.toInt < 9 → (u : Int) = min de.toInt (lv : Int)))
theorem fx9_upperBy {S : bT9} (h : R9 S) (hN : N9 S) {a1 : Int32} {lv : Nat} {Q : Int32 → Prop} (hl : (b9g_levelMany S).toInt = (lv : Int)) (h8 : lv ≤ 8) (hd : ¬ lv = 0 → 0 ≤ a1.toInt) (hq : ∀ (r : Int32) (u : Nat), r.toInt = (u : Int) → u ≤ lv → UP9 (n9 S) (C9 S) (P9 S) a1 (b9g_now S 14) lv u → Q r) : wp_X9_upperBy S a1 Q := by
  have G := h.1
  unfold wp_X9_upperBy
  refine ⟨fun c => ?_, fun c => hq 0 0 rfl (by omega) ⟨fun _ => rfl, fun z => absurd ?_ z⟩⟩
  · have nl : ¬ lv = 0 := by
      intro z
      exact c (Int32.toInt_inj.mp (by rw [hl, z]; rfl))
    refine ⟨fun d => ?_, fun d => ⟨fun d2 => ?_, fun d2 => ?_⟩⟩
    · simp only [pn] at d
      unfold wp_X9_upperBy_37
      refine ⟨fun k x2 => ∃ i : Nat, x2.toInt = (i : Int) ∧ i ≤ lv ∧ (∀ q, i < q → q ≤ lv → ¬ COU (n9 S) (C9 S) (P9 S) (b9g_now S 14) q) ∧ k = i, ⟨_, lv, hl, Nat.le_refl _, fun q a b => by omega, rfl⟩, ?_⟩
      rintro k x2 ⟨i, e2, hi, hno, hk⟩
      unfold wp_X9_upperBy_37b
      refine ⟨pt_in (by decide) (by decide), fx9_bitsAbove h hN e2 (by omega) (fun r1 hr1 => fx9_bitsBelow h hN e2 (by omega) (fun r3 hr3 => ?_))⟩
      have key := COU_iff (ra := b9g_now S 14) hr1 hr3
      have e14 : b9g_now S ((14 : Int32)).toNatClampNeg = b9g_now S 14 := rfl
      rw [e14]
      refine ⟨fun c1 => hq x2 i e2 hi ⟨fun z => absurd z nl, fun _ => ⟨fun _ => ⟨hi, Or.inr (key.mpr ?_), hno⟩, fun z => by omega⟩⟩, fun c1 => ?_⟩
      · simp only [pn] at c1 ⊢
        omega
      · have nc : ¬ COU (n9 S) (C9 S) (P9 S) (b9g_now S 14) i := by
          intro z
          have := key.mp z
          simp only [pn] at c1 this
          omega
        have ni : ¬ i = 0 := by
          intro z
          subst z
          have r10 : r1 = 0 := by
            refine Int32.toInt_inj.mp (hr1.trans ?_)
            rfl
          have e5 := EB_le G (w := 512) (by omega)
          have e0 : EB (n9 S) (C9 S) (P9 S) (64 * 0) = 0 := rfl
          unfold BTE at hr3
          rw [r10, Int32.mul_zero] at c1
          simp only [pn] at c1
          omega
        refine ⟨i - 1, by omega, i - 1, by rw [pt_sub (by rw [pl_1]; omega) (by rw [pl_1]; omega), pl_1, e2]; omega, by omega, fun q a b => ?_, rfl⟩
        by_cases z : q = i
        · rw [z]; exact nc
        · exact hno q (by omega) b
    · simp only [pn] at d d2
      exact hq _ lv hl (Nat.le_refl _) ⟨fun z => absurd z nl, fun _ => ⟨fun z => by omega, fun _ => by omega⟩⟩
    · simp only [pn] at d d2
      have d0 := hd nl
      exact hq _ a1.toInt.toNat (by omega) (by omega) ⟨fun z => absurd z nl, fun _ => ⟨fun z => by omega, fun _ => by omega⟩⟩
  · have z : (b9g_levelMany S).toInt = 0 := by rw [c]; rfl
    omega
/-! items and places of the reference -/
def IAR (n : Nat) (C L : Nat → Nat) (P : Nat → Nat → Nat) (f : Nat → Int64) (inn ib ic : Nat → Int32) (w0 b : Nat) : Prop := ∀ w y : Nat, w0 ≤ w → w < b → IsE n C P w → (y : Int) = EB n C P w - EB n C P w0 → (inn y).toInt = NB n C P (w + 1) - 1 ∧ ib y = OCV f L w ∧ (ic y = -1 ↔ C (w % 64) = w / 64)
def PLR (n : Nat) (C : Nat → Nat) (po lp : Nat → Int32) (b : Nat) : Prop := ∀ w z : Nat, w < b → IsL n C w → (z : Int) = LB n C w → (po (w % 64)).toInt = LB n C w ∧ (lp z).toInt = ((w % 64 : Nat) : Int)
theorem IAR_skip {n : Nat} {C L : Nat → Nat} {P : Nat → Nat → Nat} {f : Nat → Int64} {inn ib ic : Nat → Int32} {w0 b d : Nat} (h : IAR n C L P f inn ib ic w0 b) (hn : ∀ w, w0 ≤ w → b ≤ w → w < d → ¬ IsE n C P w) : IAR n C L P f inn ib ic w0 d := by
  intro w y h0 hw hE hy
  by_cases z : w < b
  · exact h w y h0 z hE hy
  · exact absurd hE (hn w h0 (by omega) hw)
theorem IAR_add {n : Nat} {C L : Nat → Nat} {P : Nat → Nat → Nat} {f : Nat → Int64} {inn ib ic : Nat → Int32} {w0 b m : Nat} {a1 a2 a3 : Int32} (h : IAR n C L P f inn ib ic w0 b) (hE : IsE n C P b) (hm : (m : Int) = EB n C P b - EB n C P w0) (h1 : a1.toInt = NB n C P (b + 1) - 1) (h2 : a2 = OCV f L b) (h3 : a3 = -1 ↔ C (b % 64) = b / 64) : IAR n C L P f (upd inn m a1) (upd ib m a2) (upd ic m a3) w0 (b + 1) := by
  intro w y h0 hw hE2 hy
  by_cases z : w = b
  · subst z
    have ey : y = m := by omega
    rw [ey, up_s, up_s, up_s]
    exact ⟨h1, h2, h3⟩
  · have lt : EB n C P w < EB n C P b := CTP_lt (by omega) hE2
    have ny : y ≠ m := by omega
    rw [up_n ny, up_n ny, up_n ny]
    exact h w y h0 (by omega) hE2 hy
