theorem fx6_rowLength {T : bT6} {n : Nat} {C L : Nat → Nat} {P : Nat → Nat → Nat} {f : Nat → Int64} (G : GRD n C L P) (t : TR6 T n C L P f) {u ro : Nat} (hu : u ≤ 8) (hun : (b6g_upperNodes T).toInt = NB n C P (64 * u)) (his : (b6g_itemStart T).toInt = EB n C P (64 * u)) {a1 : Int32} {Q : Int32 → Prop} (h1 : a1.toInt = (ro : Int)) (hro : ro ≤ 5) (hq : ∀ r : Int32, r.toInt = RL ro n C P u → Q r) : wp_X6_rowLength T a1 Q := by
  have eu := EB_le G (w := 64 * u) (by omega)
  have e5 := EB_le G (w := 512) (by omega)
  have n5 := NB_le G (l := 7) (i := 64) (by omega) (by omega)
  have nb5 : NB n C P (64 * 7 + 64) = NB n C P 512 := rfl
  have nm := NB_mono (n := n) (C := C) (P := P) (show 64 * u ≤ 512 by omega)
  have nn := NB_nn (n := n) (C := C) (P := P) (64 * u)
  have hed := t.2.2.2.2.2.2.1
  have ne : ∀ {m : Int32}, a1 = m → (ro : Int) = m.toInt := fun h => by rw [← h1, h]
  have n2 : ∀ {m : Int32}, ¬ a1 = m → ¬ (ro : Int) = m.toInt := fun h z => h (Int32.toInt_inj.mp (by omega))
  have m : ((256 : Int32) * b6g_upperNodes T).toInt = 256 * NB n C P (64 * u) := by rw [pt_mul (by rw [hun]; show _ ≤ 256 * _; omega) (by rw [hun]; show 256 * _ < _; omega), hun]; rfl
  unfold wp_X6_rowLength wp_X6_rowLength_9 wp_X6_items
  refine ⟨fun c => hq _ ?_, fun c => ⟨fun c1 => ⟨fun c2 => hq _ ?_, fun c2 => hq _ ?_⟩, fun c1 => hq _ ?_⟩⟩
  · have := ne c
    rw [pl_0] at this
    unfold RL
    rw [if_pos (by omega)]
    exact m
  · have k0 := n2 c
    have k1 := n2 c1
    have k2 := n2 c2
    rw [pl_0] at k0
    rw [pl_1] at k1
    rw [pl_2] at k2
    unfold RL
    rw [if_neg (by omega), if_neg (by omega), pt_sub (by omega) (by omega), hed, his]
  · have := ne c2
    rw [pl_2] at this
    unfold RL
    rw [if_neg (by omega), if_pos (by omega)]
    exact hun
  · have := ne c1
    rw [pl_1] at this
    unfold RL
    rw [if_pos (by omega)]
    exact m
/-! the reference's ones -/
def OIV (ro n : Nat) (C L : Nat → Nat) (P : Nat → Nat → Nat) (f : Nat → Int64) (u : Nat) (om : Int32) (on : Nat → Int32) (p : Nat) : Prop := om.toInt = OB ro n C L P u p ∧ ∀ w : Nat, w < p → IsO ro n C L P u w → (on (OB ro n C L P u w).toNat).toInt = VO ro n C P f u w
theorem OIV_skip {ro n : Nat} {C L : Nat → Nat} {P : Nat → Nat → Nat} {f : Nat → Int64} {u : Nat} {om : Int32} {on : Nat → Int32} {p p2 : Nat} (h : OIV ro n C L P f u om on p) (hp : p ≤ p2) (hn : ∀ w, p ≤ w → w < p2 → ¬ IsO ro n C L P u w) : OIV ro n C L P f u om on p2 := by
  refine ⟨?_, fun w w1 w2 => ?_⟩
  · rw [h.1]
    exact (CTP_st p2 hp hn).symm
  · by_cases z : w < p
    · exact h.2 w z w2
    · exact absurd w2 (hn w (by omega) w1)
theorem OIV_add {ro n : Nat} {C L : Nat → Nat} {P : Nat → Nat → Nat} {f : Nat → Int64} {u : Nat} {om om2 v : Int32} {on on2 : Nat → Int32} {p : Nat} (h : OIV ro n C L P f u om on p) (hI : IsO ro n C L P u p) (hv : v.toInt = VO ro n C P f u p) (hm : om2.toInt = om.toInt + 1) (ho : on2 = upd on om.toNatClampNeg v) : OIV ro n C L P f u om2 on2 (p + 1) := by
  have t : OB ro n C L P u (p + 1) = OB ro n C L P u p + 1 := CTP_y hI
  have h1 := h.1
  have b : ∀ w, 0 ≤ OB ro n C L P u w := fun w => (CTP_rng _ _).1
  have em : om.toNatClampNeg = (OB ro n C L P u p).toNat := by
    show om.toInt.toNat = _
    rw [h1]
  refine ⟨by omega, fun w w1 w2 => ?_⟩
  rw [ho, em]
  by_cases z : w = p
  · subst z
    rw [show upd on (OB ro n C L P u w).toNat v (OB ro n C L P u w).toNat = v by unfold upd; rw [if_pos rfl]]
    exact hv
  · have lt : OB ro n C L P u w < OB ro n C L P u p := CTP_lt (by omega) w2
    have b1 := b w
    rw [up_n (by omega)]
    exact h.2 w (by omega) w2
theorem EB_pos {n : Nat} {C : Nat → Nat} {P : Nat → Nat → Nat} {b x : Nat} (hb : b ≤ 512) (hx : (x : Int) = EB n C P b) : ∃ p : Nat, b ≤ p ∧ p ≤ 512 ∧ (x : Int) = EB n C P p ∧ ((x : Int) < EB n C P 512 → p < 512 ∧ IsE n C P p) ∧ (¬ (x : Int) < EB n C P 512 → p = 512) ∧ ∀ w, b ≤ w → w < p → ¬ IsE n C P w := by
  by_cases z : (x : Int) < EB n C P 512
  · obtain ⟨p, p1, p2, p3⟩ := CTP_inv (P := IsE n C P) (e := (x : Int)) (by omega) 512 z
    have p3' : EB n C P p = (x : Int) := p3
    have bp : b ≤ p := by
      apply Classical.byContradiction
      intro t
      have t2 : EB n C P p < EB n C P b := CTP_lt (by omega) p2
      omega
    refine ⟨p, bp, by omega, by omega, fun _ => ⟨p1, p2⟩, fun t => absurd z t, fun w w1 w2 w3 => ?_⟩
    have a : EB n C P w < EB n C P p := CTP_lt w2 w3
    have c := EB_mono (n := n) (C := C) (P := P) w1
    omega
  · have mn := EB_mono (n := n) (C := C) (P := P) hb
    refine ⟨512, hb, Nat.le_refl _, by omega, fun t => absurd t z, fun _ => rfl, fun w w1 w2 w3 => ?_⟩
    have a : EB n C P w < EB n C P 512 := CTP_lt w2 w3
    have c := EB_mono (n := n) (C := C) (P := P) w1
    omega
theorem fx9_isOne {S : bT9} {n : Nat} {C L : Nat → Nat} {P : Nat → Nat → Nat} {f : Nat → Int64} {u ro : Nat} (G : GRD n C L P) (hI : IAR n C L P f (b9g_itemNode S) (b9g_itemByte S) (b9g_itemChild S) (64 * u) 512) (hc : (b9g_chosen S).toInt = (ro : Int)) (h3 : 3 ≤ ro) (h5 : ro ≤ 5) {a1 : Int32} {w y : Nat} {Q : Int32 → Prop} (h1 : a1.toInt = (y : Int)) (hw : w < 512) (kw : 64 * u ≤ w) (hE : IsE n C P w) (hy : (y : Int) = EB n C P w - EB n C P (64 * u)) (hq : ∀ r : Int32, (r = 0 ↔ ¬ IsO ro n C L P u w) → Q r) : wp_X9_isOne S a1 Q := by
  obtain ⟨r1, r2, r3⟩ := hI w y kw hw hE hy
  have e5 := EB_le G (w := w) (by omega)
  have ek := EB_le G (w := 64 * u) (by omega)
  have em : a1.toNatClampNeg = y := by
    show a1.toInt.toNat = y
    omega
  have oe := OCV_end (f := f) (L := L) hw
  have no : ¬ IsO ro n C L P u w → bf_bool 0 ∧ Q 0 := fun p => ⟨rfl, hq _ ⟨fun _ => p, fun _ => rfl⟩⟩
  have yes : IsO ro n C L P u w → bf_bool 1 ∧ Q 1 := fun p => ⟨rfl, hq _ ⟨fun z => absurd z (by decide), fun z => absurd p z⟩⟩
  have c3t : ((3 : Int32)).toInt = 3 := rfl
  have c4t : ((4 : Int32)).toInt = 4 := rfl
  unfold wp_X9_isOne
  refine ⟨fun c3 => ⟨fun c4 => ?_, fun c4 => ?_⟩, fun c3 => ?_⟩
  · have n3 : ¬ ro = 3 := fun z => c3 (Int32.toInt_inj.mp (by omega))
    have n4 : ¬ ro = 4 := fun z => c4 (Int32.toInt_inj.mp (by omega))
    have r5 : ro = 5 := by omega
    subst r5
    have iff5 : IsO 5 n C L P u w ↔ IsN n C P w := by
      constructor
      · rintro (h | h | h | h | h | h)
        · omega
        · omega
        · omega
        · omega
        · omega
        · exact h.2.2
      · exact fun h => Or.inr (Or.inr (Or.inr (Or.inr (Or.inr ⟨rfl, kw, h⟩))))
    refine ⟨fun z => ?_, fun z => ?_⟩
    · refine yes (iff5.mpr ?_)
      have y0 : a1.toInt = 0 := by rw [z]; rfl
      obtain ⟨s, s1, s2, _, _⟩ := EDG_st G hE
      by_cases q : s = w % 64
      · unfold IsN
        rw [← q]
        exact s2
      · have hs : IsN n C P (64 * (w / 64) + s) := (IsN_at (by omega)).mpr s2
        have he := IsN_E G (by omega) hs
        have lt : EB n C P (64 * (w / 64) + s) < EB n C P w := CTP_lt (by omega) he
        have mn := EB_mono (n := n) (C := C) (P := P) (show 64 * u ≤ 64 * (w / 64) + s by omega)
        omega
    · have y0 : ¬ a1.toInt = 0 := fun q => z (Int32.toInt_inj.mp q)
      obtain ⟨v, v1, v2, v3⟩ := CTP_inv (P := IsE n C P) (e := EB n C P w - 1) (by omega) w (by show _ < EB n C P w; omega)
      have v3' : EB n C P v = EB n C P w - 1 := v3
      have kv : 64 * u ≤ v := by
        apply Classical.byContradiction
        intro q
        have lt : EB n C P v < EB n C P (64 * u) := CTP_lt (by omega) v2
        omega
      obtain ⟨m, rfl⟩ : ∃ m : Nat, y = m + 1 := ⟨y - 1, by omega⟩
      obtain ⟨q1, _, _⟩ := hI v m kv (by omega) v2 (by omega)
      have e1 : (a1 - 1).toInt = (m : Int) := by
        rw [pt_sub (by rw [pl_1]; omega) (by rw [pl_1]; omega), pl_1, h1]
        omega
      have em1 : (a1 - 1).toNatClampNeg = m := by
        show (a1 - 1).toInt.toNat = m
        omega
      rw [em, em1]
      refine ⟨pt_in (by omega) (by omega), pt_in (by omega) (by omega), fun c => no (fun o => ?_), fun c => yes (iff5.mpr (Classical.byContradiction (fun o => c (Int32.toInt_inj.mp ?_))))⟩
      · have hN := iff5.mp o
        have t : NB n C P (w + 1) = NB n C P w + 1 := CTP_y hN
        have mn := NB_mono (n := n) (C := C) (P := P) (show v + 1 ≤ w by omega)
        rw [c] at q1
        omega
      · have st : NB n C P (w + 1) = NB n C P (v + 1) := by
          refine CTP_st _ (by omega) (fun k k1 k2 k3 => ?_)
          by_cases q : k = w
          · rw [q] at k3
            exact o k3
          · have ke := IsN_E G (by omega) k3
            have a : EB n C P k < EB n C P w := CTP_lt (by omega) ke
            have b : EB n C P (v + 1) = EB n C P v + 1 := CTP_y v2
            have d := EB_mono (n := n) (C := C) (P := P) k1
            omega
        omega
  · have r4 : ro = 4 := by
      have : (b9g_chosen S).toInt = 4 := by rw [c4]; rfl
      omega
    subst r4
    have iff4 : IsO 4 n C L P u w ↔ ¬ C (w % 64) = w / 64 := by
      constructor
      · rintro (h | h | h | h | h | h)
        · omega
        · omega
        · omega
        · omega
        · exact h.2.2.2
        · omega
      · exact fun h => Or.inr (Or.inr (Or.inr (Or.inr (Or.inl ⟨rfl, kw, hE, h⟩))))
    rw [em]
    exact ⟨pt_in (by omega) (by omega), fun c => no (fun o => iff4.mp o (r3.mp c)), fun c => yes (iff4.mpr (fun z => c (r3.mpr z)))⟩
  · have r4 : ro = 3 := by
      have : (b9g_chosen S).toInt = 3 := by rw [c3]; rfl
      omega
    subst r4
    have iff3 : IsO 3 n C L P u w ↔ L (w % 64) = w / 64 := by
      constructor
      · rintro (h | h | h | h | h | h)
        · omega
        · omega
        · omega
        · exact h.2.2.2
        · omega
        · omega
      · exact fun h => Or.inr (Or.inr (Or.inr (Or.inl ⟨rfl, kw, hE, h⟩)))
    rw [em]
    exact ⟨pt_in (by omega) (by omega), fun c => no (fun o => c (by rw [r2]; exact oe.mpr (iff3.mp o))), fun c => yes (iff3.mpr (oe.mp (by rw [← r2]; exact c)))⟩
theorem RK_m {ro n : Nat} {C L : Nat → Nat} {P : Nat → Nat → Nat} {f : Nat → Int64} {u : Nat} {i m : Int} (h0 : 0 ≤ m) (h1 : m ≤ OB ro n C L P u 512) (h : ∀ w, w < 512 → IsO ro n C L P u w → (VO ro n C P f u w < i ↔ OB ro n C L P u w < m)) : RK ro n C L P f u i = m := by
  have e := CNT_pre (Q := IsO ro n C L P u) (R := fun w => VO ro n C P f u w < i) h0 512 h
  have e2 : RK ro n C L P f u i = min m (OB ro n C L P u 512) := e
  omega
/-- ones ahead, and what stands at their number -/
theorem fx9_onesAhead {S : bT9} {ro n : Nat} {C L : Nat → Nat} {P : Nat → Nat → Nat} {f : Nat → Int64} {u : Nat} (G : GRD n C L P) (hP : ∀ l i, P l i = PX (ub (f i)) l) (hA : OAR ro n C L P f u (b9g_oneMany S) (b9g_rowLong S) (b9g_ones S)) {a1 : Int32} {Q : Int32 → Prop} (hq : ∀ (r : Int32) (m : Nat), r.toInt = (m : Int) → r.toInt = RK ro n C L P f u a1.toInt → (b9g_oneMany S).toInt ≤ 512 → ((b9g_oneMany S).toInt ≤ (m : Int) → RK ro n C L P f u (a1.toInt + 1) = RK ro n C L P f u a1.toInt) → (¬ (b9g_oneMany S).toInt ≤ (m : Int) → (b9g_ones S m = a1 → RK ro n C L P f u (a1.toInt + 1) = RK ro n C L P f u a1.toInt + 1) ∧ (¬ b9g_ones S m = a1 → RK ro n C L P f u (a1.toInt + 1) = RK ro n C L P f u a1.toInt)) → Q r) : wp_X9_onesAhead S a1 Q := by
  obtain ⟨o1, _, o3⟩ := hA
  have ob := CTP_rng (IsO ro n C L P u) 512
  have ob' : 0 ≤ OB ro n C L P u 512 ∧ OB ro n C L P u 512 ≤ 512 := ob
  have at_ : ∀ m : Nat, (m : Int) < OB ro n C L P u 512 → ∃ w, w < 512 ∧ IsO ro n C L P u w ∧ OB ro n C L P u w = (m : Int) ∧ (b9g_ones S m).toInt = VO ro n C P f u w := by
    intro m hm
    obtain ⟨w, w1, w2, w3⟩ := CTP_inv (P := IsO ro n C L P u) (e := (m : Int)) (by omega) 512 hm
    have w3' : OB ro n C L P u w = (m : Int) := w3
    have k := o3 w w1 w2
    rw [w3', show ((m : Int)).toNat = m by omega] at k
    exact ⟨w, w1, w2, w3', k⟩
  have mono : ∀ w v, w < 512 → v < 512 → IsO ro n C L P u w → IsO ro n C L P u v → OB ro n C L P u w < OB ro n C L P u v → VO ro n C P f u w < VO ro n C P f u v := by
    intro w v w1 v1 w2 v2 lt
    refine VO_mono G hP ?_ v1 w2 v2
    apply Classical.byContradiction
    intro z
    have : OB ro n C L P u v ≤ OB ro n C L P u w := CTP_le w (by omega)
    omega
  have inj : ∀ w v, IsO ro n C L P u w → IsO ro n C L P u v → OB ro n C L P u w = OB ro n C L P u v → w = v := fun w v w2 v2 e => CTP_inj (P := IsO ro n C L P u) w2 v2 e
  -- the end of the walk
  have fin : ∀ (r : Int32) (m : Nat), r.toInt = (m : Int) → (m : Int) ≤ OB ro n C L P u 512 → (∀ k : Nat, k < m → (b9g_ones S k).toInt < a1.toInt) → ((m : Int) < OB ro n C L P u 512 → a1.toInt ≤ (b9g_ones S m).toInt) → Q r := by
    intro r m hr hm lo hi
    have cmp : ∀ w, w < 512 → IsO ro n C L P u w → (VO ro n C P f u w < a1.toInt ↔ OB ro n C L P u w < (m : Int)) := by
      intro w w1 w2
      have b := (CTP_rng (IsO ro n C L P u) w).1
      have b' : 0 ≤ OB ro n C L P u w := b
      have e := o3 w w1 w2
      constructor
      · intro t
        apply Classical.byContradiction
        intro z
        have lt : OB ro n C L P u w < OB ro n C L P u 512 := CTP_lt w1 w2
        obtain ⟨v, v1, v2, v3, v4⟩ := at_ m (by omega)
        have h2 := hi (by omega)
        by_cases q : OB ro n C L P u v = OB ro n C L P u w
        · have q2 := inj v w v2 w2 q
          rw [q2] at v4
          omega
        · have := mono v w v1 w1 v2 w2 (by omega)
          omega
      · intro t
        have h2 := lo (OB ro n C L P u w).toNat (by omega)
        omega
    have rk := RK_m (f := f) (i := a1.toInt) (m := (m : Int)) (by omega) hm cmp
    have keep : (∀ w, w < 512 → IsO ro n C L P u w → ¬ VO ro n C P f u w = a1.toInt) → RK ro n C L P f u (a1.toInt + 1) = RK ro n C L P f u a1.toInt := by
      intro ne
      rw [rk]
      refine RK_m (by omega) hm (fun w w1 w2 => ?_)
      have c := cmp w w1 w2
      have d := ne w w1 w2
      constructor
      · intro t
        exact c.mp (by omega)
      · intro t
        have := c.mpr t
        omega
    refine hq r m hr (by omega) (by omega) (fun t => keep (fun w w1 w2 z => ?_)) (fun t => ?_)
    · have lt : OB ro n C L P u w < OB ro n C L P u 512 := CTP_lt w1 w2
      have c := cmp w w1 w2
      have := c.mpr (by omega)
      omega
    · obtain ⟨v, v1, v2, v3, v4⟩ := at_ m (by omega)
      refine ⟨fun z => ?_, fun z => keep (fun w w1 w2 y => ?_)⟩
      · rw [rk]
        refine RK_m (by omega) (by omega) (fun w w1 w2 => ?_)
        have c := cmp w w1 w2
        rw [z] at v4
        constructor
        · intro t
          by_cases q : VO ro n C P f u w < a1.toInt
          · have := c.mp q
            omega
          · apply Classical.byContradiction
            intro y
            have := mono v w v1 w1 v2 w2 (by omega)
            omega
        · intro t
          by_cases q : OB ro n C L P u w < (m : Int)
          · have := c.mpr q
            omega
          · have := inj v w v2 w2 (by omega)
            rw [this] at v4
            omega
      · have c := cmp w w1 w2
        have n1 : ¬ OB ro n C L P u w < (m : Int) := fun t2 => by
          have := c.mpr t2
          omega
        have h2 := hi (by omega)
        by_cases q : OB ro n C L P u v = OB ro n C L P u w
        · have q2 := inj v w v2 w2 q
          rw [q2] at v4
          exact z (Int32.toInt_inj.mp (by omega))
        · have := mono v w v1 w1 v2 w2 (by omega)
          omega
  unfold wp_X9_onesAhead wp_X9_onesAhead_2
  refine ⟨fun k x1 x2 => x1 = a1 ∧ ∃ m : Nat, x2.toInt = (m : Int) ∧ (m : Int) ≤ OB ro n C L P u 512 ∧ (∀ k : Nat, k < m → (b9g_ones S k).toInt < a1.toInt) ∧ k = 513 - m, ⟨_, rfl, 0, rfl, by omega, fun k hk => by omega, rfl⟩, ?_⟩
  rintro k x1 x2 ⟨rfl, m, hm, m5, lo, hk⟩
  have em : x2.toNatClampNeg = m := by
    show x2.toInt.toNat = m
    omega
  unfold wp_X9_onesAhead_2b
  refine ⟨fun c => ?_, fun c => ?_⟩
  · simp only [pn] at c
    exact fin x2 m hm m5 lo (fun t => by omega)
  simp only [pn] at c
  rw [em]
  refine ⟨pt_in (by omega) (by omega), fun d => ?_, fun d => ?_⟩
  · simp only [pn] at d
    exact fin x2 m hm m5 lo (fun _ => d)
  · simp only [pn] at d
    refine ⟨513 - (m + 1), by omega, rfl, m + 1, by rw [pt_add (by rw [pl_1]; omega) (by rw [pl_1]; omega), pl_1, hm]; omega, by omega, fun q hq2 => ?_, rfl⟩
    by_cases z : q = m
    · rw [z]
      omega
    · exact lo q (by omega)
theorem E_node {n : Nat} {C L : Nat → Nat} {P : Nat → Nat → Nat} (G : GRD n C L P) {p w : Nat} (hp : p < 512 → IsN n C P p) (pw : p ≤ w) (hw : w < 512) (hE : IsE n C P w) : ∃ v : Nat, p ≤ v ∧ v ≤ w ∧ IsN n C P v := by
  obtain ⟨s, s1, s2, s3, _⟩ := EDG_st G hE
  have hs : IsN n C P (64 * (w / 64) + s) := (IsN_at (by omega)).mpr s2
  by_cases z : p ≤ 64 * (w / 64) + s
  · exact ⟨_, z, by omega, hs⟩
  · exfalso
    have hN := hp (by omega)
    have a : NB n C P (p + 1) = NB n C P p + 1 := CTP_y hN
    have b : NB n C P (64 * (w / 64) + s + 1) = NB n C P (64 * (w / 64) + s) + 1 := CTP_y hs
    have c := NB_mono (n := n) (C := C) (P := P) (show 64 * (w / 64) + s + 1 ≤ p by omega)
    have d := NB_mono (n := n) (C := C) (P := P) (show p + 1 ≤ w + 1 by omega)
    omega
/-! answers about rows of bits -/
def BTV (ro n : Nat) (C L : Nat → Nat) (P : Nat → Nat → Nat) (f : Nat → Int64) (u : Nat) (i r : Int) : Prop := (0 ≤ i ∧ i < RL ro n C P u → r = RK ro n C L P f u (i + 1) - RK ro n C L P f u i) ∧ (¬ (0 ≤ i ∧ i < RL ro n C P u) → r = -1)
def RKV (ro n : Nat) (C L : Nat → Nat) (P : Nat → Nat → Nat) (f : Nat → Int64) (u : Nat) (i r : Int) : Prop := (0 ≤ i ∧ i ≤ RL ro n C P u → r = RK ro n C L P f u i) ∧ (¬ (0 ≤ i ∧ i ≤ RL ro n C P u) → r = -1)
theorem RK_rng {ro n : Nat} {C L : Nat → Nat} {P : Nat → Nat → Nat} {f : Nat → Int64} {u : Nat} {i : Int} : 0 ≤ RK ro n C L P f u i ∧ RK ro n C L P f u i ≤ 512 := CTP_rng _ 512
theorem RL_nn {ro n : Nat} {C : Nat → Nat} {P : Nat → Nat → Nat} {u : Nat} (hu : u ≤ 8) : 0 ≤ RL ro n C P u := by
  unfold RL
  have a := NB_nn (n := n) (C := C) (P := P) (64 * u)
  have b := EB_mono (n := n) (C := C) (P := P) (show 64 * u ≤ 512 by omega)
  by_cases z1 : ro ≤ 1
  · rw [if_pos z1]
    omega
  · rw [if_neg z1]
    by_cases z2 : ro = 2
    · rw [if_pos z2]
      exact a
    · rw [if_neg z2]
      omega
theorem R_row {x x' y y' r q : Int32} {T : Nat → Int32} {n : Int32} (h : x.toInt = y.toInt ∧ 0 ≤ x.toInt ∧ x.toInt ≤ 5) (e : r.toInt = q.toInt) (hr : RWE T n r) (a : (r.toInt = -1 → x' = x) ∧ (r.toInt ≠ -1 → x' = r)) (b : (q.toInt = -1 → y' = y) ∧ (q.toInt ≠ -1 → y' = q)) : x'.toInt = y'.toInt ∧ 0 ≤ x'.toInt ∧ x'.toInt ≤ 5 := by
  by_cases z : r.toInt = -1
  · rw [a.1 z, b.1 (by omega)]
    exact h
  · rw [a.2 z, b.2 (by omega)]
    refine ⟨e, ?_⟩
    rcases hr with ⟨m, hm, e2, _⟩ | ⟨e2, _⟩
    · omega
    · exact absurd e2 z
theorem AGX_o {X : bT1} {S : bT9} (h : AGX X S) : (∀ ro u w, IsO ro (tn X) (tC X) (tL X) (tP X) u w ↔ IsO ro (n9 S) (C9 S) (L9 S) (P9 S) u w) ∧ (∀ ro u w, IsO ro (n9 S) (C9 S) (L9 S) (P9 S) u w → VO ro (tn X) (tC X) (tP X) (b0g_bytes (b1g_owners X)) u w = VO ro (n9 S) (C9 S) (P9 S) (fun j => b9g_keys S (64 + j)) u w) ∧ (∀ ro u, RL ro (tn X) (tC X) (tP X) u = RL ro (n9 S) (C9 S) (P9 S) u) ∧ (∀ ro u w, OB ro (tn X) (tC X) (tL X) (tP X) u w = OB ro (n9 S) (C9 S) (L9 S) (P9 S) u w) ∧ (∀ ro u i, RK ro (tn X) (tC X) (tL X) (tP X) (b0g_bytes (b1g_owners X)) u i = RK ro (n9 S) (C9 S) (L9 S) (P9 S) (fun j => b9g_keys S (64 + j)) u i) := by
  obtain ⟨eN, eE, _, eNB, eEB, _⟩ := AGX_g h
  obtain ⟨hn, hC, hL, hP, hf⟩ := h
  rw [hn] at eN eE eNB eEB ⊢
  have a : ∀ ro u w, IsO ro (n9 S) (tC X) (tL X) (tP X) u w ↔ IsO ro (n9 S) (C9 S) (L9 S) (P9 S) u w := fun ro u w => IsO_cg hC hL eE eN ro u w
  have b : ∀ ro u w, IsO ro (n9 S) (C9 S) (L9 S) (P9 S) u w → VO ro (n9 S) (tC X) (tP X) (b0g_bytes (b1g_owners X)) u w = VO ro (n9 S) (C9 S) (P9 S) (fun j => b9g_keys S (64 + j)) u w := fun ro u w o => VO_cg eNB eEB hf (IsO_in o)
  refine ⟨a, b, fun ro u => RL_cg eNB eEB, fun ro u w => OB_cg hC hL eE eN ro u w, fun ro u i => CTP_congr 512 (fun w _ => ⟨fun z => ⟨(a ro u w).mp z.1, ?_⟩, fun z => ⟨(a ro u w).mpr z.1, ?_⟩⟩)⟩
  · rw [← b ro u w ((a ro u w).mp z.1)]
    exact z.2
  · rw [b ro u w z.1]
    exact z.2
theorem C_ones {X : bT1} {P : bT3} {S : bT9} {cx cy : Int32} (h9 : 0 ≤ (b9g_now S 9).toInt) (hx : LFP X (b9g_now S) (fun j => b9g_keys S (64 + j)) (fun j => b9g_lengths S (64 + j))) (hb : (b9g_now S 9).toInt = 0 ∨ (b3g_values P 2 + 1 = b9g_now S 13 ∧ b3g_values P 3 = b9g_now S 14)) (hd : DB2 P) (hc : cx.toInt = cy.toInt ∧ 0 ≤ cx.toInt ∧ cx.toInt ≤ 5) {A B : Prop} (ha : A) (hbb : B) {M1 M2 : Nat → Nat → Prop} (h : A → ∀ ro : Nat, cx.toInt = (ro : Int) → ro ≤ 5 → ∃ k lv : Nat, UPX X (b3g_values P 2) (b3g_values P 3) k lv ∧ M1 ro k) (h2 : B → ∀ ro : Nat, cy.toInt = (ro : Int) → ro ≤ 5 → ∃ k lv : Nat, UPD S k lv ∧ M2 ro k) : ∃ ro k : Nat, k ≤ 8 ∧ M1 ro k ∧ M2 ro k := by
  have ag := AGX_of h9 hx
  obtain ⟨ro, hr⟩ : ∃ ro : Nat, cx.toInt = (ro : Int) := ⟨cx.toInt.toNat, by omega⟩
  obtain ⟨k, lv, u1, u2⟩ := h ha ro hr (by omega)
  obtain ⟨k', lv', v1, v2⟩ := h2 hbb ro (by omega) (by omega)
  obtain ⟨e1, e2⟩ := UPQ ag hb hd u1 v1
  have e3 := v1.2.1
  have e4 := v1.2.2.1
  refine ⟨ro, k', by omega, ?_, v2⟩
  rw [← e1]
  exact u2
theorem C_bit {X : bT1} {P : bT3} {S : bT9} {cx cy a r q : Int32} (h9 : 0 ≤ (b9g_now S 9).toInt) (hx : LFP X (b9g_now S) (fun j => b9g_keys S (64 + j)) (fun j => b9g_lengths S (64 + j))) (hb : (b9g_now S 9).toInt = 0 ∨ (b3g_values P 2 + 1 = b9g_now S 13 ∧ b3g_values P 3 = b9g_now S 14)) (hd : DB2 P) (hc : cx.toInt = cy.toInt ∧ 0 ≤ cx.toInt ∧ cx.toInt ≤ 5) {A B : Prop} (ha : A) (hbb : B) (h : A → ∀ ro : Nat, cx.toInt = (ro : Int) → ro ≤ 5 → ∃ k lv : Nat, UPX X (b3g_values P 2) (b3g_values P 3) k lv ∧ BTV ro (tn X) (tC X) (tL X) (tP X) (b0g_bytes (b1g_owners X)) k a.toInt r.toInt) (h2 : B → ∀ ro : Nat, cy.toInt = (ro : Int) → ro ≤ 5 → ∃ k lv : Nat, UPD S k lv ∧ BTV ro (n9 S) (C9 S) (L9 S) (P9 S) (fun j => b9g_keys S (64 + j)) k a.toInt q.toInt) : r.toInt = q.toInt := by
  obtain ⟨ro, k, _, m1, m2⟩ := C_ones h9 hx hb hd hc ha hbb h h2
  obtain ⟨_, _, eR, _, eK⟩ := AGX_o (AGX_of h9 hx)
  unfold BTV at m1 m2
  rw [eR, eK, eK] at m1
  by_cases z : 0 ≤ a.toInt ∧ a.toInt < RL ro (n9 S) (C9 S) (P9 S) k
  · rw [m1.1 z, m2.1 z]
  · rw [m1.2 z, m2.2 z]
theorem C_rank {X : bT1} {P : bT3} {S : bT9} {cx cy a r q : Int32} (h9 : 0 ≤ (b9g_now S 9).toInt) (hx : LFP X (b9g_now S) (fun j => b9g_keys S (64 + j)) (fun j => b9g_lengths S (64 + j))) (hb : (b9g_now S 9).toInt = 0 ∨ (b3g_values P 2 + 1 = b9g_now S 13 ∧ b3g_values P 3 = b9g_now S 14)) (hd : DB2 P) (hc : cx.toInt = cy.toInt ∧ 0 ≤ cx.toInt ∧ cx.toInt ≤ 5) {A B : Prop} (ha : A) (hbb : B) (h : A → ∀ ro : Nat, cx.toInt = (ro : Int) → ro ≤ 5 → ∃ k lv : Nat, UPX X (b3g_values P 2) (b3g_values P 3) k lv ∧ RKV ro (tn X) (tC X) (tL X) (tP X) (b0g_bytes (b1g_owners X)) k a.toInt r.toInt) (h2 : B → ∀ ro : Nat, cy.toInt = (ro : Int) → ro ≤ 5 → ∃ k lv : Nat, UPD S k lv ∧ RKV ro (n9 S) (C9 S) (L9 S) (P9 S) (fun j => b9g_keys S (64 + j)) k a.toInt q.toInt) : r.toInt = q.toInt := by
  obtain ⟨ro, k, _, m1, m2⟩ := C_ones h9 hx hb hd hc ha hbb h h2
  obtain ⟨_, _, eR, _, eK⟩ := AGX_o (AGX_of h9 hx)
  unfold RKV at m1 m2
  rw [eR, eK] at m1
  by_cases z : 0 ≤ a.toInt ∧ a.toInt ≤ RL ro (n9 S) (C9 S) (P9 S) k
  · rw [m1.1 z, m2.1 z]
  · rw [m1.2 z, m2.2 z]
theorem C_select {X : bT1} {P : bT3} {S : bT9} {cx cy a r q : Int32} (h9 : 0 ≤ (b9g_now S 9).toInt) (hx : LFP X (b9g_now S) (fun j => b9g_keys S (64 + j)) (fun j => b9g_lengths S (64 + j))) (hb : (b9g_now S 9).toInt = 0 ∨ (b3g_values P 2 + 1 = b9g_now S 13 ∧ b3g_values P 3 = b9g_now S 14)) (hd : DB2 P) (hc : cx.toInt = cy.toInt ∧ 0 ≤ cx.toInt ∧ cx.toInt ≤ 5) {A B : Prop} (ha : A) (hbb : B) (h : A → ∀ ro : Nat, cx.toInt = (ro : Int) → ro ≤ 5 → ∃ k lv : Nat, UPX X (b3g_values P 2) (b3g_values P 3) k lv ∧ SEL ro (tn X) (tC X) (tL X) (tP X) (b0g_bytes (b1g_owners X)) k a.toInt r.toInt) (h2 : B → ∀ ro : Nat, cy.toInt = (ro : Int) → ro ≤ 5 → ∃ k lv : Nat, UPD S k lv ∧ SEL ro (n9 S) (C9 S) (L9 S) (P9 S) (fun j => b9g_keys S (64 + j)) k a.toInt q.toInt) : r.toInt = q.toInt := by
  obtain ⟨ro, k, _, m1, m2⟩ := C_ones h9 hx hb hd hc ha hbb h h2
  obtain ⟨eI, eV, _, eO, _⟩ := AGX_o (AGX_of h9 hx)
  refine SEL_one (ro := ro) (n := n9 S) (C := C9 S) (L := L9 S) (P := P9 S) (f := fun j => b9g_keys S (64 + j)) (u := k) (k := a.toInt) ?_ m2
  rcases m1 with ⟨w, w1, w2, w3, w4⟩ | ⟨w1, w2⟩
  · have o := (eI ro k w).mp w2
    exact Or.inl ⟨w, w1, o, by rw [← eO]; exact w3, by rw [w4]; exact eV ro k w o⟩
  · exact Or.inr ⟨w1, by rw [← eO]; exact w2⟩
/-! how many bits -/
def BIV (ro n : Nat) (C L : Nat → Nat) (P : Nat → Nat → Nat) (u : Nat) (tl a r : Int32) : Prop := (a.toInt = 0 → r.toInt = BTN n C P u) ∧ (a.toInt = 1 → r.toInt = BTE n C P u) ∧ (a.toInt = 2 → r = tl) ∧ (a.toInt = 3 → ∃ x : Int32, x.toInt = BTS n C P u ∧ r = x + tl) ∧ (a.toInt = 4 → r.toInt = 8 * SMB (fun i => min (L i) 8) n) ∧ (a.toInt = 5 → r.toInt = RL ro n C P u) ∧ (a.toInt = 6 → r.toInt = OB ro n C L P u 512) ∧ (¬ (0 ≤ a.toInt ∧ a.toInt ≤ 6) → r.toInt = -1)
theorem BIV_one {ro n : Nat} {C L : Nat → Nat} {P : Nat → Nat → Nat} {u : Nat} {tl a r q : Int32} (h : BIV ro n C L P u tl a r) (g : BIV ro n C L P u tl a q) : r.toInt = q.toInt := by
  obtain ⟨h0, h1, h2, h3, h4, h5, h6, h7⟩ := h
  obtain ⟨g0, g1, g2, g3, g4, g5, g6, g7⟩ := g
  by_cases z : 0 ≤ a.toInt ∧ a.toInt ≤ 6
  · by_cases z0 : a.toInt = 0
    · rw [h0 z0, g0 z0]
    by_cases z1 : a.toInt = 1
    · rw [h1 z1, g1 z1]
    by_cases z2 : a.toInt = 2
    · rw [h2 z2, g2 z2]
    by_cases z3 : a.toInt = 3
    · obtain ⟨x, x1, x2⟩ := h3 z3
      obtain ⟨y, y1, y2⟩ := g3 z3
      rw [x2, y2, show x = y from Int32.toInt_inj.mp (by omega)]
    by_cases z4 : a.toInt = 4
    · rw [h4 z4, g4 z4]
    by_cases z5 : a.toInt = 5
    · rw [h5 z5, g5 z5]
    · rw [h6 (by omega), g6 (by omega)]
  · rw [h7 z, g7 z]
theorem SMB_len {L : Nat → Nat} (n : Nat) : 0 ≤ SMB (fun i => min (L i) 8) n ∧ SMB (fun i => min (L i) 8) n ≤ 8 * (n : Int) := SMB_rng (fun i => Nat.min_le_right _ _) n
theorem fx0_allBytes {X : bT1} (o : LVO X) (j : J1 X) {Q : Int32 → Prop} (hq : ∀ r : Int32, r.toInt = SMB (fun i => min (tL X i) 8) (tn X) → Q r) : wp_X0_allBytes (b1g_owners X) Q := by
  have jn := tnn j
  have jo := J0g_count (J1g_owners j)
  have G := tG o j
  unfold wp_X0_allBytes wp_X0_allBytes_4
  refine ⟨fun k x1 x2 => ∃ i : Nat, x2.toInt = (i : Int) ∧ i ≤ tn X ∧ x1.toInt = SMB (fun i => min (tL X i) 8) i ∧ k = 64 - i, ⟨_, 0, rfl, by omega, rfl, rfl⟩, ?_⟩
  rintro k x1 x2 ⟨i, e2, hi, hv, hk⟩
  have cr := SMB_len (L := tL X) i
  suffices H : ∀ B : Int32 → Int32 → Prop, (∀ v : Int32, i < tn X → v.toInt = SMB (fun i => min (tL X i) 8) (i + 1) → B v (x2 + 1)) → wp_X0_allBytes_4b (b1g_owners X) x1 x2 Q B from H _ (fun v h t => ⟨64 - (i + 1), by omega, i + 1, by rw [pt_add (by rw [pl_1]; omega) (by rw [pl_1]; omega), pl_1, e2]; omega, by omega, t, rfl⟩)
  intro B hB
  unfold wp_X0_allBytes_4b
  refine ⟨fun c => ?_, fun c => ?_⟩
  · simp only [pn] at c
    have ei : i = tn X := by omega
    rw [ei] at hv
    exact hq x1 hv
  simp only [pn] at c
  refine fx_lengthAt (J1g_owners j) (fun r1 hr _ => hB _ (by omega) ?_)
  have er := hr i (by omega) (by omega)
  have b1 := o.2.1.2 i (by omega)
  have tl : ((tL X i : Nat) : Int) = (b0g_lengths (b1g_owners X) i).toInt := by
    show (((b0g_lengths (b1g_owners X) i).toInt.toNat : Nat) : Int) = _
    omega
  rw [er]
  show (x1 + b0g_lengths (b1g_owners X) i).toInt = SMB (fun i => min (tL X i) 8) i + ((min (tL X i) 8 : Nat) : Int)
  rw [pt_add (by omega) (by omega), hv]
  omega
theorem fx9_keyBits {S : bT9} (hK : K9 S) {Q : Int32 → Prop} (hq : ∀ r : Int32, r.toInt = 8 * SMB (fun i => min (L9 S i) 8) (n9 S) → Q r) : wp_X9_keyBits S Q := by
  have jn := (K9g_now hK).2.2.2.1
  have en : ((n9 S : Nat) : Int) = (b9g_now S 9).toInt := by unfold n9; omega
  unfold wp_X9_keyBits wp_X9_keyBits_4
  refine ⟨fun k x1 x2 => ∃ i : Nat, x2.toInt = (i : Int) ∧ i ≤ n9 S ∧ x1.toInt = 8 * SMB (fun i => min (L9 S i) 8) i ∧ k = 64 - i, ⟨_, 0, rfl, by omega, rfl, rfl⟩, ?_⟩
  rintro k x1 x2 ⟨i, e2, hi, hv, hk'⟩
  have cr := SMB_len (L := L9 S) i
  suffices H : ∀ B : Int32 → Int32 → Prop, (∀ v : Int32, i < n9 S → v.toInt = 8 * SMB (fun i => min (L9 S i) 8) (i + 1) → B v (x2 + 1)) → wp_X9_keyBits_4b S x1 x2 Q B from H _ (fun v h t => ⟨64 - (i + 1), by omega, i + 1, by rw [pt_add (by rw [pl_1]; omega) (by rw [pl_1]; omega), pl_1, e2]; omega, by omega, t, rfl⟩)
  intro B hB
  have e9 : b9g_now S ((9 : Int32)).toNatClampNeg = b9g_now S 9 := rfl
  have ei : x2.toNatClampNeg = i := by
    show x2.toInt.toNat = i
    omega
  unfold wp_X9_keyBits_4b
  rw [e9]
  refine ⟨pt_in (by decide) (by decide), fun c => ?_, fun c => ?_⟩
  · simp only [pn] at c
    have ei : i = n9 S := by omega
    rw [ei] at hv
    exact hq x1 hv
  simp only [pn] at c
  refine fx9_lengthOf (by omega) (by omega) ?_
  rw [ei]
  refine hB _ (by omega) ?_
  have jl := K9g_lengths hK (64 + i)
  have tl : ((L9 S i : Nat) : Int) = (b9g_lengths S (64 + i)).toInt := by
    show (((b9g_lengths S (64 + i)).toInt.toNat : Nat) : Int) = _
    omega
  have c8 : ((8 : Int32)).toInt = 8 := rfl
  have m8 : ((8 : Int32) * b9g_lengths S (64 + i)).toInt = 8 * (b9g_lengths S (64 + i)).toInt := by rw [pt_mul (by rw [c8]; omega) (by rw [c8]; omega), c8]
  show (x1 + 8 * b9g_lengths S (64 + i)).toInt = 8 * (SMB (fun i => min (L9 S i) 8) i + ((min (L9 S i) 8 : Nat) : Int))
  rw [pt_add (by omega) (by omega), hv, m8]
  omega
theorem C_bits {X : bT1} {P : bT3} {S : bT9} {cx cy a r q : Int32} (h9 : 0 ≤ (b9g_now S 9).toInt) (hx : LFP X (b9g_now S) (fun j => b9g_keys S (64 + j)) (fun j => b9g_lengths S (64 + j))) (hb : (b9g_now S 9).toInt = 0 ∨ (b3g_values P 2 + 1 = b9g_now S 13 ∧ b3g_values P 3 = b9g_now S 14)) (hd : DB2 P) (hc : cx.toInt = cy.toInt ∧ 0 ≤ cx.toInt ∧ cx.toInt ≤ 5) {A B : Prop} (ha : A) (hbb : B) (h : A → ∀ ro : Nat, cx.toInt = (ro : Int) → ro ≤ 5 → ∃ k lv : Nat, UPX X (b3g_values P 2) (b3g_values P 3) k lv ∧ BIV ro (tn X) (tC X) (tL X) (tP X) k (TLB (b0g_count (b1g_owners X)) (b1g_hashBits X) (b1g_realBits X)) a r) (h2 : B → ∀ ro : Nat, cy.toInt = (ro : Int) → ro ≤ 5 → ∃ k lv : Nat, UPD S k lv ∧ BIV ro (n9 S) (C9 S) (L9 S) (P9 S) k (TLB (b9g_now S 9) (HBT (b9g_now S)) (NBT (b9g_now S))) a q) : r.toInt = q.toInt := by
  obtain ⟨ro, k, _, m1, m2⟩ := C_ones h9 hx hb hd hc ha hbb h h2
  have ag := AGX_of h9 hx
  obtain ⟨_, _, eR, eO, _⟩ := AGX_o ag
  obtain ⟨_, _, _, eN, eE, _⟩ := AGX_g ag
  have c2 : SMB (fun i => min (tL X i) 8) (tn X) = SMB (fun i => min (L9 S i) 8) (n9 S) := by
    rw [ag.1]
    exact SMB_congr _ (fun i hi => by show min (tL X i) 8 = min (L9 S i) 8; rw [ag.2.2.1 i hi])
  refine BIV_one (ro := ro) (n := n9 S) (C := C9 S) (L := L9 S) (P := P9 S) (u := k) (tl := TLB (b9g_now S 9) (HBT (b9g_now S)) (NBT (b9g_now S))) ?_ m2
  unfold BIV BTS BTN BTE at m1
  unfold BIV BTS BTN BTE
  rw [TLB_eq hx, eN, eE, eE, c2, eR, eO] at m1
  exact m1

