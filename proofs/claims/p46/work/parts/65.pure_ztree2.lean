theorem fx6_findEdges {S : bT6 × bT1} {Q : (bT6 × bT1) → Prop} (o : LVO S.2) (j : J1 S.2) (hm : (b6g_nodes S.1).toInt = NB (tn S.2) (tC S.2) (tP S.2) 512) (hO : NOD (tn S.2) (tC S.2) (tP S.2) (b6g_nodeLevels S.1) (b6g_firstLeaves S.1) (b6g_leafCounts S.1) 8 0) (hb : ∀ y : Nat, -1 ≤ (b6g_edgeStarts S.1 y).toInt ∧ (b6g_edgeStarts S.1 y).toInt ≤ 296) (hq : ∀ u : bT6 × bT1, u.2 = S.2 → b6g_nodeLevels u.1 = b6g_nodeLevels S.1 → b6g_firstLeaves u.1 = b6g_firstLeaves S.1 → b6g_leafCounts u.1 = b6g_leafCounts S.1 → b6g_levelStarts u.1 = b6g_levelStarts S.1 → b6g_nodes u.1 = b6g_nodes S.1 → b6g_levels u.1 = b6g_levels S.1 → (∀ y : Nat, -1 ≤ (b6g_edgeStarts u.1 y).toInt ∧ (b6g_edgeStarts u.1 y).toInt ≤ 296) → (∀ w y : Nat, w < 512 → IsN (tn S.2) (tC S.2) (tP S.2) w → (y : Int) = NB (tn S.2) (tC S.2) (tP S.2) w → (b6g_edgeStarts u.1 y).toInt = EB (tn S.2) (tC S.2) (tP S.2) w) → (∀ y : Nat, (y : Int) = NB (tn S.2) (tC S.2) (tP S.2) 512 → (b6g_edgeStarts u.1 y).toInt = EB (tn S.2) (tC S.2) (tP S.2) 512) → (b6g_edges u.1).toInt = EB (tn S.2) (tC S.2) (tP S.2) 512 → EAR (tn S.2) (tC S.2) (tL S.2) (tP S.2) (b0g_bytes (b1g_owners S.2)) (b6g_edgeNodes u.1) (b6g_edgeOctets u.1) (b6g_edgeLeaves u.1) (b6g_edgeChildren u.1) 512 → Q u) : wp_X6_findEdges S Q := by
  have G := tG o j
  have g64 := G.1
  have nb512 := NB_le G (l := 7) (i := 64) (by omega) (by omega)
  have nb5 : NB (tn S.2) (tC S.2) (tP S.2) (64 * 7 + 64) = NB (tn S.2) (tC S.2) (tP S.2) 512 := rfl
  -- the place of node x
  have pos : ∀ (x b : Nat), b ≤ 512 → (x : Int) = NB (tn S.2) (tC S.2) (tP S.2) b → ∃ p : Nat, b ≤ p ∧ p ≤ 512 ∧ (x : Int) = NB (tn S.2) (tC S.2) (tP S.2) p ∧ ((x : Int) < NB (tn S.2) (tC S.2) (tP S.2) 512 → p < 512 ∧ IsN (tn S.2) (tC S.2) (tP S.2) p) ∧ (¬ (x : Int) < NB (tn S.2) (tC S.2) (tP S.2) 512 → p = 512) ∧ ∀ w, b ≤ w → w < p → ¬ IsN (tn S.2) (tC S.2) (tP S.2) w := by
    intro x b hb hx
    by_cases z : (x : Int) < NB (tn S.2) (tC S.2) (tP S.2) 512
    · obtain ⟨p, p1, p2, p3⟩ := CTP_inv (P := IsN (tn S.2) (tC S.2) (tP S.2)) (e := (x : Int)) (by omega) 512 z
      have p3' : NB (tn S.2) (tC S.2) (tP S.2) p = (x : Int) := p3
      have bp : b ≤ p := by
        apply Classical.byContradiction
        intro t
        have := CTP_lt (P := IsN (tn S.2) (tC S.2) (tP S.2)) (show p < b by omega) p2
        have t2 : NB (tn S.2) (tC S.2) (tP S.2) p < NB (tn S.2) (tC S.2) (tP S.2) b := this
        omega
      refine ⟨p, bp, by omega, by omega, fun _ => ⟨p1, p2⟩, fun t => absurd z t, fun w w1 w2 w3 => ?_⟩
      have a : NB (tn S.2) (tC S.2) (tP S.2) w < NB (tn S.2) (tC S.2) (tP S.2) p := CTP_lt w2 w3
      have c := NB_mono (n := tn S.2) (C := tC S.2) (P := tP S.2) w1
      omega
    · have mn := NB_mono (n := tn S.2) (C := tC S.2) (P := tP S.2) hb
      refine ⟨512, hb, Nat.le_refl _, by omega, fun t => absurd t z, fun _ => rfl, fun w w1 w2 w3 => ?_⟩
      have a : NB (tn S.2) (tC S.2) (tP S.2) w < NB (tn S.2) (tC S.2) (tP S.2) 512 := CTP_lt w2 w3
      have c := NB_mono (n := tn S.2) (C := tC S.2) (P := tP S.2) w1
      omega
  obtain ⟨p0, q1, q2, q3, q4, q5, q6⟩ := pos 0 0 (by omega) rfl
  have z0E : EB (tn S.2) (tC S.2) (tP S.2) p0 = 0 := EB_gap g64 (l := 0) (e := 0) (by omega) (fun a b => ⟨a, b, Or.inl rfl⟩) (by omega) (fun w a b => q6 w (by omega) b)
  unfold wp_X6_findEdges
  intro S5 e5 S6 e6
  unfold wp_X6_findEdges_12
  refine ⟨fun k x2 V => ∃ x p : Nat, x2.toInt = (x : Int) ∧ (x : Int) ≤ NB (tn S.2) (tC S.2) (tP S.2) 512 ∧ V.2 = S.2 ∧ b6g_nodeLevels V.1 = b6g_nodeLevels S.1 ∧ b6g_firstLeaves V.1 = b6g_firstLeaves S.1 ∧ b6g_leafCounts V.1 = b6g_leafCounts S.1 ∧ b6g_levelStarts V.1 = b6g_levelStarts S.1 ∧ b6g_nodes V.1 = b6g_nodes S.1 ∧ b6g_levels V.1 = b6g_levels S.1 ∧ (∀ y : Nat, -1 ≤ (b6g_edgeStarts V.1 y).toInt ∧ (b6g_edgeStarts V.1 y).toInt ≤ 296) ∧ p ≤ 512 ∧ (x : Int) = NB (tn S.2) (tC S.2) (tP S.2) p ∧ ((x : Int) < NB (tn S.2) (tC S.2) (tP S.2) 512 → p < 512 ∧ IsN (tn S.2) (tC S.2) (tP S.2) p) ∧ (¬ (x : Int) < NB (tn S.2) (tC S.2) (tP S.2) 512 → p = 512) ∧ (∀ w y : Nat, w < p → IsN (tn S.2) (tC S.2) (tP S.2) w → (y : Int) = NB (tn S.2) (tC S.2) (tP S.2) w → (b6g_edgeStarts V.1 y).toInt = EB (tn S.2) (tC S.2) (tP S.2) w) ∧ (b6g_edges V.1).toInt = EB (tn S.2) (tC S.2) (tP S.2) p ∧ EAR (tn S.2) (tC S.2) (tL S.2) (tP S.2) (b0g_bytes (b1g_owners S.2)) (b6g_edgeNodes V.1) (b6g_edgeOctets V.1) (b6g_edgeLeaves V.1) (b6g_edgeChildren V.1) p ∧ 0 ≤ (b6g_children V.1).toInt ∧ (b6g_children V.1).toInt ≤ (b6g_edges V.1).toInt ∧ k = 232 - x, ⟨_, 0, p0, rfl, by omega, by rw [e6, e5], by rw [e6, e5], by rw [e6, e5], by rw [e6, e5], by rw [e6, e5], by rw [e6, e5], by rw [e6, e5], by rw [e6, e5]; exact hb, q2, q3, q4, q5, fun w y w1 w2 => absurd w2 (q6 w (by omega) w1), by rw [e6, e5, z0E]; rfl, fun w y w1 w2 w3 => ?_, by rw [e6]; exact (by decide : (0 : Int) ≤ ((0 : Int32)).toInt), by rw [e6, e5]; exact (by decide : ((0 : Int32)).toInt ≤ ((0 : Int32)).toInt), rfl⟩, ?_⟩
  · have a : EB (tn S.2) (tC S.2) (tP S.2) w < EB (tn S.2) (tC S.2) (tP S.2) p0 := CTP_lt w1 w2
    have b := (EB_le G (w := w) (by omega)).1
    omega
  rintro k x2 V ⟨x, p, e2, xm, eV, f1, f2, f3, f4, f5, f6, fb, p512, px, pN, pE, sE, hE, hR, c0, c1, hk⟩
  suffices H : ∀ B : Int32 → (bT6 × bT1) → Prop, (∀ (T : bT6 × bT1) (p' : Nat), T.2 = S.2 → b6g_nodeLevels T.1 = b6g_nodeLevels S.1 → b6g_firstLeaves T.1 = b6g_firstLeaves S.1 → b6g_leafCounts T.1 = b6g_leafCounts S.1 → b6g_levelStarts T.1 = b6g_levelStarts S.1 → b6g_nodes T.1 = b6g_nodes S.1 → b6g_levels T.1 = b6g_levels S.1 → (∀ y : Nat, -1 ≤ (b6g_edgeStarts T.1 y).toInt ∧ (b6g_edgeStarts T.1 y).toInt ≤ 296) → p' ≤ 512 → ((x + 1 : Nat) : Int) = NB (tn S.2) (tC S.2) (tP S.2) p' → (((x + 1 : Nat) : Int) < NB (tn S.2) (tC S.2) (tP S.2) 512 → p' < 512 ∧ IsN (tn S.2) (tC S.2) (tP S.2) p') → (¬ ((x + 1 : Nat) : Int) < NB (tn S.2) (tC S.2) (tP S.2) 512 → p' = 512) → (∀ w y : Nat, w < p' → IsN (tn S.2) (tC S.2) (tP S.2) w → (y : Int) = NB (tn S.2) (tC S.2) (tP S.2) w → (b6g_edgeStarts T.1 y).toInt = EB (tn S.2) (tC S.2) (tP S.2) w) → (b6g_edges T.1).toInt = EB (tn S.2) (tC S.2) (tP S.2) p' → EAR (tn S.2) (tC S.2) (tL S.2) (tP S.2) (b0g_bytes (b1g_owners S.2)) (b6g_edgeNodes T.1) (b6g_edgeOctets T.1) (b6g_edgeLeaves T.1) (b6g_edgeChildren T.1) p' → 0 ≤ (b6g_children T.1).toInt → (b6g_children T.1).toInt ≤ (b6g_edges T.1).toInt → (x : Int) < NB (tn S.2) (tC S.2) (tP S.2) 512 → B (x2 + 1) T) → wp_X6_findEdges_12b V x2 Q B from H _ (fun T p' t1 t2 t3 t4 t5 t6 t7 t8 t9 t10 t11 t12 t13 t14 t15 t16 t17 hx => ⟨232 - (x + 1), by omega, x + 1, p', by rw [pt_add (by rw [pl_1]; omega) (by rw [pl_1]; omega), pl_1, e2]; omega, by omega, t1, t2, t3, t4, t5, t6, t7, t8, t9, t10, t11, t12, t13, t14, t15, t16, t17, rfl⟩)
  intro B hB
  have em : x2.toNatClampNeg = x := by
    show x2.toInt.toNat = x
    omega
  have ebp := EB_le G (w := p) p512
  unfold wp_X6_findEdges_12b
  rw [f5]
  refine ⟨fun c => ?_, fun c => ?_⟩
  · simp only [pn] at c
    have p5 := pE (by omega)
    subst p5
    have enm : (b6g_nodes S.1).toNatClampNeg = x := by
      show (b6g_nodes S.1).toInt.toNat = x
      omega
    refine ⟨pt_in (by omega) (by omega), fun S1 e1 => ?_⟩
    rw [enm] at e1
    refine hq S1 (by rw [e1]; exact eV) (by rw [e1]; exact f1) (by rw [e1]; exact f2) (by rw [e1]; exact f3) (by rw [e1]; exact f4) (by rw [e1]; exact f5) (by rw [e1]; exact f6) (fun y => ?_) (fun w y w1 w2 w3 => ?_) (fun y w3 => ?_) (by rw [e1]; exact hE) (by rw [e1]; exact hR)
    · rw [e1]
      show -1 ≤ (upd _ _ _ y).toInt ∧ (upd _ _ _ y).toInt ≤ 296
      by_cases z : y = x
      · rw [z, up_s]; omega
      · rw [up_n z]; exact fb y
    · rw [e1]
      show (upd _ _ _ y).toInt = _
      have lt : NB (tn S.2) (tC S.2) (tP S.2) w < NB (tn S.2) (tC S.2) (tP S.2) 512 := CTP_lt w1 w2
      rw [up_n (by omega)]
      exact sE w y w1 w2 w3
    · rw [e1]
      show (upd _ _ _ y).toInt = _
      rw [show y = x by omega, up_s]
      exact hE
  simp only [pn] at c
  obtain ⟨pl, pI⟩ := pN (by omega)
  rw [em]
  refine ⟨pt_in (by omega) (by omega), fun S2 e2' => ?_⟩
  have s2 : S2.2 = S.2 := by rw [e2']; exact eV
  have d1 : b6g_nodeLevels S2.1 = b6g_nodeLevels S.1 := by rw [e2']; exact f1
  have d2 : b6g_firstLeaves S2.1 = b6g_firstLeaves S.1 := by rw [e2']; exact f2
  have d3 : b6g_leafCounts S2.1 = b6g_leafCounts S.1 := by rw [e2']; exact f3
  have d4 : b6g_levelStarts S2.1 = b6g_levelStarts S.1 := by rw [e2']; exact f4
  have d5 : b6g_nodes S2.1 = b6g_nodes S.1 := by rw [e2']; exact f5
  have d6 : b6g_levels S2.1 = b6g_levels S.1 := by rw [e2']; exact f6
  have d7 : b6g_edgeStarts S2.1 = upd (b6g_edgeStarts V.1) x (b6g_edges V.1) := by rw [e2']
  have d8 : b6g_edges S2.1 = b6g_edges V.1 := by rw [e2']
  have d9 : b6g_edgeNodes S2.1 = b6g_edgeNodes V.1 := by rw [e2']
  have d10 : b6g_edgeOctets S2.1 = b6g_edgeOctets V.1 := by rw [e2']
  have d11 : b6g_edgeLeaves S2.1 = b6g_edgeLeaves V.1 := by rw [e2']
  have d12 : b6g_edgeChildren S2.1 = b6g_edgeChildren V.1 := by rw [e2']
  have d13 : b6g_children S2.1 = b6g_children V.1 := by rw [e2']
  obtain ⟨a, b, e, g1, g2, g3⟩ := hO p x (by omega) pI px
  rw [if_neg (show ¬ p / 64 = 8 by omega)] at g2
  have dp : 64 * (p / 64) + p % 64 = p := by omega
  have gl := g2.1
  have gn := g2.2.1
  refine fx6_findEdgesOf (l := p / 64) (s := p % 64) (e := e) (x := x) (by rw [s2]; exact o) (by rw [s2]; exact j) e2 (by omega) (by rw [s2]; exact pI) (by rw [s2]; exact g2) (by rw [s2, dp]; exact px) (by rw [d1]; exact a) (by rw [d2]; exact b) (by rw [d3]; exact g1) (by rw [s2, d8, dp]; exact hE) (by rw [s2, d9, d10, d11, d12, dp]; exact hR) (by rw [d13]; exact c0) (by rw [d13, d8]; exact c1) (fun u u1 u2 u3 u4 u5 u6 => ?_)
  rw [s2] at u1 u3 u4
  have ng := NB_grp g64 pI g2
  rw [dp] at ng
  obtain ⟨p', r1, r2, r3, r4, r5, r6⟩ := pos (x + 1) (64 * (p / 64) + e) (by omega) (by omega)
  have eg := EB_gap g64 (l := p / 64) (e := e) (by omega) (GRQ_cl g2) r1 r6
  have noE : ∀ w, 64 * (p / 64) + e ≤ w → w < p' → ¬ IsE (tn S.2) (tC S.2) (tP S.2) w := by
    intro w w1 w2 w3
    have lt : EB (tn S.2) (tC S.2) (tP S.2) w < EB (tn S.2) (tC S.2) (tP S.2) p' := CTP_lt w2 w3
    have mn := EB_mono (n := tn S.2) (C := tC S.2) (P := tP S.2) w1
    omega
  have ues : b6g_edgeStarts u.1 = upd (b6g_edgeStarts V.1) x (b6g_edges V.1) := u2.2.2.2.1.trans d7
  refine hB u p' u1 (u2.1.trans d1) (u2.2.1.trans d2) (u2.2.2.1.trans d3) (u2.2.2.2.2.1.trans d4) (u2.2.2.2.2.2.1.trans d5) (u2.2.2.2.2.2.2.trans d6) (fun y => ?_) r2 r3 r4 r5 (fun w y w1 w2 w3 => ?_) (by rw [eg]; exact u3) (EAR_skip u4 noE) u5 u6 (by omega)
  · rw [ues]
    by_cases z : y = x
    · rw [z, up_s]; omega
    · rw [up_n z]; exact fb y
  · rw [ues]
    by_cases z : w = p
    · rw [z] at w3 ⊢
      rw [show y = x by omega, up_s]
      exact hE
    · have wp : w < p := by
        apply Classical.byContradiction
        intro t
        by_cases t2 : 64 * (p / 64) + e ≤ w
        · exact r6 w t2 w1 w2
        · have lt : NB (tn S.2) (tC S.2) (tP S.2) w < NB (tn S.2) (tC S.2) (tP S.2) (64 * (p / 64) + e) := CTP_lt (by omega) w2
          have lt2 : NB (tn S.2) (tC S.2) (tP S.2) p < NB (tn S.2) (tC S.2) (tP S.2) w := CTP_lt (by omega) pI
          omega
      have lt : NB (tn S.2) (tC S.2) (tP S.2) w < NB (tn S.2) (tC S.2) (tP S.2) p := CTP_lt wp w2
      rw [up_n (by omega)]
      exact sE w y wp w2 w3
/-! places -/
def PLA (n : Nat) (C : Nat → Nat) (P : Nat → Nat → Nat) (pl lb ln : Nat → Int32) (b : Nat) : Prop := ∀ w z : Nat, w < b → IsL n C w → (z : Int) = LB n C w → (pl (w % 64)).toInt = LB n C w ∧ (lb z).toInt = ((w % 64 : Nat) : Int) ∧ (ln (w % 64)).toInt = NB n C P (w + 1) - 1
theorem PLA_skip {n : Nat} {C : Nat → Nat} {P : Nat → Nat → Nat} {pl lb ln : Nat → Int32} {b d : Nat} (h : PLA n C P pl lb ln b) (hn : ∀ w, b ≤ w → w < d → ¬ IsL n C w) : PLA n C P pl lb ln d := by
  intro w z hw hL hz
  by_cases y : w < b
  · exact h w z y hL hz
  · exact absurd hL (hn w (by omega) hw)
theorem PLA_add {n : Nat} {C : Nat → Nat} {P : Nat → Nat → Nat} {pl lb ln : Nat → Int32} {b m i : Nat} {x r v : Int32} (h : PLA n C P pl lb ln b) (hL : IsL n C b) (hm : (m : Int) = LB n C b) (hi : b % 64 = i) (hx : x.toInt = (m : Int)) (hr : r.toInt = (i : Int)) (hv : v.toInt = NB n C P (b + 1) - 1) : PLA n C P (upd pl i x) (upd lb m r) (upd ln i v) (b + 1) := by
  intro w z hw hL2 hz
  by_cases y : w = b
  · rw [y] at hz ⊢
    have ez : z = m := by omega
    rw [ez, hi, up_s, up_s, up_s]
    exact ⟨by omega, hr, hv⟩
  · have lt : LB n C w < LB n C b := CTP_lt (by omega) hL2
    have ne : w % 64 ≠ i := by
      intro q
      have a := hL.2
      have c := hL2.2
      rw [hi] at a
      rw [q] at c
      omega
    rw [up_n ne, up_n ne, up_n (show z ≠ m by omega)]
    exact h w z (by omega) hL2 hz
def FP6 (T S : bT6) : Prop := FE6 T S ∧ b6g_edges T = b6g_edges S ∧ b6g_edgeNodes T = b6g_edgeNodes S ∧ b6g_edgeOctets T = b6g_edgeOctets S ∧ b6g_edgeLeaves T = b6g_edgeLeaves S ∧ b6g_edgeChildren T = b6g_edgeChildren S
theorem fx6_findPlaces {S : bT6} {n : Nat} {C L : Nat → Nat} {P : Nat → Nat → Nat} {f : Nat → Int64} {Q : bT6 → Prop} (G : GRD n C L P) (he : (b6g_edges S).toInt = EB n C P 512) (hR : EAR n C L P f (b6g_edgeNodes S) (b6g_edgeOctets S) (b6g_edgeLeaves S) (b6g_edgeChildren S) 512) (hq : ∀ u : bT6, FP6 u S → PLA n C P (b6g_places u) (b6g_leavesByPlace u) (b6g_leafNodes u) 512 → Q u) : wp_X6_findPlaces S Q := by
  have ebm := EB_le G (w := 512) (by omega)
  have lbn : LB n C 512 = (n : Int) := LB_all n G.1 (fun i hi => (G.2.1 i hi).2.2.2)
  have g64 := G.1
  unfold wp_X6_findPlaces wp_X6_findPlaces_4
  refine ⟨fun k x1 x2 V => ∃ y p : Nat, x2.toInt = (y : Int) ∧ (y : Int) ≤ EB n C P 512 ∧ FP6 V S ∧ p ≤ 512 ∧ (y : Int) = EB n C P p ∧ x1.toInt = LB n C p ∧ PLA n C P (b6g_places V) (b6g_leavesByPlace V) (b6g_leafNodes V) p ∧ k = 300 - y, ⟨_, 0, 0, rfl, by omega, ⟨⟨rfl, rfl, rfl, rfl, rfl, rfl, rfl⟩, rfl, rfl, rfl, rfl, rfl⟩, by omega, rfl, rfl, fun w z hw => by omega, rfl⟩, ?_⟩
  rintro k x1 x2 V ⟨y, p, e2, ym, hF, hp, hy, h1, hA, hk⟩
  suffices H : ∀ B : Int32 → Int32 → bT6 → Prop, (∀ (T : bT6) (v : Int32) (p' : Nat), FP6 T S → p' ≤ 512 → ((y + 1 : Nat) : Int) = EB n C P p' → v.toInt = LB n C p' → PLA n C P (b6g_places T) (b6g_leavesByPlace T) (b6g_leafNodes T) p' → (y : Int) < EB n C P 512 → B v (x2 + 1) T) → wp_X6_findPlaces_4b V x1 x2 Q B from H _ (fun T v p' t1 t2 t3 t4 t5 hl => ⟨300 - (y + 1), by omega, y + 1, p', by rw [pt_add (by rw [pl_1]; omega) (by rw [pl_1]; omega), pl_1, e2]; omega, by omega, t1, t2, t3, t4, t5, rfl⟩)
  intro B hB
  have eE : b6g_edges V = b6g_edges S := hF.2.1
  have eL : b6g_edgeLeaves V = b6g_edgeLeaves S := hF.2.2.2.2.1
  have eN : b6g_edgeNodes V = b6g_edgeNodes S := hF.2.2.1
  unfold wp_X6_findPlaces_4b
  rw [eE, eL]
  refine ⟨fun c => ?_, fun c => ?_⟩
  · simp only [pn] at c
    refine hq V hF (PLA_skip hA (fun w w1 w2 w3 => ?_))
    have lt : EB n C P w < EB n C P 512 := CTP_lt w2 (IsL_E w3)
    have mn := EB_mono (n := n) (C := C) (P := P) w1
    omega
  simp only [pn] at c
  have hlt : (y : Int) < EB n C P 512 := by omega
  obtain ⟨w, w1, w2, w3⟩ := CTP_inv (P := IsE n C P) (e := (y : Int)) (by omega) 512 hlt
  have w3' : EB n C P w = (y : Int) := w3
  have lw : LB n C w = LB n C p := CTP_sub2 (P := IsE n C P) (R := IsL n C) (fun v hv => IsL_E hv) (by show EB n C P w = EB n C P p; omega)
  have hAw : PLA n C P (b6g_places V) (b6g_leavesByPlace V) (b6g_leafNodes V) w := by
    refine PLA_skip hA (fun v v1 v2 v3 => ?_)
    have lt : EB n C P v < EB n C P w := CTP_lt v2 (IsL_E v3)
    have mn := EB_mono (n := n) (C := C) (P := P) v1
    omega
  have nx : ((y + 1 : Nat) : Int) = EB n C P (w + 1) := by
    have t : EB n C P (w + 1) = EB n C P w + 1 := CTP_y w2
    omega
  obtain ⟨r1, r2, r3, r4, r5⟩ := hR w y w1 w2 w3'.symm
  have lbr : 0 ≤ LB n C w := (CTP_rng _ _).1
  refine fx_atN (by decide) e2 (by omega) ⟨fun d => ?_, fun d => ⟨fun d2 => ?_, fun d2 => ⟨fun d3 => ?_, fun d3 => ?_⟩⟩⟩
  · simp only [pn] at d
    have hn : ¬ IsL n C w := fun q => by have := r3 q.2; omega
    unfold wp_X6_findPlaces_68
    have t : LB n C (w + 1) = LB n C w := CTP_n hn
    exact hB V x1 (w + 1) hF (by omega) nx (by rw [t, lw]; exact h1) (PLA_skip hAw (fun v v1 v2 => by rw [show v = w by omega]; exact hn)) hlt
  · simp only [pn] at d d2
    exfalso
    by_cases q : C (w % 64) = w / 64
    · have := r3 q
      omega
    · have := r4 q
      omega
  · simp only [pn] at d d3
    exfalso
    by_cases q : C (w % 64) = w / 64
    · have hL : IsL n C w := ⟨w2.1, q⟩
      have lt : LB n C w < LB n C 512 := CTP_lt w1 hL
      omega
    · have := r4 q
      omega
  · simp only [pn] at d d3
    have hC : C (w % 64) = w / 64 := by
      apply Classical.byContradiction
      intro q
      have := r4 q
      omega
    have hL : IsL n C w := ⟨w2.1, hC⟩
    have r3' := r3 hC
    have lt : LB n C w < LB n C 512 := CTP_lt w1 hL
    obtain ⟨m, em⟩ : ∃ m : Nat, x1.toInt = (m : Int) := ⟨x1.toInt.toNat, by omega⟩
    have c1 : x1.toNatClampNeg = m := by
      show x1.toInt.toNat = m
      omega
    have c2 : (b6g_edgeLeaves S y).toNatClampNeg = w % 64 := by
      show (b6g_edgeLeaves S y).toInt.toNat = w % 64
      omega
    rw [c1, c2]
    refine ⟨pt_in (by omega) (by omega), fun S3 e3 => ⟨pt_in (by omega) (by omega), fun S4 e4 => ?_⟩⟩
    have n4 : b6g_edgeNodes S4 = b6g_edgeNodes S := by rw [e4, e3]; exact eN
    rw [n4]
    refine fx_atN (by decide) e2 (by omega) ⟨pt_in (by omega) (by omega), fun S7 e7 => ?_⟩
    unfold wp_X6_findPlaces_68
    have t : LB n C (w + 1) = LB n C w + 1 := CTP_y hL
    refine hB S7 (x1 + 1) (w + 1) (by rw [e7, e4, e3]; exact hF) (by omega) nx (by rw [pt_add (by rw [pl_1]; omega) (by rw [pl_1]; omega), pl_1, t, h1, lw]) ?_ hlt
    rw [e7, e4, e3]
    exact PLA_add hAw hL (by omega) rfl em r3' r1
/-! bits, upper levels -/
noncomputable def BTE (n : Nat) (C : Nat → Nat) (P : Nat → Nat → Nat) (u : Nat) : Int := 11 * (EB n C P 512 - EB n C P (64 * u))
noncomputable def BTN (n : Nat) (C : Nat → Nat) (P : Nat → Nat → Nat) (u : Nat) : Int := 513 * NB n C P (64 * u)
def COU (n : Nat) (C : Nat → Nat) (P : Nat → Nat → Nat) (ra : Int32) (u : Nat) : Prop := ∀ a b : Int32, a.toInt = BTN n C P u → b.toInt = BTE n C P u → ¬ b < ra * a
theorem COU_iff {n : Nat} {C : Nat → Nat} {P : Nat → Nat → Nat} {ra a b : Int32} {u : Nat} (ha : a.toInt = BTN n C P u) (hb : b.toInt = BTE n C P u) : COU n C P ra u ↔ ¬ b < ra * a := by
  constructor
  · intro h
    exact h a b ha hb
  · intro h a2 b2 ha2 hb2
    rw [Int32.toInt_inj.mp (ha2.trans ha.symm), Int32.toInt_inj.mp (hb2.trans hb.symm)]
    exact h
def UPR (n : Nat) (C : Nat → Nat) (P : Nat → Nat → Nat) (ra : Int32) (lv u : Nat) : Prop := u ≤ lv ∧ (u = 0 ∨ COU n C P ra u) ∧ ∀ i, u < i → i ≤ lv → ¬ COU n C P ra i
theorem UPR_one {n : Nat} {C : Nat → Nat} {P : Nat → Nat → Nat} {ra : Int32} {lv u v : Nat} (h : UPR n C P ra lv u) (g : UPR n C P ra lv v) : u = v := by
  by_cases a : u < v
  · rcases g.2.1 with z | z
    · omega
    · exact absurd z (h.2.2 v a g.1)
  · by_cases b : v < u
    · rcases h.2.1 with z | z
      · omega
      · exact absurd z (g.2.2 u b h.1)
    · omega
def UPS (n : Nat) (C : Nat → Nat) (P : Nat → Nat → Nat) (de ra : Int32) (lv u : Nat) : Prop := (de.toInt = 9 → UPR n C P ra lv u) ∧ (¬ de.toInt = 9 → (u : Int) = min de.toInt (lv : Int))
def TR6 (T : bT6) (n : Nat) (C L : Nat → Nat) (P : Nat → Nat → Nat) (f : Nat → Int64) : Prop :=
  (b6g_nodes T).toInt = NB n C P 512 ∧ NOD n C P (b6g_nodeLevels T) (b6g_firstLeaves T) (b6g_leafCounts T) 8 0 ∧ (∀ l : Nat, l ≤ 8 → (b6g_levelStarts T l).toInt = NB n C P (64 * l)) ∧ LEVS n C P (b6g_levels T).toInt 8 ∧
  (∀ w y : Nat, w < 512 → IsN n C P w → (y : Int) = NB n C P w → (b6g_edgeStarts T y).toInt = EB n C P w) ∧ (∀ y : Nat, (y : Int) = NB n C P 512 → (b6g_edgeStarts T y).toInt = EB n C P 512) ∧ (b6g_edges T).toInt = EB n C P 512 ∧
  EAR n C L P f (b6g_edgeNodes T) (b6g_edgeOctets T) (b6g_edgeLeaves T) (b6g_edgeChildren T) 512
theorem NB_pos {n : Nat} {C : Nat → Nat} {P : Nat → Nat → Nat} {b x : Nat} (hb : b ≤ 512) (hx : (x : Int) = NB n C P b) : ∃ p : Nat, b ≤ p ∧ p ≤ 512 ∧ (x : Int) = NB n C P p ∧ ((x : Int) < NB n C P 512 → p < 512 ∧ IsN n C P p) ∧ (¬ (x : Int) < NB n C P 512 → p = 512) ∧ ∀ w, b ≤ w → w < p → ¬ IsN n C P w := by
  by_cases z : (x : Int) < NB n C P 512
  · obtain ⟨p, p1, p2, p3⟩ := CTP_inv (P := IsN n C P) (e := (x : Int)) (by omega) 512 z
    have p3' : NB n C P p = (x : Int) := p3
    have bp : b ≤ p := by
      apply Classical.byContradiction
      intro t
      have t2 : NB n C P p < NB n C P b := CTP_lt (by omega) p2
      omega
    refine ⟨p, bp, by omega, by omega, fun _ => ⟨p1, p2⟩, fun t => absurd z t, fun w w1 w2 w3 => ?_⟩
    have a : NB n C P w < NB n C P p := CTP_lt w2 w3
    have c := NB_mono (n := n) (C := C) (P := P) w1
    omega
  · have mn := NB_mono (n := n) (C := C) (P := P) hb
    refine ⟨512, hb, Nat.le_refl _, by omega, fun t => absurd t z, fun _ => rfl, fun w w1 w2 w3 => ?_⟩
    have a : NB n C P w < NB n C P 512 := CTP_lt w2 w3
    have c := NB_mono (n := n) (C := C) (P := P) w1
    omega
/-- where the edges of a level's nodes begin -/
theorem TR6_es {T : bT6} {n : Nat} {C L : Nat → Nat} {P : Nat → Nat → Nat} {f : Nat → Int64} (G : GRD n C L P) (t : TR6 T n C L P f) {l y : Nat} (hl : l ≤ 8) (hy : (y : Int) = NB n C P (64 * l)) : (b6g_edgeStarts T y).toInt = EB n C P (64 * l) := by
  obtain ⟨p, p1, p2, p3, p4, p5, p6⟩ := NB_pos (n := n) (C := C) (P := P) (b := 64 * l) (x := y) (by omega) hy
  have eg : EB n C P p = EB n C P (64 * l + 0) := EB_gap G.1 (l := l) (e := 0) (by omega) (fun a b => ⟨a, b, Or.inl rfl⟩) (by omega) (fun w a b => p6 w (by omega) b)
  have eg' : EB n C P p = EB n C P (64 * l) := eg
  rw [← eg']
  by_cases z : (y : Int) < NB n C P 512
  · exact t.2.2.2.2.1 p y (p4 z).1 (p4 z).2 p3
  · have q := p5 z
    subst q
    exact t.2.2.2.2.2.1 y p3
theorem fx6_edgesAmong {T : bT6} {a1 a2 : Int32} {x y : Nat} {Q : Int32 → Prop} (h1 : a1.toInt = (x : Int)) (h2 : a2.toInt = (y : Int)) (hx : x < 233) (hy : y < 233) (hq : Q (b6g_edgeStarts T y - b6g_edgeStarts T x)) : wp_X6_edgesAmong T a1 a2 Q := by
  unfold wp_X6_edgesAmong
  exact fx_atN (by decide) h2 hy (fx_atN (by decide) h1 hx hq)
theorem fx6_bitsBy {T : bT6} {n : Nat} {C L : Nat → Nat} {P : Nat → Nat → Nat} {f : Nat → Int64} (G : GRD n C L P) (t : TR6 T n C L P f) {a1 : Int32} {u : Nat} {Q : Int32 → Prop} (h : a1.toInt = (u : Int)) (h8 : u ≤ 8) (hq : ∀ r : Int32, r.toInt = BTN n C P u + BTE n C P u → Q r) : wp_X6_bitsBy T a1 Q := by
  have nb5 : NB n C P (64 * 7 + 64) = NB n C P 512 := rfl
  have n5 := NB_le G (l := 7) (i := 64) (by omega) (by omega)
  have nm := NB_mono (n := n) (C := C) (P := P) (show 64 * u ≤ 512 by omega)
  have n0 : 0 ≤ NB n C P (64 * u) := (CTP_rng _ _).1
  have e5 := EB_le G (w := 512) (by omega)
  have eu := EB_le G (w := 64 * u) (by omega)
  have ls := t.2.2.1 u h8
  obtain ⟨x, ex⟩ : ∃ x : Nat, (x : Int) = NB n C P (64 * u) := ⟨(NB n C P (64 * u)).toNat, by omega⟩
  obtain ⟨y, ey⟩ : ∃ y : Nat, (y : Int) = NB n C P 512 := ⟨(NB n C P 512).toNat, by omega⟩
  have s1 := TR6_es G t h8 ex
  have s2 := t.2.2.2.2.2.1 y ey
  unfold wp_X6_bitsBy
  refine fx_atN (by decide) h (by omega) (fx6_edgesAmong (x := x) (y := y) (by omega) (by rw [t.1]; omega) (by omega) (by omega) (hq _ ?_))
  have q1 : (b6g_edgeStarts T y - b6g_edgeStarts T x).toInt = EB n C P 512 - EB n C P (64 * u) := by rw [pt_sub (by omega) (by omega), s1, s2]
  have q2 : ((513 : Int32) * b6g_levelStarts T u).toInt = 513 * NB n C P (64 * u) := by rw [pt_mul (by rw [ls]; show _ ≤ 513 * _; omega) (by rw [ls]; show 513 * _ < _; omega), ls]; rfl
  have q3 : ((11 : Int32) * (b6g_edgeStarts T y - b6g_edgeStarts T x)).toInt = 11 * (EB n C P 512 - EB n C P (64 * u)) := by rw [pt_mul (by rw [q1]; show _ ≤ 11 * _; omega) (by rw [q1]; show 11 * _ < _; omega), q1]; rfl
  unfold BTN BTE
  rw [pt_add (by omega) (by omega), q2, q3]
theorem fx6_upperBy {T : bT6} {n : Nat} {C L : Nat → Nat} {P : Nat → Nat → Nat} {f : Nat → Int64} (G : GRD n C L P) (t : TR6 T n C L P f) {a1 : Int32} {lv : Nat} {Q : Int32 → Prop} (hl : (b6g_levels T).toInt = (lv : Int)) (h8 : lv ≤ 8) (hq : ∀ (r : Int32) (u : Nat), r.toInt = (u : Int) → UPR n C P a1 lv u → Q r) : wp_X6_upperBy T a1 Q := by
  have nb5 : NB n C P (64 * 7 + 64) = NB n C P 512 := rfl
  have n5 := NB_le G (l := 7) (i := 64) (by omega) (by omega)
  unfold wp_X6_upperBy wp_X6_upperBy_4
  refine ⟨fun k x1 x2 x3 => ∃ u i : Nat, a1 = x1 ∧ x2.toInt = (u : Int) ∧ x3.toInt = (i : Int) ∧ 1 ≤ i ∧ i ≤ lv + 1 ∧ u < i ∧ (u = 0 ∨ COU n C P a1 u) ∧ (∀ q, u < q → q < i → ¬ COU n C P a1 q) ∧ k = 10 - i, ⟨_, 0, 1, rfl, rfl, rfl, by omega, by omega, by omega, Or.inl rfl, fun q a b => by omega, rfl⟩, ?_⟩
  rintro k x1 x2 x3 ⟨u, i, rfl, e2, e3, i1, i2, hui, hu, hno, hk⟩
  suffices H : ∀ B : Int32 → Int32 → Int32 → Prop, (∀ (v : Int32) (u' : Nat), v.toInt = (u' : Int) → u' < i + 1 → (u' = 0 ∨ COU n C P a1 u') → (∀ q, u' < q → q < i + 1 → ¬ COU n C P a1 q) → i ≤ lv → B a1 v (x3 + 1)) → wp_X6_upperBy_4b T a1 x2 x3 Q B from H _ (fun v u' t1 t2 t3 t4 t5 => ⟨10 - (i + 1), by omega, u', i + 1, rfl, t1, by rw [pt_add (by rw [pl_1]; omega) (by rw [pl_1]; omega), pl_1, e3]; omega, by omega, by omega, t2, t3, t4, rfl⟩)
  intro B hB
  unfold wp_X6_upperBy_4b
  refine ⟨fun c => ?_, fun c => ?_⟩
  · simp only [pn] at c
    exact hq x2 u e2 ⟨by omega, hu, fun q a b => hno q a (by omega)⟩
  simp only [pn] at c
  have nm := NB_mono (n := n) (C := C) (P := P) (show 64 * i ≤ 512 by omega)
  have n0 : 0 ≤ NB n C P (64 * i) := (CTP_rng _ _).1
  have e5 := EB_le G (w := 512) (by omega)
  have eu := EB_le G (w := 64 * i) (by omega)
  have em := EB_mono (n := n) (C := C) (P := P) (show 64 * i ≤ 512 by omega)
  have ls := t.2.2.1 i (by omega)
  refine fx_atN (by decide) e3 (by omega) (fun v3 e3' => fx6_bitsBy G t e3 (by omega) (fun r4 e4 => ?_))
  have q2 : v3.toInt = BTN n C P i := by
    unfold BTN
    rw [e3', pt_mul (by rw [ls]; show _ ≤ 513 * _; omega) (by rw [ls]; show 513 * _ < _; omega), ls]
    rfl
  have q3 : (r4 - v3).toInt = BTE n C P i := by
    unfold BTN at q2 e4
    unfold BTE at e4 ⊢
    rw [pt_sub (by omega) (by omega)]
    omega
  have key := COU_iff (ra := a1) q2 q3
  unfold wp_X6_upperBy_43
  refine ⟨fun d => hB x2 u e2 (by omega) hu (fun q a b => ?_) (by omega), fun d => hB x3 i e3 (by omega) (Or.inr (key.mpr d)) (fun q a b => by omega) (by omega)⟩
  by_cases z : q = i
  · rw [z]
    exact fun y => absurd d (key.mp y)
  · exact hno q a (by omega)
/-! the tree is made -/
def TRX (T : bT6) (X : bT1) (de ra : Int32) : Prop := ∃ u lv : Nat, TR6 T (tn X) (tC X) (tL X) (tP X) (b0g_bytes (b1g_owners X)) ∧ PLA (tn X) (tC X) (tP X) (b6g_places T) (b6g_leavesByPlace T) (b6g_leafNodes T) 512 ∧ (b6g_levels T).toInt = (lv : Int) ∧ lv ≤ 8 ∧ (b6g_upper T).toInt = (u : Int) ∧ u ≤ lv ∧ UPS (tn X) (tC X) (tP X) de ra lv u ∧ (b6g_upperNodes T).toInt = NB (tn X) (tC X) (tP X) (64 * u) ∧ (b6g_itemStart T).toInt = EB (tn X) (tC X) (tP X) (64 * u)
theorem fx6_make {S : bT6 × bT1} {a2 a3 : Int32} {Q : (bT6 × bT1) → Prop} (hJ : J6 S.1) (o : LVO S.2) (j : J1 S.2) (h0 : 0 ≤ a2.toInt) (hq : ∀ u : bT6 × bT1, J6 u.1 → u.2 = S.2 → TRX u.1 S.2 a2 a3 → Q u) : wp_X6_make S a2 a3 Q := by
  have G := tG o j
  have nb5 : NB (tn S.2) (tC S.2) (tP S.2) (64 * 7 + 64) = NB (tn S.2) (tC S.2) (tP S.2) 512 := rfl
  have n5 := NB_le G (l := 7) (i := 64) (by omega) (by omega)
  have e5 := EB_le G (w := 512) (by omega)
  unfold wp_X6_make
  refine fx6_findNodes o j (fun u9 a1 a2' a3' a4 a5 a6 => ?_)
  refine fx6_findEdges (by rw [a1]; exact o) (by rw [a1]; exact j) (by rw [a1]; exact a3') (by rw [a1]; exact a4) (by rw [a2']; exact J6g_edgeStarts hJ) (fun u11 b1 b2 b3 b4 b5 b6 b7 b8 b9 b10 b11 b12 => ?_)
  rw [a1] at b1 b9 b10 b11 b12
  refine fx6_findPlaces G b11 b12 (fun u13 c1 c2 S14 e14 => ?_)
  obtain ⟨⟨d1, d2, d3, d4, d5, d6, d7⟩, d8, d9, d10, d11, d12⟩ := c1
  have s14 : S14.2 = S.2 := by rw [e14]; exact b1
  have t14 : S14.1 = u13 := by rw [e14]
  have T : TR6 S14.1 (tn S.2) (tC S.2) (tL S.2) (tP S.2) (b0g_bytes (b1g_owners S.2)) := by
    rw [t14]
    refine ⟨?_, ?_, fun l hl => ?_, ?_, fun w y w1 w2 w3 => ?_, fun y w3 => ?_, ?_, ?_⟩
    · rw [d6, b6]; exact a3'
    · rw [d1, d2, d3, b2, b3, b4]; exact a4
    · rw [d5, b5]; exact a5 l hl
    · rw [d7, b7]; exact a6
    · rw [d4]; exact b9 w y w1 w2 w3
    · rw [d4]; exact b10 y w3
    · rw [d8]; exact b11
    · rw [d9, d10, d11, d12]; exact b12
  have PL : PLA (tn S.2) (tC S.2) (tP S.2) (b6g_places S14.1) (b6g_leavesByPlace S14.1) (b6g_leafNodes S14.1) 512 := by rw [t14]; exact c2
  obtain ⟨lv, hlv, h8⟩ : ∃ lv : Nat, (b6g_levels S14.1).toInt = (lv : Int) ∧ lv ≤ 8 := by
    rcases T.2.2.2.1 with ⟨z, _⟩ | ⟨q, z, q8, _⟩
    · exact ⟨0, z, by omega⟩
    · exact ⟨q + 1, by omega, by omega⟩
  have eb : ∀ y : Nat, -1 ≤ (b6g_edgeStarts S14.1 y).toInt ∧ (b6g_edgeStarts S14.1 y).toInt ≤ 296 := by
    rw [t14, d4]
    exact b8
  have fin : ∀ (t : Int32) (u : Nat), t.toInt = (u : Int) → u ≤ lv → UPS (tn S.2) (tC S.2) (tP S.2) a2 a3 lv u → wp_X6_make_37 S14 t Q := by
    intro t u ht hu hU
    have ls := T.2.2.1 u (by omega)
    have nm := NB_mono (n := tn S.2) (C := tC S.2) (P := tP S.2) (show 64 * u ≤ 512 by omega)
    have n0 : 0 ≤ NB (tn S.2) (tC S.2) (tP S.2) (64 * u) := (CTP_rng _ _).1
    obtain ⟨x, ex⟩ : ∃ x : Nat, (x : Int) = NB (tn S.2) (tC S.2) (tP S.2) (64 * u) := ⟨(NB (tn S.2) (tC S.2) (tP S.2) (64 * u)).toNat, by omega⟩
    have es := TR6_es G T (l := u) (by omega) ex
    unfold wp_X6_make_37
    intro S1 e1
    have f1 : b6g_upper S1.1 = t := by rw [e1]
    rw [f1]
    refine fx_atN (by decide) ht (by omega) (fun S4 e4 => ?_)
    have f4 : b6g_upperNodes S4.1 = b6g_levelStarts S1.1 u := by rw [e4]
    have f4' : b6g_levelStarts S1.1 u = b6g_levelStarts S14.1 u := by rw [e1]
    rw [f4, f4']
    refine fx_atN (by decide) (m := x) (by omega) (by omega) (fun S7 e7 => ?_)
    have g1 : b6g_itemStart S7.1 = b6g_edgeStarts S14.1 x := by rw [e7, e4, e1]
    refine hq S7 ?_ (by rw [e7, e4, e1]; exact s14) ⟨u, lv, by rw [e7, e4, e1]; exact T, by rw [e7, e4, e1]; exact PL, by rw [e7, e4, e1]; exact hlv, h8, by rw [e7, e4, e1]; exact ht, hu, hU, ?_, by rw [g1]; exact es⟩
    · refine ⟨by rw [e7, e4, e1]; exact eb, ?_, ?_, ?_, ?_⟩
      · have k : b6g_nodes S7.1 = b6g_nodes S14.1 := by rw [e7, e4, e1]
        rw [k, T.1]
        omega
      · have k : b6g_edges S7.1 = b6g_edges S14.1 := by rw [e7, e4, e1]
        rw [k, T.2.2.2.2.2.2.1]
        omega
      · have k : b6g_levels S7.1 = b6g_levels S14.1 := by rw [e7, e4, e1]
        rw [k, hlv]
        omega
      · rw [g1]
        exact eb x
    · have k : b6g_upperNodes S7.1 = b6g_levelStarts S14.1 u := by rw [e7, e4, e1]
      rw [k]
      exact ls
  refine ⟨fun c => ?_, fun c => fx6_upperBy G T hlv h8 (fun r u hr hu => fin r u hr hu.1 ⟨fun _ => hu, fun z => absurd (by rw [c]; rfl) z⟩)⟩
  have c9 : ¬ a2.toInt = 9 := fun z => c (Int32.toInt_inj.mp z)
  by_cases z : b6g_levels S14.1 < a2
  · rw [if_pos z]
    simp only [pn] at z
    exact fin _ lv hlv (Nat.le_refl _) ⟨fun y => absurd y c9, fun _ => by omega⟩
  · rw [if_neg z]
    simp only [pn] at z
    exact fin _ a2.toInt.toNat (by omega) (by omega) ⟨fun y => absurd y c9, fun _ => by omega⟩
/-! the reference's tree -/
def n9 (S : bT9) : Nat := (b9g_now S 9).toInt.toNat
def C9 (S : bT9) : Nat → Nat := COM (fun j => b9g_keys S (64 + j)) (fun j => b9g_lengths S (64 + j)) (b9g_now S 9).toInt
def L9 (S : bT9) : Nat → Nat := fun i => (b9g_lengths S (64 + i)).toInt.toNat
def P9 (S : bT9) : Nat → Nat → Nat := fun l i => PX (ub (b9g_keys S (64 + i))) l
def R9 (S : bT9) : Prop := GRD (n9 S) (C9 S) (L9 S) (P9 S) ∧ 0 ≤ (b9g_now S 9).toInt ∧ ∀ i : Nat, i < n9 S → (b9g_beginning S i).toInt = ((min (C9 S i + 1) (L9 S i) : Nat) : Int) ∧ (b9g_common S i).toInt = (C9 S i : Int)
theorem R9_of {S : bT9} (hs : SR9 S) (hc : CLN (fun j => b9g_keys S (64 + j)) (fun j => b9g_lengths S (64 + j)) (b9g_now S 9).toInt) (hJ : J9 S) (hl : (b9g_isLaid S).toInt ≠ 0) : R9 S := by
  have jn := (J9g_now hJ).2.2.2.1
  refine ⟨GRD_of hs hc jn.2, jn.1, fun i hi => ?_⟩
  unfold n9 at hi
  have d := hJ.2.2 hl i (by omega)
  exact ⟨d.2, d.1⟩
theorem AK_iff {K : Nat → Int64} {l : Int32} {i j : Nat} (h0 : 0 ≤ l.toInt) (h8 : l.toInt ≤ 8) : AK K l i j ↔ PX (ub (K (64 + i))) l.toInt.toNat = PX (ub (K (64 + j))) l.toInt.toNat := by
  unfold AK
  by_cases z : l.toInt = 0
  · have e : l = 0 := Int32.toInt_inj.mp z
    rw [e]
    refine ⟨fun _ => ?_, fun _ => rfl⟩
    show PX _ 0 = PX _ 0
    rw [PX_0 (ub_lt _), PX_0 (ub_lt _)]
  · have l1 : 1 ≤ l.toInt := by omega
    have ca := ub_cut (K (64 + i)) l1 h8
    have cb := ub_cut (K (64 + j)) l1 h8
    have pos : 0 < 2 ^ (64 - 8 * l.toInt.toNat) := Nat.two_pow_pos _
    constructor
    · intro h
      rw [h] at ca
      exact Nat.eq_of_mul_eq_mul_right pos (by rw [← ca, ← cb])
    · intro h
      exact ub_inj (by rw [ca, cb, h])
def NSD (beg lv lf ls : Nat → Int32) (m : Int) : Prop := ∀ x : Nat, (x : Int) < m → ∃ i : Nat, (lf x).toInt ≤ (i : Int) ∧ (i : Int) < (lf x).toInt + (ls x).toInt ∧ (lv x).toInt < (beg i).toInt
theorem NOD_TR {S : bT9} (h : R9 S) (hN : ND (b9g_nodeLevel S) (b9g_nodeLeaf S) (b9g_nodeLeaves S) (b9g_nodeMany S)) (hm0 : 0 ≤ (b9g_nodeMany S).toInt) (hM : NM (b9g_keys S) (b9g_beginning S) (b9g_nodeLevel S) (b9g_nodeLeaf S) (b9g_nodeLeaves S) (b9g_nodeMany S).toInt) (hC : NC (b9g_beginning S) (b9g_nodeLevel S) (b9g_nodeLeaf S) (b9g_nodeLeaves S) (b9g_nodeMany S).toInt (b9g_now S 9).toInt 8 0) (hE : NE (b9g_nodeLeaf S) (b9g_nodeLeaves S) (b9g_nodeMany S).toInt (b9g_now S 9).toInt) (hD : NSD (b9g_beginning S) (b9g_nodeLevel S) (b9g_nodeLeaf S) (b9g_nodeLeaves S) (b9g_nodeMany S).toInt) : (b9g_nodeMany S).toInt = NB (n9 S) (C9 S) (P9 S) 512 ∧ NOD (n9 S) (C9 S) (P9 S) (b9g_nodeLevel S) (b9g_nodeLeaf S) (b9g_nodeLeaves S) 8 0 := by
  obtain ⟨G, h0, hb⟩ := h
  have hn : ((n9 S : Nat) : Int) = (b9g_now S 9).toInt := by unfold n9; omega
  have g64 := G.1
  obtain ⟨m, em⟩ : ∃ m : Nat, (b9g_nodeMany S).toInt = (m : Int) := ⟨(b9g_nodeMany S).toInt.toNat, by omega⟩
  -- a node by natural numbers
  have nat : ∀ x : Nat, x < m → ∃ l s e : Nat, (b9g_nodeLevel S x).toInt = (l : Int) ∧ (b9g_nodeLeaf S x).toInt = (s : Int) ∧ (b9g_nodeLeaves S x).toInt = (e : Int) - (s : Int) ∧ l ≤ 7 ∧ s < e ∧ e ≤ n9 S ∧ (∀ k, s ≤ k → k < e → l ≤ C9 S k ∧ P9 S l k = P9 S l s) ∧ (∀ k, k + 1 = s → (l : Int) ≤ (b9g_beginning S k).toInt → ¬ P9 S l k = P9 S l s) := by
    intro x hx
    have a := (hN x (by omega)).1
    have b := hE x (by omega)
    obtain ⟨c1, c2⟩ := hM x (by omega)
    obtain ⟨i, i1, i2, i3⟩ := hD x (by omega)
    refine ⟨(b9g_nodeLevel S x).toInt.toNat, (b9g_nodeLeaf S x).toInt.toNat, ((b9g_nodeLeaf S x).toInt + (b9g_nodeLeaves S x).toInt).toNat, by omega, by omega, by omega, by omega, by omega, by omega, ?_, ?_⟩
    · have mem : ∀ k : Nat, (b9g_nodeLeaf S x).toInt.toNat ≤ k → k < ((b9g_nodeLeaf S x).toInt + (b9g_nodeLeaves S x).toInt).toNat → (b9g_nodeLevel S x).toInt.toNat ≤ L9 S k ∧ P9 S (b9g_nodeLevel S x).toInt.toNat k = P9 S (b9g_nodeLevel S x).toInt.toNat (b9g_nodeLeaf S x).toInt.toNat := by
        intro k k1 k2
        have q := c1 k (by omega) (by omega)
        have hk := hb k (by omega)
        exact ⟨by omega, (AK_iff (by omega) (by omega)).mp q.2⟩
      intro k k1 k2
      refine ⟨?_, (mem k k1 k2).2⟩
      have bi := hb i (by omega)
      have mi := mem i (by omega) (by omega)
      have mk := mem k k1 k2
      by_cases z : i = k
      · rw [← z]; omega
      · by_cases y : i < k
        · exact (G.2.2.2.2.1 _ i k (by omega) y (by omega) mi.1 mk.1 (by rw [mi.2, mk.2]) k (by omega) (Nat.le_refl _)).1
        · exact (G.2.2.2.2.1 _ k i (by omega) (by omega) (by omega) mk.1 mi.1 (by rw [mi.2, mk.2]) k (Nat.le_refl _) (by omega)).1
    · intro k k1 k2 k3
      refine c2 k (by omega) (by omega) ((AK_iff (by omega) (by omega)).mpr ?_)
      rw [k1]
      exact k3
  have ndp : ∀ x y : Nat, x < y → y < m → 64 * (b9g_nodeLevel S x).toInt + (b9g_nodeLeaf S x).toInt + (b9g_nodeLeaves S x).toInt ≤ 64 * (b9g_nodeLevel S y).toInt + (b9g_nodeLeaf S y).toInt := fun x y hxy hy => ND_pos hN hxy (by omega)
  have st : ∀ (x l s e : Nat), x < m → (b9g_nodeLevel S x).toInt = (l : Int) → (b9g_nodeLeaf S x).toInt = (s : Int) → (b9g_nodeLeaves S x).toInt = (e : Int) - (s : Int) → l ≤ 7 → s < e → e ≤ n9 S → (∀ k, s ≤ k → k < e → l ≤ C9 S k ∧ P9 S l k = P9 S l s) → (∀ k, k + 1 = s → (l : Int) ≤ (b9g_beginning S k).toInt → ¬ P9 S l k = P9 S l s) → NST (n9 S) (C9 S) (P9 S) l s ∧ GRQ (n9 S) (C9 S) (P9 S) l s e (n9 S) := by
    intro x l s e hx e1 e2 e3 l7 hse hen mem lft
    refine ⟨⟨by omega, (mem s (Nat.le_refl _) hse).1, ?_⟩, hse, hen, mem, fun hlt r => ?_⟩
    · by_cases z : s = 0
      · exact Or.inl z
      · refine Or.inr (fun q => lft (s - 1) (by omega) ?_ q.2)
        have b1 := hb (s - 1) (by omega)
        have b2 := G.2.1 (s - 1) (by omega)
        omega
    · have be := hb e (by omega)
      have ae := G.2.1 e (by omega)
      by_cases z : (l : Int) < (b9g_beginning S e).toInt
      · obtain ⟨y, y1, y2, y3, y4⟩ := hC (l : Int) e (by omega) (by omega) z (Or.inl (by omega))
        by_cases yx : y = x
        · subst yx
          omega
        · by_cases lt : y < x
          · have := ndp y x lt hx
            omega
          · have q := ndp x y (by omega) (by omega)
            obtain ⟨l', s', e', f1, f2, f3, f4, f5, f6, f7, f8⟩ := nat y (by omega)
            have el : l' = l := by omega
            have es : s' = e := by omega
            rw [el, es] at f8
            have me := mem (e - 1) (by omega) (by omega)
            have b1 := hb (e - 1) (by omega)
            have b2 := G.2.1 (e - 1) (by omega)
            exact f8 (e - 1) (by omega) (by omega) (by rw [me.2, r.2])
      · have as := G.2.1 s (by omega)
        have ms := mem s (Nat.le_refl _) hse
        exact G.2.2.2.2.2.2.1 l s e hse (by omega) (by omega) (by omega) r.2.symm
  have cov : ∀ w : Nat, w < 512 → IsN (n9 S) (C9 S) (P9 S) w → ∃ x : Nat, x < m ∧ 64 * (b9g_nodeLevel S x).toInt.toNat + (b9g_nodeLeaf S x).toInt.toNat = w := by
    intro w hw hI
    have bi := hb (w % 64) hI.1
    have ai := G.2.1 (w % 64) hI.1
    have hI2 := hI.2.1
    have fin : ∀ y i : Nat, y < m → (b9g_nodeLevel S y).toInt = ((w / 64 : Nat) : Int) → (b9g_nodeLeaf S y).toInt ≤ ((w % 64 : Nat) : Int) → ((w % 64 : Nat) : Int) < (b9g_nodeLeaf S y).toInt + (b9g_nodeLeaves S y).toInt → ∃ x : Nat, x < m ∧ 64 * (b9g_nodeLevel S x).toInt.toNat + (b9g_nodeLeaf S x).toInt.toNat = w := by
      intro y _ y1 y2 y3 y4
      obtain ⟨l', s', e', f1, f2, f3, f4, f5, f6, f7, f8⟩ := nat y y1
      have el : l' = w / 64 := by omega
      rw [el] at f7
      refine ⟨y, y1, ?_⟩
      by_cases z : s' = w % 64
      · omega
      · exfalso
        have q1 := f7 (w % 64) (by omega) (by omega)
        have q2 := f7 (w % 64 - 1) (by omega) (by omega)
        rcases hI.2.2 with t | t
        · omega
        · exact t ⟨q2.1, by rw [q2.2, q1.2]⟩
    by_cases z : ((w / 64 : Nat) : Int) < (b9g_beginning S (w % 64)).toInt
    · obtain ⟨y, y1, y2, y3, y4⟩ := hC ((w / 64 : Nat) : Int) (w % 64) (by omega) (by have := hI.1; omega) z (Or.inl (by omega))
      exact fin y 0 (by omega) y2 y3 y4
    · have two := NST_two G (l := w / 64) (s := w % 64) (by omega) hI
      have ne : ¬ L9 S (w % 64 + 1) = w / 64 := fun t => G.2.2.2.2.2.2.1 (w / 64) (w % 64) (w % 64 + 1) (by omega) two.1 t.symm (by omega) two.2.2.symm
      have a1 := G.2.1 (w % 64 + 1) two.1
      have b1 := hb (w % 64 + 1) two.1
      have t21 := two.2.1
      have t1 := two.1
      obtain ⟨y, y1, y2, y3, y4⟩ := hC ((w / 64 : Nat) : Int) (w % 64 + 1) (by omega) (by omega) (by omega) (Or.inl (by omega))
      obtain ⟨l', s', e', f1, f2, f3, f4, f5, f6, f7, f8⟩ := nat y (by omega)
      have el : l' = w / 64 := by omega
      rw [el] at f8
      have ns : ¬ s' = w % 64 + 1 := by
        intro t
        rw [t] at f8
        exact f8 (w % 64) rfl (by omega) two.2.2.symm
      exact fin y 0 (by omega) y2 (by omega) (by omega)
  have enu := CTP_enu (P := IsN (n9 S) (C9 S) (P9 S)) (a := fun x => 64 * (b9g_nodeLevel S x).toInt.toNat + (b9g_nodeLeaf S x).toInt.toNat) (m := m) (N := 512) (fun x hx => by
      obtain ⟨l, s, e, f1, f2, f3, f4, f5, f6, f7, f8⟩ := nat x hx
      have k := (st x l s e hx f1 f2 f3 f4 f5 f6 f7 f8).1
      refine ⟨?_, ?_⟩
      · show 64 * (b9g_nodeLevel S x).toInt.toNat + (b9g_nodeLeaf S x).toInt.toNat < 512
        omega
      · show IsN _ _ _ (64 * (b9g_nodeLevel S x).toInt.toNat + (b9g_nodeLeaf S x).toInt.toNat)
        rw [show (b9g_nodeLevel S x).toInt.toNat = l by omega, show (b9g_nodeLeaf S x).toInt.toNat = s by omega, IsN_at (by omega)]
        exact k) (fun x y hxy hy => by
      have q := ndp x y hxy hy
      have a := (hN x (by omega)).1
      have b := (hN y (by omega)).1
      show 64 * (b9g_nodeLevel S x).toInt.toNat + (b9g_nodeLeaf S x).toInt.toNat < 64 * (b9g_nodeLevel S y).toInt.toNat + (b9g_nodeLeaf S y).toInt.toNat
      omega) cov
  refine ⟨by rw [em]; exact enu.2.symm, fun w x hw hI hx => ?_⟩
  obtain ⟨y, y1, y2⟩ := cov w (by omega) hI
  have ey : NB (n9 S) (C9 S) (P9 S) (64 * (b9g_nodeLevel S y).toInt.toNat + (b9g_nodeLeaf S y).toInt.toNat) = (y : Int) := enu.1 y y1
  rw [y2] at ey
  have exy : x = y := by omega
  rw [exy]
  obtain ⟨l, s, e, f1, f2, f3, f4, f5, f6, f7, f8⟩ := nat y y1
  have k := (st y l s e y1 f1 f2 f3 f4 f5 f6 f7 f8).2
  have w1 : w / 64 = l := by omega
  have w2 : w % 64 = s := by omega
  rw [w1, w2]
  refine ⟨f1, f2, e, f3, ?_, fun z => by omega⟩
  rw [if_neg (show ¬ l = 8 by omega)]
  exact k
/-! the reference's questions of nodes -/
def N9 (S : bT9) : Prop := (b9g_nodeMany S).toInt = NB (n9 S) (C9 S) (P9 S) 512 ∧ NOD (n9 S) (C9 S) (P9 S) (b9g_nodeLevel S) (b9g_nodeLeaf S) (b9g_nodeLeaves S) 8 0
