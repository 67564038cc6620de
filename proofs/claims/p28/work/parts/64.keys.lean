theorem sf_X0_bytesAt {S : bT0} (hJ : J0 S) {a1 : Int32} {Q : Int64 → Prop} (hq : ∀ r, Q r) : wp_X0_bytesAt S a1 Q := by
  unfold wp_X0_bytesAt
  refine ⟨fun c => hq _, fun c => ⟨fun c2 => hq _, fun c2 => ⟨?_, hq _⟩⟩⟩
  obtain ⟨j0, j1⟩ := hJ
  simp only [Int32.not_lt, Int32.not_le, Int32.le_iff_toInt_le, Int32.lt_iff_toInt_lt, ← Int32.toInt_inj, pl_0, pl_1, pl_2, pl_8, pl_64, pl_m1] at c c2
  exact pt_in (by omega) (by omega)
theorem sf_X0_lengthAt {S : bT0} (hJ : J0 S) {a1 : Int32} {Q : Int32 → Prop} (hq : ∀ r, Q r) : wp_X0_lengthAt S a1 Q := by
  unfold wp_X0_lengthAt
  refine ⟨fun c => hq _, fun c => ⟨fun c2 => hq _, fun c2 => ⟨?_, hq _⟩⟩⟩
  obtain ⟨j0, j1⟩ := hJ
  simp only [Int32.not_lt, Int32.not_le, Int32.le_iff_toInt_le, Int32.lt_iff_toInt_lt, ← Int32.toInt_inj, pl_0, pl_1, pl_2, pl_8, pl_64, pl_m1] at c c2
  exact pt_in (by omega) (by omega)
theorem sf_X8_order {a0 : Int64} {a2 : Int32} {a3 : Int64} {a5 : Int32} {Q : Int32 → Prop} (hq : ∀ r, Q r) : wp_X8_order a0 a2 a3 a5 Q := by
  unfold wp_X8_order
  exact ⟨fun c => ⟨fun c => hq _, fun c => hq _⟩, fun c => hq _⟩
theorem sf_X0_counted {S : bT0} (hJ : J0 S) {a1 : Int64} {a3 a4 : Int32} {Q : Int32 → Prop} (hq : ∀ r : Int32, 0 ≤ r.toInt → r.toInt ≤ (b0g_count S).toInt → Q r) : wp_X0_counted S a1 a3 a4 Q := by
  unfold wp_X0_counted wp_X0_counted_7
  have hJ2 := hJ
  obtain ⟨j0, j1⟩ := hJ2
  refine ⟨fun n x1 x3 x4 x5 x6 => 0 ≤ x5.toInt ∧ x5.toInt ≤ (b0g_count S).toInt ∧ 0 ≤ x6.toInt ∧ x6.toInt ≤ 64 ∧ n = x6.toInt.toNat, ⟨_, by decide, j0, by decide, by decide, rfl⟩, ?_⟩
  intro n x1 x3 x4 x5 x6 ⟨h1, h2, h3, h4, h5⟩
  have hend : ∀ y5 : Int32, 0 ≤ y5.toInt → y5.toInt ≤ (b0g_count S).toInt → 0 < x6.toInt → wp_X0_counted_59 S x1 x3 x4 y5 x6 Q (fun x1 x3 x4 x5 x6 => ∃ n2, n2 < n ∧ (0 ≤ x5.toInt ∧ x5.toInt ≤ (b0g_count S).toInt ∧ 0 ≤ x6.toInt ∧ x6.toInt ≤ 64 ∧ n2 = x6.toInt.toNat)) := by
    intro y5 g1 g2 g3
    unfold wp_X0_counted_59
    have e := pt_half h3
    exact ⟨by decide, _, by rw [h5, e]; omega, g1, g2, by omega, by omega, rfl⟩
  unfold wp_X0_counted_7b
  refine ⟨fun c => hq _ h1 h2, fun c => ⟨fun c2 => ?_, fun c2 => ?_⟩⟩
  · simp only [Int32.not_lt, Int32.not_le, Int32.le_iff_toInt_le, Int32.lt_iff_toInt_lt, ← Int32.toInt_inj, pl_0, pl_1, pl_2, pl_8, pl_64, pl_m1] at c
    exact hend x5 h1 h2 (by omega)
  · simp only [Int32.not_lt, Int32.not_le, Int32.le_iff_toInt_le, Int32.lt_iff_toInt_lt, ← Int32.toInt_inj, pl_0, pl_1, pl_2, pl_8, pl_64, pl_m1] at c
    have e1 : (x5 + x6).toInt = x5.toInt + x6.toInt := pt_add (by omega) (by omega)
    have e2 : (x5 + x6 - 1).toInt = x5.toInt + x6.toInt - 1 := by rw [pt_sub (by rw [e1, pl_1]; omega) (by rw [e1, pl_1]; omega), e1, pl_1]
    simp only [Int32.not_lt, Int32.not_le, Int32.le_iff_toInt_le, Int32.lt_iff_toInt_lt, ← Int32.toInt_inj, pl_0, pl_1, pl_2, pl_8, pl_64, pl_m1, e2] at c2
    refine sf_X0_bytesAt hJ (fun r => sf_X0_lengthAt hJ (fun r2 => sf_X8_order (fun r3 => ⟨fun _ => hend x5 h1 h2 (by omega), fun _ => hend _ (by omega) (by omega) (by omega)⟩)))
theorem sf_X0_ahead {S : bT0} (hJ : J0 S) {a1 : Int64} {a3 : Int32} {Q : Int32 → Prop} (hq : ∀ r : Int32, 0 ≤ r.toInt → r.toInt ≤ (b0g_count S).toInt → Q r) : wp_X0_ahead S a1 a3 Q := sf_X0_counted hJ hq
theorem sf_X0_upTo {S : bT0} (hJ : J0 S) {a1 : Int64} {a3 : Int32} {Q : Int32 → Prop} (hq : ∀ r : Int32, 0 ≤ r.toInt → r.toInt ≤ (b0g_count S).toInt → Q r) : wp_X0_upTo S a1 a3 Q := sf_X0_counted hJ hq
theorem sf_X0_numberOf {S : bT0} (hJ : J0 S) {a1 : Int64} {a3 : Int32} {Q : Int32 → Prop} (hq : ∀ r : Int32, -1 ≤ r.toInt → r.toInt ≤ (b0g_count S).toInt → Q r) : wp_X0_numberOf S a1 a3 Q := by
  have hJ2 := hJ
  obtain ⟨j0, j1⟩ := hJ2
  unfold wp_X0_numberOf
  refine sf_X0_ahead hJ (fun r h1 h2 => sf_X0_bytesAt hJ (fun r3 => ⟨fun _ => hq _ (by decide) (by rw [pl_m1]; omega), fun _ => sf_X0_lengthAt hJ (fun r5 => ⟨fun _ => hq _ (by decide) (by rw [pl_m1]; omega), fun _ => hq _ (by omega) h2⟩)⟩))
theorem sf_X8_at {N : Nat} {S : Nat → Int32} (hN : N < 2 ^ 31) {a1 : Int32} {Q : Int32 → Prop} (hq : ∀ r, r = atf N S a1 → Q r) : wp_X8_at N S a1 Q := by
  unfold wp_X8_at
  unfold atf at hq
  refine ⟨fun c => hq _ (by rw [if_pos c]), fun c => ⟨fun c2 => hq _ (by rw [if_neg c, if_pos c2]), fun c2 => ⟨?_, hq _ (by rw [if_neg c, if_neg c2])⟩⟩⟩
  have e : (Int32.ofNat N).toInt = (N : Int) := nI_toInt hN
  simp only [Int32.not_lt, Int32.not_le, Int32.le_iff_toInt_le, Int32.lt_iff_toInt_lt, pl_0, e] at c c2
  exact pt_in (by omega) (by omega)
