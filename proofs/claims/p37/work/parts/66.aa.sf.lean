def F_X0_insert (S u : bT0) : Prop := True
theorem sf_X0_insert {S : bT0} (hJ : J0 S) {a1 : Int64} {a3 : Int32} {Q : Int32 → (bT0) → Prop} (hq : ∀ (r : Int32) (u : bT0), (J0 u) → F_X0_insert S u → (SRT (b0g_bytes S) (b0g_lengths S) (b0g_count S).toInt → 1 ≤ a3.toInt ∧ a3.toInt ≤ 8 → INS (b0g_bytes S) (b0g_lengths S) (b0g_count S).toInt a1 a3 r.toInt (b0g_bytes u) (b0g_lengths u) (b0g_count u).toInt) → Q r u) : wp_X0_insert S a1 a3 Q := by
  have jc := hJ
  obtain ⟨j0, j1⟩ := jc
  unfold wp_X0_insert
  refine fx_ahead hJ (fun r h0 h1 hl => ⟨fun c => ?_, fun c => ?_⟩)
  · simp only [pn] at c
    exact hq _ _ hJ trivial (fun hs hn => Or.inl ⟨rfl, rfl, fun j hj => ⟨rfl, rfl⟩, Or.inl (by omega)⟩)
  simp only [pn] at c
  have go : (SRT (b0g_bytes S) (b0g_lengths S) (b0g_count S).toInt → 1 ≤ a3.toInt ∧ a3.toInt ≤ 8 → ∀ j : Nat, (j : Int) < (b0g_count S).toInt → ¬ (b0g_bytes S j = a1 ∧ b0g_lengths S j = a3)) → wp_X0_insert_40 S a1 a3 r Q := by
    intro hne
    unfold wp_X0_insert_40 wp_X0_insert_46
    refine ⟨fun n x1 x3 x4 x5 V => x1 = a1 ∧ x3 = a3 ∧ x4 = r ∧ b0g_count V = b0g_count S ∧ r.toInt ≤ x5.toInt ∧ x5.toInt ≤ (b0g_count S).toInt ∧ (∀ j : Nat, (j : Int) < x5.toInt → b0g_bytes V j = b0g_bytes S j ∧ b0g_lengths V j = b0g_lengths S j) ∧ (∀ j : Nat, x5.toInt ≤ (j : Int) → (j : Int) < (b0g_count S).toInt → b0g_bytes V (j + 1) = b0g_bytes S j ∧ b0g_lengths V (j + 1) = b0g_lengths S j) ∧ n = x5.toInt.toNat, ⟨_, rfl, rfl, rfl, rfl, h1, Int.le_refl _, fun j hj => ⟨rfl, rfl⟩, fun j hj hc => by omega, rfl⟩, ?_⟩
    rintro n x1 x3 x4 x5 V ⟨e1, e3, e4, eV, l1, l2, p1, p2, hn0⟩
    unfold wp_X0_insert_46b
    rw [e1, e3, e4]
    have cr := pt_clamp h0
    refine ⟨fun d => ?_, fun d => ?_⟩
    · simp only [pn] at d
      have vin : vp_in r 64 := pt_in (by omega) (by omega)
      refine ⟨vin, fun S1 d1 => ⟨vin, fun S2 d2 S3 d3 => ?_⟩⟩
      have ec : b0g_count S3 = b0g_count S + 1 := by rw [d3, d2, d1]; exact congrArg (fun z => z + 1) eV
      have ec' : (b0g_count S3).toInt = (b0g_count S).toInt + 1 := by
        rw [ec, pt_add (by rw [pl_1]; omega) (by rw [pl_1]; omega), pl_1]
      have eb : b0g_bytes S3 = vp_updL (b0g_bytes V) r.toNatClampNeg a1 := by rw [d3, d2, d1]
      have el : b0g_lengths S3 = upd (b0g_lengths V) r.toNatClampNeg a3 := by rw [d3, d2, d1]
      refine hq _ _ ⟨by rw [ec']; omega, by rw [ec']; omega⟩ trivial (fun hs hn => Or.inr ⟨by omega, ec', hl hs hn, hne hs hn, fun j hj => ?_, fun j hj => ?_, fun j hj hc => ?_⟩)
      · rw [eb, el]
        unfold vp_updL upd
        rw [if_neg (by omega), if_neg (by omega)]
        exact p1 j (by omega)
      · rw [eb, el]
        unfold vp_updL upd
        rw [if_pos (by omega), if_pos (by omega)]
        exact ⟨rfl, rfl⟩
      · rw [eb, el]
        unfold vp_updL upd
        rw [if_neg (by omega), if_neg (by omega)]
        exact p2 j (by omega) hc
    · simp only [pn] at d
      have x1' : (x5 - 1).toInt = x5.toInt - 1 := by rw [pt_sub (by rw [pl_1]; omega) (by rw [pl_1]; omega), pl_1]
      have x2' : (x5 + (-1 : Int32)).toInt = x5.toInt - 1 := by
        rw [pt_add (by rw [pl_m1]; omega) (by rw [pl_m1]; omega), pl_m1]
        omega
      obtain ⟨y, hy⟩ : ∃ y : Int32, x5 + (-1 : Int32) = y := ⟨_, rfl⟩
      rw [hy] at x2'
      have c5 := pt_clamp (i := x5) (by omega)
      have c51 := pt_clamp (i := x5 - 1) (by omega)
      have v1 : vp_in (x5 - 1) 64 := pt_in (by omega) (by omega)
      have v2 : vp_in x5 64 := pt_in (by omega) (by omega)
      refine ⟨v1, v2, fun S4 d4 => ⟨v1, v2, fun S5 d5 => ?_⟩⟩
      rw [hy]
      have eb : b0g_bytes S5 = vp_updL (b0g_bytes V) x5.toNatClampNeg (b0g_bytes V (x5 - 1).toNatClampNeg) := by rw [d5, d4]
      have el : b0g_lengths S5 = upd (b0g_lengths V) x5.toNatClampNeg (b0g_lengths V (x5 - 1).toNatClampNeg) := by rw [d5, d4]
      refine ⟨_, ?_, rfl, rfl, rfl, by rw [d5, d4]; exact eV, by omega, by omega, fun j hj => ?_, fun j hj hc => ?_, rfl⟩
      · omega
      · rw [eb, el]
        unfold vp_updL upd
        rw [if_neg (by omega), if_neg (by omega)]
        exact p1 j (by omega)
      · rw [eb, el]
        unfold vp_updL upd
        by_cases h : j + 1 = x5.toNatClampNeg
        · rw [if_pos h, if_pos h, show (x5 - 1).toNatClampNeg = j by omega]
          exact p1 j (by omega)
        · rw [if_neg h, if_neg h]
          exact p2 j (by omega) hc
  refine fx_bytesAt hJ (fun b hb hb0 => ⟨fun c2 => go (fun hs hn => ?_), fun c2 => fx_lengthAt hJ (fun l hl2 hl0 => ⟨fun d => go (fun hs hn => ?_), fun d => ?_⟩)⟩)
  · exact LES_no hs (hl hs hn) (fun j hj hc hh => c2 ((lg_cmp_eq _ _).mpr ((hb j hj (by omega)).trans hh.1)))
  · exact LES_no hs (hl hs hn) (fun j hj hc hh => d ((hl2 j hj (by omega)).trans hh.2))
  · refine hq _ _ hJ trivial (fun hs hn => Or.inl ⟨rfl, rfl, fun j hj => ⟨rfl, rfl⟩, Or.inr ⟨r.toInt.toNat, ?_, ?_, ?_⟩⟩)
    · apply Classical.byContradiction
      intro hh
      have z := hl0 (by omega)
      rw [z] at d
      rw [← d, pl_0] at hn
      omega
    · have lt : r.toInt < (b0g_count S).toInt := by
        apply Classical.byContradiction
        intro hh
        have z := hl0 (by omega)
        rw [z] at d
        rw [← d, pl_0] at hn
        omega
      exact (hb r.toInt.toNat (by omega) (by omega)).symm.trans ((lg_cmp_eq _ _).mp c2)
    · have lt : r.toInt < (b0g_count S).toInt := by
        apply Classical.byContradiction
        intro hh
        have z := hl0 (by omega)
        rw [z] at d
        rw [← d, pl_0] at hn
        omega
      exact (hl2 r.toInt.toNat (by omega) (by omega)).symm.trans d
def F_X0_append (S u : bT0) : Prop := True
set_option maxRecDepth 20000 in
set_option maxHeartbeats 1000000 in
theorem sf_X0_append {S : bT0} (hJ : J0 S) {a1 : Int64} {a3 : Int32} {Q : (bT0) → Prop} (hq : ∀ u : bT0, (J0 u) → F_X0_append S u → ((b0g_count S).toInt < 64 → (b0g_count u).toInt = (b0g_count S).toInt + 1) → Q u) : wp_X0_append S a1 a3 Q := by
  unfold wp_X0_append
  have hFS : F_X0_append S S := trivial
  have jf1 := J0g_count hJ
  have rga3 := pt_rg a3
  refine ⟨fun c1 => ?_, fun c1 => ?_⟩
  · try simp (disch := first | ((try simp (disch := first | ((try simp only [pn]) <;> omega) | fail) only [pn, pq]) <;> omega) | fail) only [pn, pq] at c1
    exact hq _ hJ hFS (by (try simp (disch := first | ((try simp (disch := first | ((try simp only [pn]) <;> omega) | fail) only [pn, pq]) <;> omega) | fail) only [pn, pq]) <;> (intros; (try simp (disch := first | ((try simp (disch := first | ((try simp only [pn]) <;> omega) | fail) only [pn, pq]) <;> omega) | fail) only [pn, pq]) <;> omega))
  · try simp (disch := first | ((try simp (disch := first | ((try simp only [pn]) <;> omega) | fail) only [pn, pq]) <;> omega) | fail) only [pn, pq] at c1
    refine ⟨pt_in (by (try simp (disch := first | ((try simp (disch := first | ((try simp only [pn]) <;> omega) | fail) only [pn, pq]) <;> omega) | fail) only [pn, pq]) <;> (intros; (try simp (disch := first | ((try simp (disch := first | ((try simp only [pn]) <;> omega) | fail) only [pn, pq]) <;> omega) | fail) only [pn, pq]) <;> omega)) (by (try simp (disch := first | ((try simp (disch := first | ((try simp only [pn]) <;> omega) | fail) only [pn, pq]) <;> omega) | fail) only [pn, pq]) <;> (intros; (try simp (disch := first | ((try simp (disch := first | ((try simp only [pn]) <;> omega) | fail) only [pn, pq]) <;> omega) | fail) only [pn, pq]) <;> omega)), ?_⟩
    intro S2 eS2
    have hJS2 : J0 S2 := by rw [eS2]; exact (J0s_bytes hJ)
    have hFS2 : F_X0_append S S2 := by rw [eS2]; exact hFS
    have je2 : ((b0g_count S2)).toInt = ((b0g_count S)).toInt := by rw [eS2]
    have jf3 := J0g_count hJS2
    refine ⟨pt_in (by (try simp (disch := first | ((try simp (disch := first | ((try simp only [pn]) <;> omega) | fail) only [pn, pq]) <;> omega) | fail) only [pn, pq]) <;> (intros; (try simp (disch := first | ((try simp (disch := first | ((try simp only [pn]) <;> omega) | fail) only [pn, pq]) <;> omega) | fail) only [pn, pq]) <;> omega)) (by (try simp (disch := first | ((try simp (disch := first | ((try simp only [pn]) <;> omega) | fail) only [pn, pq]) <;> omega) | fail) only [pn, pq]) <;> (intros; (try simp (disch := first | ((try simp (disch := first | ((try simp only [pn]) <;> omega) | fail) only [pn, pq]) <;> omega) | fail) only [pn, pq]) <;> omega)), ?_⟩
    intro S3 eS3
    have hJS3 : J0 S3 := by rw [eS3]; exact (J0s_lengths hJS2)
    have hFS3 : F_X0_append S S3 := by rw [eS3]; exact hFS2
    have je4 : ((b0g_count S3)).toInt = ((b0g_count S2)).toInt := by rw [eS3]
    have jf5 := J0g_count hJS3
    intro S4 eS4
    have hJS4 : J0 S4 := by rw [eS4]; exact (J0s_count hJS3 ⟨(by (try simp (disch := first | ((try simp (disch := first | ((try simp only [pn]) <;> omega) | fail) only [pn, pq]) <;> omega) | fail) only [pn, pq]) <;> (intros; (try simp (disch := first | ((try simp (disch := first | ((try simp only [pn]) <;> omega) | fail) only [pn, pq]) <;> omega) | fail) only [pn, pq]) <;> omega)), (by (try simp (disch := first | ((try simp (disch := first | ((try simp only [pn]) <;> omega) | fail) only [pn, pq]) <;> omega) | fail) only [pn, pq]) <;> (intros; (try simp (disch := first | ((try simp (disch := first | ((try simp only [pn]) <;> omega) | fail) only [pn, pq]) <;> omega) | fail) only [pn, pq]) <;> omega))⟩)
    have hFS4 : F_X0_append S S4 := by rw [eS4]; exact hFS3
    have je6 : ((b0g_count S4)).toInt = (((b0g_count S3) + (1 : Int32))).toInt := by rw [eS4]
    try simp (disch := first | ((try simp (disch := first | ((try simp only [pn]) <;> omega) | fail) only [pn, pq]) <;> omega) | fail) only [pn, pq] at je6
    have jf7 := J0g_count hJS4
    exact hq _ hJS4 hFS4 (by (try simp (disch := first | ((try simp (disch := first | ((try simp only [pn]) <;> omega) | fail) only [pn, pq]) <;> omega) | fail) only [pn, pq]) <;> (intros; (try simp (disch := first | ((try simp (disch := first | ((try simp only [pn]) <;> omega) | fail) only [pn, pq]) <;> omega) | fail) only [pn, pq]) <;> omega))
def F_X0_drop (S u : bT0) : Prop := True
theorem sf_X0_drop {S : bT0} (hJ : J0 S) {a1 : Int32} {Q : (bT0) → Prop} (hq : ∀ u : bT0, (J0 u) → F_X0_drop S u → (DRP (b0g_bytes S) (b0g_lengths S) (b0g_count S).toInt a1.toInt (b0g_bytes u) (b0g_lengths u) (b0g_count u).toInt) → Q u) : wp_X0_drop S a1 Q := by
  have jc := hJ
  obtain ⟨j0, j1⟩ := jc
  unfold wp_X0_drop
  refine ⟨fun c => ?_, fun c => ⟨fun c2 => ?_, fun c2 => ?_⟩⟩
  · simp only [pn] at c
    exact hq _ hJ trivial (Or.inl ⟨by omega, rfl, fun j hj => ⟨rfl, rfl⟩⟩)
  · simp only [pn] at c c2
    exact hq _ hJ trivial (Or.inl ⟨by omega, rfl, fun j hj => ⟨rfl, rfl⟩⟩)
  simp only [pn] at c c2
  have a1' : (a1 + 1).toInt = a1.toInt + 1 := by rw [pt_add (by rw [pl_1]; omega) (by rw [pl_1]; omega), pl_1]
  unfold wp_X0_drop_16
  refine ⟨fun n x2 V => b0g_count V = b0g_count S ∧ a1.toInt < x2.toInt ∧ x2.toInt ≤ (b0g_count S).toInt ∧ (∀ j : Nat, (j : Int) < a1.toInt ∨ x2.toInt ≤ (j : Int) → b0g_bytes V j = b0g_bytes S j ∧ b0g_lengths V j = b0g_lengths S j) ∧ (∀ j : Nat, a1.toInt ≤ (j : Int) → (j : Int) + 1 < x2.toInt → b0g_bytes V j = b0g_bytes S (j + 1) ∧ b0g_lengths V j = b0g_lengths S (j + 1)) ∧ n = ((b0g_count S).toInt - x2.toInt).toNat, ⟨_, rfl, by omega, by omega, fun j hj => ⟨rfl, rfl⟩, fun j hj hc => by omega, rfl⟩, ?_⟩
  rintro n x2 V ⟨eV, l1, l2, p1, p2, hn0⟩
  unfold wp_X0_drop_16b
  rw [eV]
  refine ⟨fun d S1 d1 => ?_, fun d => ?_⟩
  · simp only [pn] at d
    have ec : (b0g_count S1).toInt = (b0g_count S).toInt - 1 := by
      rw [d1]
      show (b0g_count S - 1).toInt = _
      rw [pt_sub (by rw [pl_1]; omega) (by rw [pl_1]; omega), pl_1]
    have eb : b0g_bytes S1 = b0g_bytes V := by rw [d1]
    have el : b0g_lengths S1 = b0g_lengths V := by rw [d1]
    refine hq _ ⟨by rw [ec]; omega, by rw [ec]; omega⟩ trivial (Or.inr ⟨by omega, by omega, ec, fun j hj => ?_, fun j hj hc => ?_⟩)
    · rw [eb, el]
      exact p1 j (Or.inl hj)
    · rw [eb, el]
      exact p2 j hj (by omega)
  · simp only [pn] at d
    have x1' : (x2 - 1).toInt = x2.toInt - 1 := by rw [pt_sub (by rw [pl_1]; omega) (by rw [pl_1]; omega), pl_1]
    have x2' : (x2 + 1).toInt = x2.toInt + 1 := by rw [pt_add (by rw [pl_1]; omega) (by rw [pl_1]; omega), pl_1]
    have c5 := pt_clamp (i := x2) (by omega)
    have c51 := pt_clamp (i := x2 - 1) (by omega)
    have v1 : vp_in (x2 - 1) 64 := pt_in (by omega) (by omega)
    have v2 : vp_in x2 64 := pt_in (by omega) (by omega)
    refine ⟨v2, v1, fun S4 d4 => ⟨v2, v1, fun S5 d5 => ?_⟩⟩
    have eb : b0g_bytes S5 = vp_updL (b0g_bytes V) (x2 - 1).toNatClampNeg (b0g_bytes V x2.toNatClampNeg) := by rw [d5, d4]
    have el : b0g_lengths S5 = upd (b0g_lengths V) (x2 - 1).toNatClampNeg (b0g_lengths V x2.toNatClampNeg) := by rw [d5, d4]
    refine ⟨_, ?_, by rw [d5, d4]; exact eV, by omega, by omega, fun j hj => ?_, fun j hj hc => ?_, rfl⟩
    · omega
    · rw [eb, el]
      unfold vp_updL upd
      rw [if_neg (by omega), if_neg (by omega)]
      exact p1 j (by omega)
    · rw [eb, el]
      unfold vp_updL upd
      by_cases h : j = (x2 - 1).toNatClampNeg
      · rw [if_pos h, if_pos h, show x2.toNatClampNeg = j + 1 by omega]
        exact p1 (j + 1) (by omega)
      · rw [if_neg h, if_neg h]
        exact p2 j hj (by omega)
def F_X0_copyFrom (S u : bT0 × bT0) : Prop := u.2 = S.2
set_option maxRecDepth 20000 in
set_option maxHeartbeats 1000000 in
theorem sf_X0_copyFrom {S : bT0 × bT0} (hJ : J0 S.1 ∧ J0 S.2) {Q : (bT0 × bT0) → Prop} (hq : ∀ u : bT0 × bT0, (J0 u.1 ∧ J0 u.2) → F_X0_copyFrom S u → ((b0g_count u.1).toInt = (b0g_count S.2).toInt) → Q u) : wp_X0_copyFrom S Q := by
  unfold wp_X0_copyFrom
  have hFS : F_X0_copyFrom S S := rfl
  have jf1 := J0g_count hJ.2
  have jf2 := J0g_count hJ.1
  intro S1 eS1
  have hJS1 : J0 S1.1 ∧ J0 S1.2 := by rw [eS1]; exact ⟨(J0s_bytes hJ.1), hJ.2⟩
  have hFS1 : F_X0_copyFrom S S1 := by rw [eS1]; exact hFS
  have je4 : ((b0g_count S1.2)).toInt = ((b0g_count S.2)).toInt := congrArg (fun z => ((b0g_count z)).toInt) hFS1
  have je5 : ((b0g_count S1.1)).toInt = ((b0g_count S.1)).toInt := by rw [eS1]
  have jf6 := J0g_count hJS1.1
  intro S2 eS2
  have hJS2 : J0 S2.1 ∧ J0 S2.2 := by rw [eS2]; exact ⟨(J0s_lengths hJS1.1), hJS1.2⟩
  have hFS2 : F_X0_copyFrom S S2 := by rw [eS2]; exact hFS1
  have je8 : ((b0g_count S2.2)).toInt = ((b0g_count S.2)).toInt := congrArg (fun z => ((b0g_count z)).toInt) hFS2
  have je9 : ((b0g_count S2.1)).toInt = ((b0g_count S1.1)).toInt := by rw [eS2]
  have jf10 := J0g_count hJS2.1
  intro S3 eS3
  have hJS3 : J0 S3.1 ∧ J0 S3.2 := by rw [eS3]; exact ⟨(J0s_count hJS2.1 ⟨(by (try simp (disch := first | ((try simp (disch := first | ((try simp only [pn]) <;> omega) | fail) only [pn, pq]) <;> omega) | fail) only [pn, pq]) <;> (intros; (try simp (disch := first | ((try simp (disch := first | ((try simp only [pn]) <;> omega) | fail) only [pn, pq]) <;> omega) | fail) only [pn, pq]) <;> omega)), (by (try simp (disch := first | ((try simp (disch := first | ((try simp only [pn]) <;> omega) | fail) only [pn, pq]) <;> omega) | fail) only [pn, pq]) <;> (intros; (try simp (disch := first | ((try simp (disch := first | ((try simp only [pn]) <;> omega) | fail) only [pn, pq]) <;> omega) | fail) only [pn, pq]) <;> omega))⟩), hJS2.2⟩
  have hFS3 : F_X0_copyFrom S S3 := by rw [eS3]; exact hFS2
  have je12 : ((b0g_count S3.2)).toInt = ((b0g_count S.2)).toInt := congrArg (fun z => ((b0g_count z)).toInt) hFS3
  have je13 : ((b0g_count S3.1)).toInt = ((b0g_count S2.2)).toInt := by rw [eS3]
  try simp (disch := first | ((try simp (disch := first | ((try simp only [pn]) <;> omega) | fail) only [pn, pq]) <;> omega) | fail) only [pn, pq] at je13
  have jf14 := J0g_count hJS3.1
  exact hq _ hJS3 hFS3 (by (try simp (disch := first | ((try simp (disch := first | ((try simp only [pn]) <;> omega) | fail) only [pn, pq]) <;> omega) | fail) only [pn, pq]) <;> (intros; (try simp (disch := first | ((try simp (disch := first | ((try simp only [pn]) <;> omega) | fail) only [pn, pq]) <;> omega) | fail) only [pn, pq]) <;> omega))
set_option maxRecDepth 20000 in
set_option maxHeartbeats 1000000 in
theorem sf_X0_notIn {S : bT0 × bT0} (hJ : J0 S.1 ∧ J0 S.2) {Q : Int32 → Prop} (hq : ∀ r : Int32, Q r) : wp_X0_notIn S Q := by
  unfold wp_X0_notIn
  have jf1 := J0g_count hJ.1
  refine ⟨fun n x2q1 x3q1 => (0 ≤ (x3q1).toInt) ∧ n = (((b0g_count S.1)).toInt + 1 - (x3q1).toInt).toNat, ⟨_, (by (try simp (disch := first | ((try simp (disch := first | ((try simp only [pn]) <;> omega) | fail) only [pn, pq]) <;> omega) | fail) only [pn, pq]) <;> (intros; (try simp (disch := first | ((try simp (disch := first | ((try simp only [pn]) <;> omega) | fail) only [pn, pq]) <;> omega) | fail) only [pn, pq]) <;> omega)), rfl⟩, ?_⟩
  rintro n2 x2q1 x3q1 ⟨hiq1_0, hn2⟩
  have rgx2q1 := pt_rg x2q1
  have rgx3q1 := pt_rg x3q1
  unfold wp_X0_notIn_4b
  refine ⟨fun c3 => ?_, fun c3 => ?_⟩
  · try simp (disch := first | ((try simp (disch := first | ((try simp only [pn]) <;> omega) | fail) only [pn, pq]) <;> omega) | fail) only [pn, pq] at c3
    exact hq _ 
  · try simp (disch := first | ((try simp (disch := first | ((try simp only [pn]) <;> omega) | fail) only [pn, pq]) <;> omega) | fail) only [pn, pq] at c3
    refine sf_X0_bytesAt hJ.1 (fun r4  => ?_)
    refine sf_X0_lengthAt hJ.1 (fun r6  => ?_)
    have rgr6 := pt_rg r6
    refine sf_X0_numberOf hJ.2 (fun r8 hr8_0 hr8_1 => ?_)
    have rgr8 := pt_rg r8
    try simp (disch := first | ((try simp (disch := first | ((try simp only [pn]) <;> omega) | fail) only [pn, pq]) <;> omega) | fail) only [pn, pq] at hr8_0
    try simp (disch := first | ((try simp (disch := first | ((try simp only [pn]) <;> omega) | fail) only [pn, pq]) <;> omega) | fail) only [pn, pq] at hr8_1
    refine ⟨fun c10 => ?_, fun c10 => ?_⟩
    · try simp (disch := first | ((try simp (disch := first | ((try simp only [pn]) <;> omega) | fail) only [pn, pq]) <;> omega) | fail) only [pn, pq] at c10
      unfold wp_X0_notIn_33
      refine ⟨_, ?_, ?_, rfl⟩
      · (try simp (disch := first | ((try simp (disch := first | ((try simp only [pn]) <;> omega) | fail) only [pn, pq]) <;> omega) | fail) only [pn, pq]) <;> (intros; (try simp (disch := first | ((try simp (disch := first | ((try simp only [pn]) <;> omega) | fail) only [pn, pq]) <;> omega) | fail) only [pn, pq]) <;> omega)
      · (try simp (disch := first | ((try simp (disch := first | ((try simp only [pn]) <;> omega) | fail) only [pn, pq]) <;> omega) | fail) only [pn, pq]) <;> (intros; (try simp (disch := first | ((try simp (disch := first | ((try simp only [pn]) <;> omega) | fail) only [pn, pq]) <;> omega) | fail) only [pn, pq]) <;> omega)
    · try simp (disch := first | ((try simp (disch := first | ((try simp only [pn]) <;> omega) | fail) only [pn, pq]) <;> omega) | fail) only [pn, pq] at c10
      unfold wp_X0_notIn_33
      refine ⟨_, ?_, ?_, rfl⟩
      · (try simp (disch := first | ((try simp (disch := first | ((try simp only [pn]) <;> omega) | fail) only [pn, pq]) <;> omega) | fail) only [pn, pq]) <;> (intros; (try simp (disch := first | ((try simp (disch := first | ((try simp only [pn]) <;> omega) | fail) only [pn, pq]) <;> omega) | fail) only [pn, pq]) <;> omega)
      · (try simp (disch := first | ((try simp (disch := first | ((try simp only [pn]) <;> omega) | fail) only [pn, pq]) <;> omega) | fail) only [pn, pq]) <;> (intros; (try simp (disch := first | ((try simp (disch := first | ((try simp only [pn]) <;> omega) | fail) only [pn, pq]) <;> omega) | fail) only [pn, pq]) <;> omega)
set_option maxRecDepth 20000 in
set_option maxHeartbeats 1000000 in
theorem sf_X0_ofLength {S : bT0} (hJ : J0 S) {a1 : Int32} {Q : Int32 → Prop} (hq : ∀ r : Int32, Q r) : wp_X0_ofLength S a1 Q := by
  unfold wp_X0_ofLength
  have jf1 := J0g_count hJ
  have rga1 := pt_rg a1
  refine ⟨fun n x1q1 x2q1 x3q1 => (x1q1 = a1) ∧ (0 ≤ (x3q1).toInt) ∧ n = (((b0g_count S)).toInt + 1 - (x3q1).toInt).toNat, ⟨_, rfl, (by (try simp (disch := first | ((try simp (disch := first | ((try simp only [pn]) <;> omega) | fail) only [pn, pq]) <;> omega) | fail) only [pn, pq]) <;> (intros; (try simp (disch := first | ((try simp (disch := first | ((try simp only [pn]) <;> omega) | fail) only [pn, pq]) <;> omega) | fail) only [pn, pq]) <;> omega)), rfl⟩, ?_⟩
  rintro n2 x1q1 x2q1 x3q1 ⟨hkq1_0, hiq1_0, hn2⟩
  subst hkq1_0
  have rgx1q1 := pt_rg x1q1
  have rgx2q1 := pt_rg x2q1
  have rgx3q1 := pt_rg x3q1
  unfold wp_X0_ofLength_4b
  refine ⟨fun c3 => ?_, fun c3 => ?_⟩
  · try simp (disch := first | ((try simp (disch := first | ((try simp only [pn]) <;> omega) | fail) only [pn, pq]) <;> omega) | fail) only [pn, pq] at c3
    exact hq _ 
  · try simp (disch := first | ((try simp (disch := first | ((try simp only [pn]) <;> omega) | fail) only [pn, pq]) <;> omega) | fail) only [pn, pq] at c3
    refine sf_X0_lengthAt hJ (fun r4  => ?_)
    have rgr4 := pt_rg r4
    refine ⟨fun c6 => ?_, fun c6 => ?_⟩
    · try simp (disch := first | ((try simp (disch := first | ((try simp only [pn]) <;> omega) | fail) only [pn, pq]) <;> omega) | fail) only [pn, pq] at c6
      unfold wp_X0_ofLength_24
      refine ⟨_, ?_, ?_, ?_, rfl⟩
      · (try simp (disch := first | ((try simp (disch := first | ((try simp only [pn]) <;> omega) | fail) only [pn, pq]) <;> omega) | fail) only [pn, pq]) <;> (intros; (try simp (disch := first | ((try simp (disch := first | ((try simp only [pn]) <;> omega) | fail) only [pn, pq]) <;> omega) | fail) only [pn, pq]) <;> omega)
      · first | rfl | assumption
      · (try simp (disch := first | ((try simp (disch := first | ((try simp only [pn]) <;> omega) | fail) only [pn, pq]) <;> omega) | fail) only [pn, pq]) <;> (intros; (try simp (disch := first | ((try simp (disch := first | ((try simp only [pn]) <;> omega) | fail) only [pn, pq]) <;> omega) | fail) only [pn, pq]) <;> omega)
    · try simp (disch := first | ((try simp (disch := first | ((try simp only [pn]) <;> omega) | fail) only [pn, pq]) <;> omega) | fail) only [pn, pq] at c6
      unfold wp_X0_ofLength_24
      refine ⟨_, ?_, ?_, ?_, rfl⟩
      · (try simp (disch := first | ((try simp (disch := first | ((try simp only [pn]) <;> omega) | fail) only [pn, pq]) <;> omega) | fail) only [pn, pq]) <;> (intros; (try simp (disch := first | ((try simp (disch := first | ((try simp only [pn]) <;> omega) | fail) only [pn, pq]) <;> omega) | fail) only [pn, pq]) <;> omega)
      · first | rfl | assumption
      · (try simp (disch := first | ((try simp (disch := first | ((try simp only [pn]) <;> omega) | fail) only [pn, pq]) <;> omega) | fail) only [pn, pq]) <;> (intros; (try simp (disch := first | ((try simp (disch := first | ((try simp only [pn]) <;> omega) | fail) only [pn, pq]) <;> omega) | fail) only [pn, pq]) <;> omega)
set_option maxRecDepth 20000 in
set_option maxHeartbeats 1000000 in
theorem sf_X0_allBytes {S : bT0} (hJ : J0 S) {Q : Int32 → Prop} (hq : ∀ r : Int32, Q r) : wp_X0_allBytes S Q := by
  unfold wp_X0_allBytes
  have jf1 := J0g_count hJ
  refine ⟨fun n x1q1 x2q1 => (0 ≤ (x2q1).toInt) ∧ n = (((b0g_count S)).toInt + 1 - (x2q1).toInt).toNat, ⟨_, (by (try simp (disch := first | ((try simp (disch := first | ((try simp only [pn]) <;> omega) | fail) only [pn, pq]) <;> omega) | fail) only [pn, pq]) <;> (intros; (try simp (disch := first | ((try simp (disch := first | ((try simp only [pn]) <;> omega) | fail) only [pn, pq]) <;> omega) | fail) only [pn, pq]) <;> omega)), rfl⟩, ?_⟩
  rintro n2 x1q1 x2q1 ⟨hiq1_0, hn2⟩
  have rgx1q1 := pt_rg x1q1
  have rgx2q1 := pt_rg x2q1
  unfold wp_X0_allBytes_4b
  refine ⟨fun c3 => ?_, fun c3 => ?_⟩
  · try simp (disch := first | ((try simp (disch := first | ((try simp only [pn]) <;> omega) | fail) only [pn, pq]) <;> omega) | fail) only [pn, pq] at c3
    exact hq _ 
  · try simp (disch := first | ((try simp (disch := first | ((try simp only [pn]) <;> omega) | fail) only [pn, pq]) <;> omega) | fail) only [pn, pq] at c3
    refine sf_X0_lengthAt hJ (fun r4  => ?_)
    have rgr4 := pt_rg r4
    refine ⟨_, ?_, ?_, rfl⟩
    · (try simp (disch := first | ((try simp (disch := first | ((try simp only [pn]) <;> omega) | fail) only [pn, pq]) <;> omega) | fail) only [pn, pq]) <;> (intros; (try simp (disch := first | ((try simp (disch := first | ((try simp only [pn]) <;> omega) | fail) only [pn, pq]) <;> omega) | fail) only [pn, pq]) <;> omega)
    · (try simp (disch := first | ((try simp (disch := first | ((try simp only [pn]) <;> omega) | fail) only [pn, pq]) <;> omega) | fail) only [pn, pq]) <;> (intros; (try simp (disch := first | ((try simp (disch := first | ((try simp only [pn]) <;> omega) | fail) only [pn, pq]) <;> omega) | fail) only [pn, pq]) <;> omega)
set_option maxRecDepth 20000 in
set_option maxHeartbeats 1000000 in
theorem sf_X1_isEnded {S : bT1} (hJ : J1 S) {a1 : Int32} {Q : Int32 → Prop} (hq : ∀ r : Int32, bf_bool r → Q r) : wp_X1_isEnded S a1 Q := by
  unfold wp_X1_isEnded
  have rga1 := pt_rg a1
  refine sf_X8_at (by decide) (fun r1 hr1_0 => ?_)
  have rgr1 := pt_rg r1
  try simp (disch := first | ((try simp (disch := first | ((try simp only [pn]) <;> omega) | fail) only [pn, pq]) <;> omega) | fail) only [pn, pq] at hr1_0
  refine sf_X0_lengthAt (J1g_owners hJ) (fun r3  => ?_)
  have rgr3 := pt_rg r3
  refine ⟨fun c5 => ?_, fun c5 => ?_⟩
  · try simp (disch := first | ((try simp (disch := first | ((try simp only [pn]) <;> omega) | fail) only [pn, pq]) <;> omega) | fail) only [pn, pq] at c5
    exact ⟨by first | rfl | assumption, hq _ (by first | rfl | assumption) ⟩
  · try simp (disch := first | ((try simp (disch := first | ((try simp only [pn]) <;> omega) | fail) only [pn, pq]) <;> omega) | fail) only [pn, pq] at c5
    exact ⟨by first | rfl | assumption, hq _ (by first | rfl | assumption) ⟩
set_option maxRecDepth 20000 in
set_option maxHeartbeats 1000000 in
theorem sf_X1_lengthAt {S : bT1} (hJ : J1 S) {a1 : Int32} {Q : Int32 → Prop} (hq : ∀ r : Int32, (r.toInt = (atf 64 (b1g_lengths S) a1).toInt) → Q r) : wp_X1_lengthAt S a1 Q := by
  unfold wp_X1_lengthAt
  have rga1 := pt_rg a1
  refine sf_X8_at (by decide) (fun r1 hr1_0 => ?_)
  have rgr1 := pt_rg r1
  try simp (disch := first | ((try simp (disch := first | ((try simp only [pn]) <;> omega) | fail) only [pn, pq]) <;> omega) | fail) only [pn, pq] at hr1_0
  exact hq _ (by (try simp (disch := first | ((try simp (disch := first | ((try simp only [pn]) <;> omega) | fail) only [pn, pq]) <;> omega) | fail) only [pn, pq]) <;> (intros; (try simp (disch := first | ((try simp (disch := first | ((try simp only [pn]) <;> omega) | fail) only [pn, pq]) <;> omega) | fail) only [pn, pq]) <;> omega))
set_option maxRecDepth 20000 in
set_option maxHeartbeats 1000000 in
theorem sf_X8_highest {a0 : Int32} {a1 : Int32} {Q : Int32 → Prop} (hq : ∀ r : Int32, Q r) : wp_X8_highest a0 a1 Q := by
  unfold wp_X8_highest
  have rga0 := pt_rg a0
  have rga1 := pt_rg a1
  exact hq _ 
set_option maxRecDepth 20000 in
set_option maxHeartbeats 1000000 in
theorem sf_X1_nextAt {S : bT1} (hJ : J1 S) {a1 : Int32} {Q : Int32 → Prop} (hq : ∀ r : Int32, Q r) : wp_X1_nextAt S a1 Q := by
  unfold wp_X1_nextAt
  have rga1 := pt_rg a1
  refine sf_X8_at (by decide) (fun r1 hr1_0 => ?_)
  have rgr1 := pt_rg r1
  try simp (disch := first | ((try simp (disch := first | ((try simp only [pn]) <;> omega) | fail) only [pn, pq]) <;> omega) | fail) only [pn, pq] at hr1_0
  refine sf_X8_highest  (fun r3  => ?_)
  have rgr3 := pt_rg r3
  exact hq _ 
theorem sf_X8_front {a0 : Int32} {Q : Int64 → Prop} (hq : ∀ r : Int64, (1 ≤ a0.toInt → a0.toInt ≤ 8 → r = frontf a0) → Q r) : wp_X8_front a0 Q := by
  unfold wp_X8_front
  refine ⟨fun c => ⟨fun d => hq _ (fun _ _ => ?_), fun d => hq _ (fun _ _ => ?_)⟩, fun c => hq _ (fun h _ => ?_)⟩
  · unfold frontf
    rw [if_pos d]
  · unfold frontf
    rw [if_neg d]
  · exfalso
    apply c
    rw [Int32.lt_iff_toInt_lt, pl_0]
    omega
set_option maxRecDepth 20000 in
set_option maxHeartbeats 1000000 in
theorem sf_X8_octetTo {a0 : Int32} {a1 : Int32} {Q : Int64 → Prop} (hq : ∀ r : Int64, Q r) : wp_X8_octetTo a0 a1 Q := by
  unfold wp_X8_octetTo
  have rga0 := pt_rg a0
  have rga1 := pt_rg a1
  refine ⟨fun c1 => ?_, fun c1 => ?_⟩
  · try simp (disch := first | ((try simp (disch := first | ((try simp only [pn]) <;> omega) | fail) only [pn, pq]) <;> omega) | fail) only [pn, pq] at c1
    unfold wp_X8_octetTo_10
    exact hq _ 
  · try simp (disch := first | ((try simp (disch := first | ((try simp only [pn]) <;> omega) | fail) only [pn, pq]) <;> omega) | fail) only [pn, pq] at c1
    refine ⟨fun c2 => ?_, fun c2 => ?_⟩
    · try simp (disch := first | ((try simp (disch := first | ((try simp only [pn]) <;> omega) | fail) only [pn, pq]) <;> omega) | fail) only [pn, pq] at c2
      exact hq _ 
    · try simp (disch := first | ((try simp (disch := first | ((try simp only [pn]) <;> omega) | fail) only [pn, pq]) <;> omega) | fail) only [pn, pq] at c2
      unfold wp_X8_octetTo_10
      exact hq _ 
def F_X1_bound (S u : bT1) : Prop := (b1g_owners u) = (b1g_owners S) ∧ (b1g_commons u) = (b1g_commons S) ∧ (b1g_lengths u) = (b1g_lengths S) ∧ (b1g_hashes u) = (b1g_hashes S) ∧ (b1g_nexts u) = (b1g_nexts S) ∧ (b1g_hashBits u) = (b1g_hashBits S) ∧ (b1g_realBits u) = (b1g_realBits S) ∧ (b1g_salt u) = (b1g_salt S)
set_option maxRecDepth 20000 in
set_option maxHeartbeats 1000000 in
theorem sf_X1_bound {S : bT1} (hJ : J1 S) {a1 : Int32} {Q : (bT1) → Prop} (hq : ∀ u : bT1, (J1 u) → F_X1_bound S u → Q u) : wp_X1_bound S a1 Q := by
  unfold wp_X1_bound
  have hFS : F_X1_bound S S := ⟨rfl, rfl, rfl, rfl, rfl, rfl, rfl, rfl⟩
  have rga1 := pt_rg a1
  refine sf_X1_lengthAt hJ (fun r1 hr1_0 => ?_)
  have rgr1 := pt_rg r1
  try simp (disch := first | ((try simp (disch := first | ((try simp only [pn]) <;> omega) | fail) only [pn, pq]) <;> omega) | fail) only [pn, pq] at hr1_0
  refine sf_X0_bytesAt (J1g_owners hJ) (fun r3  => ?_)
  refine sf_X8_front  (fun r5 hr5_0 => ?_)
  refine sf_X1_isEnded hJ (fun r7 hzr7  => ?_)
  refine ⟨fun c9 => ?_, fun c9 => ?_⟩
  · try simp (disch := first | ((try simp (disch := first | ((try simp only [pn]) <;> omega) | fail) only [pn, pq]) <;> omega) | fail) only [pn, pq] at c9
    unfold wp_X1_bound_34
    refine sf_X0_append (J1g_lows hJ) (fun u11 hJu11 hfu11 hr10_0 => ?_)
    try simp (disch := first | ((try simp (disch := first | ((try simp only [pn]) <;> omega) | fail) only [pn, pq]) <;> omega) | fail) only [pn, pq] at hr10_0
    intro S12 eS12
    have hGS12 : F_X1_bound S S12 := by
      rw [eS12]
      exact ⟨hFS.1, hFS.2.1, hFS.2.2.1, hFS.2.2.2.1, hFS.2.2.2.2.1, hFS.2.2.2.2.2.1, hFS.2.2.2.2.2.2.1, hFS.2.2.2.2.2.2.2⟩
    have hJS12 : J1 S12 := by rw [eS12]; exact (J1s_lows hJ hJu11)
    have hFS12 : F_X1_bound S S12 := hGS12
    have je2 : ((b1g_realBits S12)).toInt = ((b1g_realBits S)).toInt := congrArg (fun z => (z).toInt) hFS12.2.2.2.2.2.2.1
    refine sf_X0_append (J1g_highs hJS12) (fun u14 hJu14 hfu14 hr13_0 => ?_)
    try simp (disch := first | ((try simp (disch := first | ((try simp only [pn]) <;> omega) | fail) only [pn, pq]) <;> omega) | fail) only [pn, pq] at hr13_0
    intro S15 eS15
    have hGS15 : F_X1_bound S S15 := by
      rw [eS15]
      exact ⟨hFS12.1, hFS12.2.1, hFS12.2.2.1, hFS12.2.2.2.1, hFS12.2.2.2.2.1, hFS12.2.2.2.2.2.1, hFS12.2.2.2.2.2.2.1, hFS12.2.2.2.2.2.2.2⟩
    have hJS15 : J1 S15 := by rw [eS15]; exact (J1s_highs hJS12 hJu14)
    have hFS15 : F_X1_bound S S15 := hGS15
    have je4 : ((b1g_realBits S15)).toInt = ((b1g_realBits S)).toInt := congrArg (fun z => (z).toInt) hFS15.2.2.2.2.2.2.1
    exact hq _ hJS15 hFS15 
  · try simp (disch := first | ((try simp (disch := first | ((try simp only [pn]) <;> omega) | fail) only [pn, pq]) <;> omega) | fail) only [pn, pq] at c9
    refine ⟨fun c16 => ?_, fun c16 => ?_⟩
    · try simp (disch := first | ((try simp (disch := first | ((try simp only [pn]) <;> omega) | fail) only [pn, pq]) <;> omega) | fail) only [pn, pq] at c16
      refine sf_X1_nextAt hJ (fun r17  => ?_)
      have rgr17 := pt_rg r17
      intro v19 ev19
      have nv19 := congrArg Int32.toInt ev19
      try simp (disch := first | ((try simp (disch := first | ((try simp only [pn]) <;> omega) | fail) only [pn, pq]) <;> omega) | fail) only [pn, pq] at nv19
      refine sf_X8_octetTo  (fun r20  => ?_)
      refine ⟨fun c22 => ?_, fun c22 => ?_⟩
      · try simp (disch := first | ((try simp (disch := first | ((try simp only [pn]) <;> omega) | fail) only [pn, pq]) <;> omega) | fail) only [pn, pq] at c22
        unfold wp_X1_bound_105
        refine sf_X0_append (J1g_lows hJ) (fun u24 hJu24 hfu24 hr23_0 => ?_)
        try simp (disch := first | ((try simp (disch := first | ((try simp only [pn]) <;> omega) | fail) only [pn, pq]) <;> omega) | fail) only [pn, pq] at hr23_0
        intro S25 eS25
        have hGS25 : F_X1_bound S S25 := by
          rw [eS25]
          exact ⟨hFS.1, hFS.2.1, hFS.2.2.1, hFS.2.2.2.1, hFS.2.2.2.2.1, hFS.2.2.2.2.2.1, hFS.2.2.2.2.2.2.1, hFS.2.2.2.2.2.2.2⟩
        have hJS25 : J1 S25 := by rw [eS25]; exact (J1s_lows hJ hJu24)
        have hFS25 : F_X1_bound S S25 := hGS25
        have je6 : ((b1g_realBits S25)).toInt = ((b1g_realBits S)).toInt := congrArg (fun z => (z).toInt) hFS25.2.2.2.2.2.2.1
        refine sf_X8_octetTo  (fun r26  => ?_)
        refine sf_X8_front  (fun r28 hr28_0 => ?_)
        refine sf_X0_append (J1g_highs hJS25) (fun u31 hJu31 hfu31 hr30_0 => ?_)
        try simp (disch := first | ((try simp (disch := first | ((try simp only [pn]) <;> omega) | fail) only [pn, pq]) <;> omega) | fail) only [pn, pq] at hr30_0
        intro S32 eS32
        have hGS32 : F_X1_bound S S32 := by
          rw [eS32]
          exact ⟨hFS25.1, hFS25.2.1, hFS25.2.2.1, hFS25.2.2.2.1, hFS25.2.2.2.2.1, hFS25.2.2.2.2.2.1, hFS25.2.2.2.2.2.2.1, hFS25.2.2.2.2.2.2.2⟩
        have hJS32 : J1 S32 := by rw [eS32]; exact (J1s_highs hJS25 hJu31)
        have hFS32 : F_X1_bound S S32 := hGS32
        have je8 : ((b1g_realBits S32)).toInt = ((b1g_realBits S)).toInt := congrArg (fun z => (z).toInt) hFS32.2.2.2.2.2.2.1
        exact hq _ hJS32 hFS32 
      · try simp (disch := first | ((try simp (disch := first | ((try simp only [pn]) <;> omega) | fail) only [pn, pq]) <;> omega) | fail) only [pn, pq] at c22
        unfold wp_X1_bound_105
        refine sf_X0_append (J1g_lows hJ) (fun u34 hJu34 hfu34 hr33_0 => ?_)
        try simp (disch := first | ((try simp (disch := first | ((try simp only [pn]) <;> omega) | fail) only [pn, pq]) <;> omega) | fail) only [pn, pq] at hr33_0
        intro S35 eS35
        have hGS35 : F_X1_bound S S35 := by
          rw [eS35]
          exact ⟨hFS.1, hFS.2.1, hFS.2.2.1, hFS.2.2.2.1, hFS.2.2.2.2.1, hFS.2.2.2.2.2.1, hFS.2.2.2.2.2.2.1, hFS.2.2.2.2.2.2.2⟩
        have hJS35 : J1 S35 := by rw [eS35]; exact (J1s_lows hJ hJu34)
        have hFS35 : F_X1_bound S S35 := hGS35
        have je10 : ((b1g_realBits S35)).toInt = ((b1g_realBits S)).toInt := congrArg (fun z => (z).toInt) hFS35.2.2.2.2.2.2.1
        refine sf_X8_octetTo  (fun r36  => ?_)
        refine sf_X8_front  (fun r38 hr38_0 => ?_)
        refine sf_X0_append (J1g_highs hJS35) (fun u41 hJu41 hfu41 hr40_0 => ?_)
        try simp (disch := first | ((try simp (disch := first | ((try simp only [pn]) <;> omega) | fail) only [pn, pq]) <;> omega) | fail) only [pn, pq] at hr40_0
        intro S42 eS42
        have hGS42 : F_X1_bound S S42 := by
          rw [eS42]
          exact ⟨hFS35.1, hFS35.2.1, hFS35.2.2.1, hFS35.2.2.2.1, hFS35.2.2.2.2.1, hFS35.2.2.2.2.2.1, hFS35.2.2.2.2.2.2.1, hFS35.2.2.2.2.2.2.2⟩
        have hJS42 : J1 S42 := by rw [eS42]; exact (J1s_highs hJS35 hJu41)
        have hFS42 : F_X1_bound S S42 := hGS42
        have je12 : ((b1g_realBits S42)).toInt = ((b1g_realBits S)).toInt := congrArg (fun z => (z).toInt) hFS42.2.2.2.2.2.2.1
        exact hq _ hJS42 hFS42 
    · try simp (disch := first | ((try simp (disch := first | ((try simp only [pn]) <;> omega) | fail) only [pn, pq]) <;> omega) | fail) only [pn, pq] at c16
      unfold wp_X1_bound_34
      refine sf_X0_append (J1g_lows hJ) (fun u44 hJu44 hfu44 hr43_0 => ?_)
      try simp (disch := first | ((try simp (disch := first | ((try simp only [pn]) <;> omega) | fail) only [pn, pq]) <;> omega) | fail) only [pn, pq] at hr43_0
      intro S45 eS45
      have hGS45 : F_X1_bound S S45 := by
        rw [eS45]
        exact ⟨hFS.1, hFS.2.1, hFS.2.2.1, hFS.2.2.2.1, hFS.2.2.2.2.1, hFS.2.2.2.2.2.1, hFS.2.2.2.2.2.2.1, hFS.2.2.2.2.2.2.2⟩
      have hJS45 : J1 S45 := by rw [eS45]; exact (J1s_lows hJ hJu44)
      have hFS45 : F_X1_bound S S45 := hGS45
      have je14 : ((b1g_realBits S45)).toInt = ((b1g_realBits S)).toInt := congrArg (fun z => (z).toInt) hFS45.2.2.2.2.2.2.1
      refine sf_X0_append (J1g_highs hJS45) (fun u47 hJu47 hfu47 hr46_0 => ?_)
      try simp (disch := first | ((try simp (disch := first | ((try simp only [pn]) <;> omega) | fail) only [pn, pq]) <;> omega) | fail) only [pn, pq] at hr46_0
      intro S48 eS48
      have hGS48 : F_X1_bound S S48 := by
        rw [eS48]
        exact ⟨hFS45.1, hFS45.2.1, hFS45.2.2.1, hFS45.2.2.2.1, hFS45.2.2.2.2.1, hFS45.2.2.2.2.2.1, hFS45.2.2.2.2.2.2.1, hFS45.2.2.2.2.2.2.2⟩
      have hJS48 : J1 S48 := by rw [eS48]; exact (J1s_highs hJS45 hJu47)
      have hFS48 : F_X1_bound S S48 := hGS48
      have je16 : ((b1g_realBits S48)).toInt = ((b1g_realBits S)).toInt := congrArg (fun z => (z).toInt) hFS48.2.2.2.2.2.2.1
      exact hq _ hJS48 hFS48 
set_option maxRecDepth 20000 in
set_option maxHeartbeats 1000000 in
theorem sf_X8_octetAt {a0 : Int64} {a2 : Int32} {Q : Int32 → Prop} (hq : ∀ r : Int32, Q r) : wp_X8_octetAt a0 a2 Q := by
  unfold wp_X8_octetAt
  have rga2 := pt_rg a2
  refine ⟨fun c1 => ?_, fun c1 => ?_⟩
  · try simp (disch := first | ((try simp (disch := first | ((try simp only [pn]) <;> omega) | fail) only [pn, pq]) <;> omega) | fail) only [pn, pq] at c1
    unfold wp_X8_octetAt_10
    exact hq _ 
  · try simp (disch := first | ((try simp (disch := first | ((try simp only [pn]) <;> omega) | fail) only [pn, pq]) <;> omega) | fail) only [pn, pq] at c1
    refine ⟨fun c2 => ?_, fun c2 => ?_⟩
    · try simp (disch := first | ((try simp (disch := first | ((try simp only [pn]) <;> omega) | fail) only [pn, pq]) <;> omega) | fail) only [pn, pq] at c2
      exact hq _ 
    · try simp (disch := first | ((try simp (disch := first | ((try simp only [pn]) <;> omega) | fail) only [pn, pq]) <;> omega) | fail) only [pn, pq] at c2
      unfold wp_X8_octetAt_10
      exact hq _ 
set_option maxRecDepth 20000 in
set_option maxHeartbeats 1000000 in
theorem sf_X8_alike {a0 : Int64} {a2 : Int32} {a3 : Int64} {a5 : Int32} {Q : Int32 → Prop} (hq : ∀ r : Int32, Q r) : wp_X8_alike a0 a2 a3 a5 Q := by
  unfold wp_X8_alike
  have rga2 := pt_rg a2
  have rga5 := pt_rg a5
  refine ⟨fun n x0q1 x3q1 x6q1 x7q1 => (x0q1 = a0) ∧ (x3q1 = a3) ∧ (x6q1 = (if a5 < a2 then a5 else a2)) ∧ (0 ≤ (x7q1).toInt) ∧ n = ((x6q1).toInt + 1 - (x7q1).toInt).toNat, ⟨_, rfl, rfl, rfl, (by (try simp (disch := first | ((try simp (disch := first | ((try simp only [pn]) <;> omega) | fail) only [pn, pq]) <;> omega) | fail) only [pn, pq]) <;> (intros; (try simp (disch := first | ((try simp (disch := first | ((try simp only [pn]) <;> omega) | fail) only [pn, pq]) <;> omega) | fail) only [pn, pq]) <;> omega)), rfl⟩, ?_⟩
  rintro n2 x0q1 x3q1 x6q1 x7q1 ⟨hkq1_0, hkq1_1, hkq1_2, hiq1_0, hn2⟩
  subst hkq1_0
  subst hkq1_1
  have hcq1_2 := congrArg Int32.toInt hkq1_2
  try simp (disch := first | ((try simp (disch := first | ((try simp only [pn]) <;> omega) | fail) only [pn, pq]) <;> omega) | fail) only [pn, pq] at hcq1_2
  have rgx6q1 := pt_rg x6q1
  have rgx7q1 := pt_rg x7q1
  unfold wp_X8_alike_11b
  refine ⟨fun c3 => ?_, fun c3 => ?_⟩
  · try simp (disch := first | ((try simp (disch := first | ((try simp only [pn]) <;> omega) | fail) only [pn, pq]) <;> omega) | fail) only [pn, pq] at c3
    exact hq _ 
  · try simp (disch := first | ((try simp (disch := first | ((try simp only [pn]) <;> omega) | fail) only [pn, pq]) <;> omega) | fail) only [pn, pq] at c3
    refine sf_X8_octetAt  (fun r4  => ?_)
    have rgr4 := pt_rg r4
    refine sf_X8_octetAt  (fun r6  => ?_)
    have rgr6 := pt_rg r6
    refine ⟨fun c8 => ?_, fun c8 => ?_⟩
    · try simp (disch := first | ((try simp (disch := first | ((try simp only [pn]) <;> omega) | fail) only [pn, pq]) <;> omega) | fail) only [pn, pq] at c8
      refine ⟨_, ?_, ?_, ?_, ?_, ?_, rfl⟩
      · (try simp (disch := first | ((try simp (disch := first | ((try simp only [pn]) <;> omega) | fail) only [pn, pq]) <;> omega) | fail) only [pn, pq]) <;> (intros; (try simp (disch := first | ((try simp (disch := first | ((try simp only [pn]) <;> omega) | fail) only [pn, pq]) <;> omega) | fail) only [pn, pq]) <;> omega)
      · first | rfl | assumption
      · first | rfl | assumption
      · first | rfl | assumption
      · (try simp (disch := first | ((try simp (disch := first | ((try simp only [pn]) <;> omega) | fail) only [pn, pq]) <;> omega) | fail) only [pn, pq]) <;> (intros; (try simp (disch := first | ((try simp (disch := first | ((try simp only [pn]) <;> omega) | fail) only [pn, pq]) <;> omega) | fail) only [pn, pq]) <;> omega)
    · try simp (disch := first | ((try simp (disch := first | ((try simp only [pn]) <;> omega) | fail) only [pn, pq]) <;> omega) | fail) only [pn, pq] at c8
      exact hq _ 
set_option maxRecDepth 20000 in
set_option maxHeartbeats 1000000 in
theorem sf_X8_mixed {a0 : Int32} {a1 : Int64} {a3 : Int32} {Q : Int32 → Prop} (hq : ∀ r : Int32, Q r) : wp_X8_mixed a0 a1 a3 Q := by
  unfold wp_X8_mixed
  have rga0 := pt_rg a0
  have rga3 := pt_rg a3
  refine ⟨fun n x1q1 x3q1 x4q1 x5q1 => (x1q1 = a1) ∧ (x3q1 = a3) ∧ (0 ≤ (x5q1).toInt) ∧ n = ((x3q1).toInt + 1 - (x5q1).toInt).toNat, ⟨_, rfl, rfl, (by (try simp (disch := first | ((try simp (disch := first | ((try simp only [pn]) <;> omega) | fail) only [pn, pq]) <;> omega) | fail) only [pn, pq]) <;> (intros; (try simp (disch := first | ((try simp (disch := first | ((try simp only [pn]) <;> omega) | fail) only [pn, pq]) <;> omega) | fail) only [pn, pq]) <;> omega)), rfl⟩, ?_⟩
  rintro n2 x1q1 x3q1 x4q1 x5q1 ⟨hkq1_0, hkq1_1, hiq1_0, hn2⟩
  subst hkq1_0
  subst hkq1_1
  have rgx3q1 := pt_rg x3q1
  have rgx4q1 := pt_rg x4q1
  have rgx5q1 := pt_rg x5q1
  unfold wp_X8_mixed_6b
  refine ⟨fun c3 => ?_, fun c3 => ?_⟩
  · try simp (disch := first | ((try simp (disch := first | ((try simp only [pn]) <;> omega) | fail) only [pn, pq]) <;> omega) | fail) only [pn, pq] at c3
    exact hq _ 
  · try simp (disch := first | ((try simp (disch := first | ((try simp only [pn]) <;> omega) | fail) only [pn, pq]) <;> omega) | fail) only [pn, pq] at c3
    refine sf_X8_octetAt  (fun r4  => ?_)
    have rgr4 := pt_rg r4
    intro v6 ev6
    have nv6 := congrArg Int32.toInt ev6
    try simp (disch := first | ((try simp (disch := first | ((try simp only [pn]) <;> omega) | fail) only [pn, pq]) <;> omega) | fail) only [pn, pq] at nv6
    refine ⟨_, ?_, ?_, ?_, ?_, rfl⟩
    · (try simp (disch := first | ((try simp (disch := first | ((try simp only [pn]) <;> omega) | fail) only [pn, pq]) <;> omega) | fail) only [pn, pq]) <;> (intros; (try simp (disch := first | ((try simp (disch := first | ((try simp only [pn]) <;> omega) | fail) only [pn, pq]) <;> omega) | fail) only [pn, pq]) <;> omega)
    · first | rfl | assumption
    · first | rfl | assumption
    · (try simp (disch := first | ((try simp (disch := first | ((try simp only [pn]) <;> omega) | fail) only [pn, pq]) <;> omega) | fail) only [pn, pq]) <;> (intros; (try simp (disch := first | ((try simp (disch := first | ((try simp only [pn]) <;> omega) | fail) only [pn, pq]) <;> omega) | fail) only [pn, pq]) <;> omega)
def F_X1_cut (S u : bT1) : Prop := (b1g_owners u) = (b1g_owners S) ∧ (b1g_lows u) = (b1g_lows S) ∧ (b1g_highs u) = (b1g_highs S) ∧ (b1g_hashBits u) = (b1g_hashBits S) ∧ (b1g_realBits u) = (b1g_realBits S) ∧ (b1g_salt u) = (b1g_salt S)
set_option maxRecDepth 20000 in
set_option maxHeartbeats 1000000 in
theorem sf_X1_cut {S : bT1} (hJ : J1 S) {a1 : Int32} {Q : (bT1) → Prop} (hp0 : 0 ≤ a1.toInt) (hp1 : a1.toInt < 64) (hq : ∀ u : bT1, (J1 u) → F_X1_cut S u → Q u) : wp_X1_cut S a1 Q := by
  unfold wp_X1_cut
  have hFS : F_X1_cut S S := ⟨rfl, rfl, rfl, rfl, rfl, rfl⟩
  have rga1 := pt_rg a1
  refine sf_X0_bytesAt (J1g_owners hJ) (fun r1  => ?_)
  refine sf_X0_lengthAt (J1g_owners hJ) (fun r3  => ?_)
  have rgr3 := pt_rg r3
  refine sf_X0_bytesAt (J1g_owners hJ) (fun r5  => ?_)
  refine sf_X0_lengthAt (J1g_owners hJ) (fun r7  => ?_)
  have rgr7 := pt_rg r7
  refine sf_X8_alike  (fun r9  => ?_)
  have rgr9 := pt_rg r9
  refine sf_X0_bytesAt (J1g_owners hJ) (fun r11  => ?_)
  refine sf_X0_lengthAt (J1g_owners hJ) (fun r13  => ?_)
  have rgr13 := pt_rg r13
  refine sf_X8_alike  (fun r15  => ?_)
  have rgr15 := pt_rg r15
  refine ⟨pt_in (by (try simp (disch := first | ((try simp (disch := first | ((try simp only [pn]) <;> omega) | fail) only [pn, pq]) <;> omega) | fail) only [pn, pq]) <;> (intros; (try simp (disch := first | ((try simp (disch := first | ((try simp only [pn]) <;> omega) | fail) only [pn, pq]) <;> omega) | fail) only [pn, pq]) <;> omega)) (by (try simp (disch := first | ((try simp (disch := first | ((try simp only [pn]) <;> omega) | fail) only [pn, pq]) <;> omega) | fail) only [pn, pq]) <;> (intros; (try simp (disch := first | ((try simp (disch := first | ((try simp only [pn]) <;> omega) | fail) only [pn, pq]) <;> omega) | fail) only [pn, pq]) <;> omega)), ?_⟩
  intro S17 eS17
  have hJS17 : J1 S17 := by rw [eS17]; exact (J1s_commons hJ)
  have hFS17 : F_X1_cut S S17 := by rw [eS17]; exact hFS
  have je2 : ((b1g_salt S17)).toInt = ((b1g_salt S)).toInt := congrArg (fun z => (z).toInt) hFS17.2.2.2.2.2
  intro v18 ev18
  have nv18 := congrArg Int32.toInt ev18
  try simp (disch := first | ((try simp (disch := first | ((try simp only [pn]) <;> omega) | fail) only [pn, pq]) <;> omega) | fail) only [pn, pq] at nv18
  refine ⟨pt_in (by (try simp (disch := first | ((try simp (disch := first | ((try simp only [pn]) <;> omega) | fail) only [pn, pq]) <;> omega) | fail) only [pn, pq]) <;> (intros; (try simp (disch := first | ((try simp (disch := first | ((try simp only [pn]) <;> omega) | fail) only [pn, pq]) <;> omega) | fail) only [pn, pq]) <;> omega)) (by (try simp (disch := first | ((try simp (disch := first | ((try simp only [pn]) <;> omega) | fail) only [pn, pq]) <;> omega) | fail) only [pn, pq]) <;> (intros; (try simp (disch := first | ((try simp (disch := first | ((try simp only [pn]) <;> omega) | fail) only [pn, pq]) <;> omega) | fail) only [pn, pq]) <;> omega)), ?_⟩
  intro S19 eS19
  have hJS19 : J1 S19 := by rw [eS19]; exact (J1s_lengths hJS17)
  have hFS19 : F_X1_cut S S19 := by rw [eS19]; exact hFS17
  have je4 : ((b1g_salt S19)).toInt = ((b1g_salt S)).toInt := congrArg (fun z => (z).toInt) hFS19.2.2.2.2.2
  have ja5 : ((b1g_lengths S19) (a1).toNatClampNeg).toInt = (v18).toInt := by rw [eS19]; exact pt_upds
  try simp (disch := first | ((try simp (disch := first | ((try simp only [pn]) <;> omega) | fail) only [pn, pq]) <;> omega) | fail) only [pn, pq] at ja5
  refine sf_X8_mixed  (fun r20  => ?_)
  have rgr20 := pt_rg r20
  refine ⟨pt_in (by (try simp (disch := first | ((try simp (disch := first | ((try simp only [pn]) <;> omega) | fail) only [pn, pq]) <;> omega) | fail) only [pn, pq]) <;> (intros; (try simp (disch := first | ((try simp (disch := first | ((try simp only [pn]) <;> omega) | fail) only [pn, pq]) <;> omega) | fail) only [pn, pq]) <;> omega)) (by (try simp (disch := first | ((try simp (disch := first | ((try simp only [pn]) <;> omega) | fail) only [pn, pq]) <;> omega) | fail) only [pn, pq]) <;> (intros; (try simp (disch := first | ((try simp (disch := first | ((try simp only [pn]) <;> omega) | fail) only [pn, pq]) <;> omega) | fail) only [pn, pq]) <;> omega)), ?_⟩
  intro S22 eS22
  have hJS22 : J1 S22 := by rw [eS22]; exact (J1s_hashes hJS19)
  have hFS22 : F_X1_cut S S22 := by rw [eS22]; exact hFS19
  have je7 : ((b1g_salt S22)).toInt = ((b1g_salt S)).toInt := congrArg (fun z => (z).toInt) hFS22.2.2.2.2.2
  refine ⟨pt_in (by (try simp (disch := first | ((try simp (disch := first | ((try simp only [pn]) <;> omega) | fail) only [pn, pq]) <;> omega) | fail) only [pn, pq]) <;> (intros; (try simp (disch := first | ((try simp (disch := first | ((try simp only [pn]) <;> omega) | fail) only [pn, pq]) <;> omega) | fail) only [pn, pq]) <;> omega)) (by (try simp (disch := first | ((try simp (disch := first | ((try simp only [pn]) <;> omega) | fail) only [pn, pq]) <;> omega) | fail) only [pn, pq]) <;> (intros; (try simp (disch := first | ((try simp (disch := first | ((try simp only [pn]) <;> omega) | fail) only [pn, pq]) <;> omega) | fail) only [pn, pq]) <;> omega)), ?_⟩
  refine sf_X8_octetAt  (fun r23  => ?_)
  have rgr23 := pt_rg r23
  refine ⟨pt_in (by (try simp (disch := first | ((try simp (disch := first | ((try simp only [pn]) <;> omega) | fail) only [pn, pq]) <;> omega) | fail) only [pn, pq]) <;> (intros; (try simp (disch := first | ((try simp (disch := first | ((try simp only [pn]) <;> omega) | fail) only [pn, pq]) <;> omega) | fail) only [pn, pq]) <;> omega)) (by (try simp (disch := first | ((try simp (disch := first | ((try simp only [pn]) <;> omega) | fail) only [pn, pq]) <;> omega) | fail) only [pn, pq]) <;> (intros; (try simp (disch := first | ((try simp (disch := first | ((try simp only [pn]) <;> omega) | fail) only [pn, pq]) <;> omega) | fail) only [pn, pq]) <;> omega)), ?_⟩
  intro S25 eS25
  have hJS25 : J1 S25 := by rw [eS25]; exact (J1s_nexts hJS22)
  have hFS25 : F_X1_cut S S25 := by rw [eS25]; exact hFS22
  have je10 : ((b1g_salt S25)).toInt = ((b1g_salt S)).toInt := congrArg (fun z => (z).toInt) hFS25.2.2.2.2.2
  exact hq _ hJS25 hFS25 
def F_X1_make (S u : bT1 × bT3) : Prop := u.2 = S.2
set_option maxRecDepth 20000 in
set_option maxHeartbeats 1000000 in
theorem sf_X1_make {S : bT1 × bT3} (hJ : J1 S.1 ∧ J3 S.2) {Q : (bT1 × bT3) → Prop} (hq : ∀ u : bT1 × bT3, (J1 u.1 ∧ J3 u.2) → F_X1_make S u → Q u) : wp_X1_make S Q := by
  unfold wp_X1_make
  have hFS : F_X1_make S S := rfl
  have jf1 := J0g_count (J1g_owners hJ.1)
  refine ⟨fun c1 => ?_, fun c1 => ?_⟩
  · try simp (disch := first | ((try simp (disch := first | ((try simp only [pn]) <;> omega) | fail) only [pn, pq]) <;> omega) | fail) only [pn, pq] at c1
    unfold wp_X1_make_16
    unfold wp_X1_make_21
    refine ⟨fun c2 => ?_, fun c2 => ?_⟩
    · try simp (disch := first | ((try simp (disch := first | ((try simp only [pn]) <;> omega) | fail) only [pn, pq]) <;> omega) | fail) only [pn, pq] at c2
      unfold wp_X1_make_38
      unfold wp_X1_make_43
      refine ⟨fun c3 => ?_, fun c3 => ?_⟩
      · exact absurd c3 (by decide)
      · skip
        refine sf_X8_at (by decide) (fun r4 hr4_0 => ?_)
        have rgr4 := pt_rg r4
        try simp (disch := first | ((try simp (disch := first | ((try simp only [pn]) <;> omega) | fail) only [pn, pq]) <;> omega) | fail) only [pn, pq] at hr4_0
        unfold wp_X1_make_61
        intro S6 eS6
        have hJS6 : J1 S6.1 ∧ J3 S6.2 := by rw [eS6]; exact ⟨(J1s_hashBits hJ.1), hJ.2⟩
        have hFS6 : F_X1_make S S6 := by rw [eS6]; exact hFS
        have je2 : ((b0g_count (b1g_owners S6.1))).toInt = ((b0g_count (b1g_owners S.1))).toInt := by rw [eS6]
        have jf3 := J0g_count (J1g_owners hJS6.1)
        have je5 : ((b3g_mode S6.2)).toInt = ((b3g_mode S.2)).toInt := congrArg (fun z => ((b3g_mode z)).toInt) hFS6
        refine ⟨fun c7 => ?_, fun c7 => ?_⟩
        · exact absurd c7 (by decide)
        · skip
          refine sf_X8_at (by decide) (fun r8 hr8_0 => ?_)
          have rgr8 := pt_rg r8
          try simp (disch := first | ((try simp (disch := first | ((try simp only [pn]) <;> omega) | fail) only [pn, pq]) <;> omega) | fail) only [pn, pq] at hr8_0
          unfold wp_X1_make_81
          intro S10 eS10
          have hJS10 : J1 S10.1 ∧ J3 S10.2 := by rw [eS10]; exact ⟨(J1s_realBits hJS6.1), hJS6.2⟩
          have hFS10 : F_X1_make S S10 := by rw [eS10]; exact hFS6
          have je6 : ((b0g_count (b1g_owners S10.1))).toInt = ((b0g_count (b1g_owners S6.1))).toInt := by rw [eS10]
          have jf7 := J0g_count (J1g_owners hJS10.1)
          have je9 : ((b3g_mode S10.2)).toInt = ((b3g_mode S.2)).toInt := congrArg (fun z => ((b3g_mode z)).toInt) hFS10
          refine sf_X8_at (by decide) (fun r11 hr11_0 => ?_)
          have rgr11 := pt_rg r11
          try simp (disch := first | ((try simp (disch := first | ((try simp only [pn]) <;> omega) | fail) only [pn, pq]) <;> omega) | fail) only [pn, pq] at hr11_0
          intro S13 eS13
          have hJS13 : J1 S13.1 ∧ J3 S13.2 := by rw [eS13]; exact ⟨(J1s_salt hJS10.1), hJS10.2⟩
          have hFS13 : F_X1_make S S13 := by rw [eS13]; exact hFS10
          have je10 : ((b0g_count (b1g_owners S13.1))).toInt = ((b0g_count (b1g_owners S10.1))).toInt := by rw [eS13]
          have jf11 := J0g_count (J1g_owners hJS13.1)
          have je13 : ((b3g_mode S13.2)).toInt = ((b3g_mode S.2)).toInt := congrArg (fun z => ((b3g_mode z)).toInt) hFS13
          refine sf_X0_copyFrom (S := ((b1g_owners S13.1), (b3g_members S13.2))) ⟨(J1g_owners hJS13.1), (J3g_members hJS13.2)⟩ (fun u15 hJu15 hfu15 hr14_0 => ?_)
          try simp (disch := first | ((try simp (disch := first | ((try simp only [pn]) <;> omega) | fail) only [pn, pq]) <;> omega) | fail) only [pn, pq] at hr14_0
          intro S16 eS16
          have hGS16 : F_X1_make S S16 := by
            rw [eS16]
            rw [hfu15]
            exact hFS13
          have hJS16 : J1 S16.1 ∧ J3 S16.2 := by rw [eS16]; exact ⟨(J1s_owners hJS13.1 hJu15.1), (J3s_members hJS13.2 hJu15.2)⟩
          have hFS16 : F_X1_make S S16 := hGS16
          have je14 : ((b0g_count (b1g_owners S16.1))).toInt = ((b0g_count u15.1)).toInt := by rw [eS16]
          try simp (disch := first | ((try simp (disch := first | ((try simp only [pn]) <;> omega) | fail) only [pn, pq]) <;> omega) | fail) only [pn, pq] at je14
          have jf15 := J0g_count (J1g_owners hJS16.1)
          have je17 : ((b3g_mode S16.2)).toInt = ((b3g_mode S.2)).toInt := congrArg (fun z => ((b3g_mode z)).toInt) hFS16
          intro S17 eS17
          have hJS17 : J1 S17.1 ∧ J3 S17.2 := by rw [eS17]; exact ⟨(J1s_lows hJS16.1 (J0s_count (J1g_lows hJS16.1) ⟨(by (try simp (disch := first | ((try simp (disch := first | ((try simp only [pn]) <;> omega) | fail) only [pn, pq]) <;> omega) | fail) only [pn, pq]) <;> (intros; (try simp (disch := first | ((try simp (disch := first | ((try simp only [pn]) <;> omega) | fail) only [pn, pq]) <;> omega) | fail) only [pn, pq]) <;> omega)), (by (try simp (disch := first | ((try simp (disch := first | ((try simp only [pn]) <;> omega) | fail) only [pn, pq]) <;> omega) | fail) only [pn, pq]) <;> (intros; (try simp (disch := first | ((try simp (disch := first | ((try simp only [pn]) <;> omega) | fail) only [pn, pq]) <;> omega) | fail) only [pn, pq]) <;> omega))⟩)), hJS16.2⟩
          have hFS17 : F_X1_make S S17 := by rw [eS17]; exact hFS16
          have je18 : ((b0g_count (b1g_owners S17.1))).toInt = ((b0g_count (b1g_owners S16.1))).toInt := by rw [eS17]
          have jf19 := J0g_count (J1g_owners hJS17.1)
          have je21 : ((b3g_mode S17.2)).toInt = ((b3g_mode S.2)).toInt := congrArg (fun z => ((b3g_mode z)).toInt) hFS17
          intro S18 eS18
          have hJS18 : J1 S18.1 ∧ J3 S18.2 := by rw [eS18]; exact ⟨(J1s_highs hJS17.1 (J0s_count (J1g_highs hJS17.1) ⟨(by (try simp (disch := first | ((try simp (disch := first | ((try simp only [pn]) <;> omega) | fail) only [pn, pq]) <;> omega) | fail) only [pn, pq]) <;> (intros; (try simp (disch := first | ((try simp (disch := first | ((try simp only [pn]) <;> omega) | fail) only [pn, pq]) <;> omega) | fail) only [pn, pq]) <;> omega)), (by (try simp (disch := first | ((try simp (disch := first | ((try simp only [pn]) <;> omega) | fail) only [pn, pq]) <;> omega) | fail) only [pn, pq]) <;> (intros; (try simp (disch := first | ((try simp (disch := first | ((try simp only [pn]) <;> omega) | fail) only [pn, pq]) <;> omega) | fail) only [pn, pq]) <;> omega))⟩)), hJS17.2⟩
          have hFS18 : F_X1_make S S18 := by rw [eS18]; exact hFS17
          have je22 : ((b0g_count (b1g_owners S18.1))).toInt = ((b0g_count (b1g_owners S17.1))).toInt := by rw [eS18]
          have jf23 := J0g_count (J1g_owners hJS18.1)
          have je25 : ((b3g_mode S18.2)).toInt = ((b3g_mode S.2)).toInt := congrArg (fun z => ((b3g_mode z)).toInt) hFS18
          refine ⟨fun n x4q19 Sq19 => (J1 Sq19.1 ∧ J3 Sq19.2) ∧ (F_X1_make S Sq19) ∧ (0 ≤ (x4q19).toInt) ∧ n = (((b0g_count (b1g_owners Sq19.1))).toInt + 1 - (x4q19).toInt).toNat, ⟨_, hJS18, hFS18, (by (try simp (disch := first | ((try simp (disch := first | ((try simp only [pn]) <;> omega) | fail) only [pn, pq]) <;> omega) | fail) only [pn, pq]) <;> (intros; (try simp (disch := first | ((try simp (disch := first | ((try simp only [pn]) <;> omega) | fail) only [pn, pq]) <;> omega) | fail) only [pn, pq]) <;> omega)), rfl⟩, ?_⟩
          rintro n20 x4q19 Sq19 ⟨hJSq19, hFSq19, hiq19_0, hn20⟩
          have rgx4q19 := pt_rg x4q19
          unfold wp_X1_make_126b
          have jf26 := J0g_count (J1g_owners hJSq19.1)
          have je28 : ((b3g_mode Sq19.2)).toInt = ((b3g_mode S.2)).toInt := congrArg (fun z => ((b3g_mode z)).toInt) hFSq19
          refine ⟨fun c21 => ?_, fun c21 => ?_⟩
          · try simp (disch := first | ((try simp (disch := first | ((try simp only [pn]) <;> omega) | fail) only [pn, pq]) <;> omega) | fail) only [pn, pq] at c21
            exact hq _ hJSq19 hFSq19 
          · try simp (disch := first | ((try simp (disch := first | ((try simp only [pn]) <;> omega) | fail) only [pn, pq]) <;> omega) | fail) only [pn, pq] at c21
            refine sf_X1_cut hJSq19.1 (by (try simp (disch := first | ((try simp (disch := first | ((try simp only [pn]) <;> omega) | fail) only [pn, pq]) <;> omega) | fail) only [pn, pq]) <;> (intros; (try simp (disch := first | ((try simp (disch := first | ((try simp only [pn]) <;> omega) | fail) only [pn, pq]) <;> omega) | fail) only [pn, pq]) <;> omega)) (by (try simp (disch := first | ((try simp (disch := first | ((try simp only [pn]) <;> omega) | fail) only [pn, pq]) <;> omega) | fail) only [pn, pq]) <;> (intros; (try simp (disch := first | ((try simp (disch := first | ((try simp only [pn]) <;> omega) | fail) only [pn, pq]) <;> omega) | fail) only [pn, pq]) <;> omega)) (fun u23 hJu23 hfu23  => ?_)
            have je30 : ((b0g_count (b1g_owners u23))).toInt = ((b0g_count (b1g_owners Sq19.1))).toInt := congrArg (fun z => ((b0g_count z)).toInt) hfu23.1
            intro S24 eS24
            have hGS24 : F_X1_make S S24 := by
              rw [eS24]
              exact hFSq19
            have hJS24 : J1 S24.1 ∧ J3 S24.2 := by rw [eS24]; exact ⟨hJu23, hJSq19.2⟩
            have hFS24 : F_X1_make S S24 := hGS24
            have je31 : ((b0g_count (b1g_owners S24.1))).toInt = ((b0g_count (b1g_owners u23))).toInt := by rw [eS24]
            try simp (disch := first | ((try simp (disch := first | ((try simp only [pn]) <;> omega) | fail) only [pn, pq]) <;> omega) | fail) only [pn, pq] at je31
            have jf32 := J0g_count (J1g_owners hJS24.1)
            have je34 : ((b3g_mode S24.2)).toInt = ((b3g_mode S.2)).toInt := congrArg (fun z => ((b3g_mode z)).toInt) hFS24
            refine sf_X1_bound hJS24.1 (fun u26 hJu26 hfu26  => ?_)
            have je36 : ((b0g_count (b1g_owners u26))).toInt = ((b0g_count (b1g_owners S24.1))).toInt := congrArg (fun z => ((b0g_count z)).toInt) hfu26.1
            intro S27 eS27
            have hGS27 : F_X1_make S S27 := by
              rw [eS27]
              exact hFS24
            have hJS27 : J1 S27.1 ∧ J3 S27.2 := by rw [eS27]; exact ⟨hJu26, hJS24.2⟩
            have hFS27 : F_X1_make S S27 := hGS27
            have je37 : ((b0g_count (b1g_owners S27.1))).toInt = ((b0g_count (b1g_owners u26))).toInt := by rw [eS27]
            try simp (disch := first | ((try simp (disch := first | ((try simp only [pn]) <;> omega) | fail) only [pn, pq]) <;> omega) | fail) only [pn, pq] at je37
            have jf38 := J0g_count (J1g_owners hJS27.1)
            have je40 : ((b3g_mode S27.2)).toInt = ((b3g_mode S.2)).toInt := congrArg (fun z => ((b3g_mode z)).toInt) hFS27
            refine ⟨_, ?_, ?_, ?_, ?_, rfl⟩
            · (try simp (disch := first | ((try simp (disch := first | ((try simp only [pn]) <;> omega) | fail) only [pn, pq]) <;> omega) | fail) only [pn, pq]) <;> (intros; (try simp (disch := first | ((try simp (disch := first | ((try simp only [pn]) <;> omega) | fail) only [pn, pq]) <;> omega) | fail) only [pn, pq]) <;> omega)
            · exact hJS27
            · exact hFS27
            · (try simp (disch := first | ((try simp (disch := first | ((try simp only [pn]) <;> omega) | fail) only [pn, pq]) <;> omega) | fail) only [pn, pq]) <;> (intros; (try simp (disch := first | ((try simp (disch := first | ((try simp only [pn]) <;> omega) | fail) only [pn, pq]) <;> omega) | fail) only [pn, pq]) <;> omega)
    · try simp (disch := first | ((try simp (disch := first | ((try simp only [pn]) <;> omega) | fail) only [pn, pq]) <;> omega) | fail) only [pn, pq] at c2
      refine ⟨fun c28 => ?_, fun c28 => ?_⟩
      · try simp (disch := first | ((try simp (disch := first | ((try simp only [pn]) <;> omega) | fail) only [pn, pq]) <;> omega) | fail) only [pn, pq] at c28
        unfold wp_X1_make_43
        refine ⟨fun c29 => ?_, fun c29 => ?_⟩
        · exact absurd c29 (by decide)
        · skip
          refine sf_X8_at (by decide) (fun r30 hr30_0 => ?_)
          have rgr30 := pt_rg r30
          try simp (disch := first | ((try simp (disch := first | ((try simp only [pn]) <;> omega) | fail) only [pn, pq]) <;> omega) | fail) only [pn, pq] at hr30_0
          unfold wp_X1_make_61
          intro S32 eS32
          have hJS32 : J1 S32.1 ∧ J3 S32.2 := by rw [eS32]; exact ⟨(J1s_hashBits hJ.1), hJ.2⟩
          have hFS32 : F_X1_make S S32 := by rw [eS32]; exact hFS
          have je41 : ((b0g_count (b1g_owners S32.1))).toInt = ((b0g_count (b1g_owners S.1))).toInt := by rw [eS32]
          have jf42 := J0g_count (J1g_owners hJS32.1)
          have je44 : ((b3g_mode S32.2)).toInt = ((b3g_mode S.2)).toInt := congrArg (fun z => ((b3g_mode z)).toInt) hFS32
          refine ⟨fun c33 => ?_, fun c33 => ?_⟩
          · skip
            unfold wp_X1_make_81
            intro S34 eS34
            have hJS34 : J1 S34.1 ∧ J3 S34.2 := by rw [eS34]; exact ⟨(J1s_realBits hJS32.1), hJS32.2⟩
            have hFS34 : F_X1_make S S34 := by rw [eS34]; exact hFS32
            have je45 : ((b0g_count (b1g_owners S34.1))).toInt = ((b0g_count (b1g_owners S32.1))).toInt := by rw [eS34]
            have jf46 := J0g_count (J1g_owners hJS34.1)
            have je48 : ((b3g_mode S34.2)).toInt = ((b3g_mode S.2)).toInt := congrArg (fun z => ((b3g_mode z)).toInt) hFS34
            refine sf_X8_at (by decide) (fun r35 hr35_0 => ?_)
            have rgr35 := pt_rg r35
            try simp (disch := first | ((try simp (disch := first | ((try simp only [pn]) <;> omega) | fail) only [pn, pq]) <;> omega) | fail) only [pn, pq] at hr35_0
            intro S37 eS37
            have hJS37 : J1 S37.1 ∧ J3 S37.2 := by rw [eS37]; exact ⟨(J1s_salt hJS34.1), hJS34.2⟩
            have hFS37 : F_X1_make S S37 := by rw [eS37]; exact hFS34
            have je49 : ((b0g_count (b1g_owners S37.1))).toInt = ((b0g_count (b1g_owners S34.1))).toInt := by rw [eS37]
            have jf50 := J0g_count (J1g_owners hJS37.1)
            have je52 : ((b3g_mode S37.2)).toInt = ((b3g_mode S.2)).toInt := congrArg (fun z => ((b3g_mode z)).toInt) hFS37
            refine sf_X0_copyFrom (S := ((b1g_owners S37.1), (b3g_members S37.2))) ⟨(J1g_owners hJS37.1), (J3g_members hJS37.2)⟩ (fun u39 hJu39 hfu39 hr38_0 => ?_)
            try simp (disch := first | ((try simp (disch := first | ((try simp only [pn]) <;> omega) | fail) only [pn, pq]) <;> omega) | fail) only [pn, pq] at hr38_0
            intro S40 eS40
            have hGS40 : F_X1_make S S40 := by
              rw [eS40]
              rw [hfu39]
              exact hFS37
            have hJS40 : J1 S40.1 ∧ J3 S40.2 := by rw [eS40]; exact ⟨(J1s_owners hJS37.1 hJu39.1), (J3s_members hJS37.2 hJu39.2)⟩
            have hFS40 : F_X1_make S S40 := hGS40
            have je53 : ((b0g_count (b1g_owners S40.1))).toInt = ((b0g_count u39.1)).toInt := by rw [eS40]
            try simp (disch := first | ((try simp (disch := first | ((try simp only [pn]) <;> omega) | fail) only [pn, pq]) <;> omega) | fail) only [pn, pq] at je53
            have jf54 := J0g_count (J1g_owners hJS40.1)
            have je56 : ((b3g_mode S40.2)).toInt = ((b3g_mode S.2)).toInt := congrArg (fun z => ((b3g_mode z)).toInt) hFS40
            intro S41 eS41
            have hJS41 : J1 S41.1 ∧ J3 S41.2 := by rw [eS41]; exact ⟨(J1s_lows hJS40.1 (J0s_count (J1g_lows hJS40.1) ⟨(by (try simp (disch := first | ((try simp (disch := first | ((try simp only [pn]) <;> omega) | fail) only [pn, pq]) <;> omega) | fail) only [pn, pq]) <;> (intros; (try simp (disch := first | ((try simp (disch := first | ((try simp only [pn]) <;> omega) | fail) only [pn, pq]) <;> omega) | fail) only [pn, pq]) <;> omega)), (by (try simp (disch := first | ((try simp (disch := first | ((try simp only [pn]) <;> omega) | fail) only [pn, pq]) <;> omega) | fail) only [pn, pq]) <;> (intros; (try simp (disch := first | ((try simp (disch := first | ((try simp only [pn]) <;> omega) | fail) only [pn, pq]) <;> omega) | fail) only [pn, pq]) <;> omega))⟩)), hJS40.2⟩
            have hFS41 : F_X1_make S S41 := by rw [eS41]; exact hFS40
            have je57 : ((b0g_count (b1g_owners S41.1))).toInt = ((b0g_count (b1g_owners S40.1))).toInt := by rw [eS41]
            have jf58 := J0g_count (J1g_owners hJS41.1)
            have je60 : ((b3g_mode S41.2)).toInt = ((b3g_mode S.2)).toInt := congrArg (fun z => ((b3g_mode z)).toInt) hFS41
            intro S42 eS42
            have hJS42 : J1 S42.1 ∧ J3 S42.2 := by rw [eS42]; exact ⟨(J1s_highs hJS41.1 (J0s_count (J1g_highs hJS41.1) ⟨(by (try simp (disch := first | ((try simp (disch := first | ((try simp only [pn]) <;> omega) | fail) only [pn, pq]) <;> omega) | fail) only [pn, pq]) <;> (intros; (try simp (disch := first | ((try simp (disch := first | ((try simp only [pn]) <;> omega) | fail) only [pn, pq]) <;> omega) | fail) only [pn, pq]) <;> omega)), (by (try simp (disch := first | ((try simp (disch := first | ((try simp only [pn]) <;> omega) | fail) only [pn, pq]) <;> omega) | fail) only [pn, pq]) <;> (intros; (try simp (disch := first | ((try simp (disch := first | ((try simp only [pn]) <;> omega) | fail) only [pn, pq]) <;> omega) | fail) only [pn, pq]) <;> omega))⟩)), hJS41.2⟩
            have hFS42 : F_X1_make S S42 := by rw [eS42]; exact hFS41
            have je61 : ((b0g_count (b1g_owners S42.1))).toInt = ((b0g_count (b1g_owners S41.1))).toInt := by rw [eS42]
            have jf62 := J0g_count (J1g_owners hJS42.1)
            have je64 : ((b3g_mode S42.2)).toInt = ((b3g_mode S.2)).toInt := congrArg (fun z => ((b3g_mode z)).toInt) hFS42
            refine ⟨fun n x4q43 Sq43 => (J1 Sq43.1 ∧ J3 Sq43.2) ∧ (F_X1_make S Sq43) ∧ (0 ≤ (x4q43).toInt) ∧ n = (((b0g_count (b1g_owners Sq43.1))).toInt + 1 - (x4q43).toInt).toNat, ⟨_, hJS42, hFS42, (by (try simp (disch := first | ((try simp (disch := first | ((try simp only [pn]) <;> omega) | fail) only [pn, pq]) <;> omega) | fail) only [pn, pq]) <;> (intros; (try simp (disch := first | ((try simp (disch := first | ((try simp only [pn]) <;> omega) | fail) only [pn, pq]) <;> omega) | fail) only [pn, pq]) <;> omega)), rfl⟩, ?_⟩
            rintro n44 x4q43 Sq43 ⟨hJSq43, hFSq43, hiq43_0, hn44⟩
            have rgx4q43 := pt_rg x4q43
            unfold wp_X1_make_126b
            have jf65 := J0g_count (J1g_owners hJSq43.1)
            have je67 : ((b3g_mode Sq43.2)).toInt = ((b3g_mode S.2)).toInt := congrArg (fun z => ((b3g_mode z)).toInt) hFSq43
            refine ⟨fun c45 => ?_, fun c45 => ?_⟩
            · try simp (disch := first | ((try simp (disch := first | ((try simp only [pn]) <;> omega) | fail) only [pn, pq]) <;> omega) | fail) only [pn, pq] at c45
              exact hq _ hJSq43 hFSq43 
            · try simp (disch := first | ((try simp (disch := first | ((try simp only [pn]) <;> omega) | fail) only [pn, pq]) <;> omega) | fail) only [pn, pq] at c45
              refine sf_X1_cut hJSq43.1 (by (try simp (disch := first | ((try simp (disch := first | ((try simp only [pn]) <;> omega) | fail) only [pn, pq]) <;> omega) | fail) only [pn, pq]) <;> (intros; (try simp (disch := first | ((try simp (disch := first | ((try simp only [pn]) <;> omega) | fail) only [pn, pq]) <;> omega) | fail) only [pn, pq]) <;> omega)) (by (try simp (disch := first | ((try simp (disch := first | ((try simp only [pn]) <;> omega) | fail) only [pn, pq]) <;> omega) | fail) only [pn, pq]) <;> (intros; (try simp (disch := first | ((try simp (disch := first | ((try simp only [pn]) <;> omega) | fail) only [pn, pq]) <;> omega) | fail) only [pn, pq]) <;> omega)) (fun u47 hJu47 hfu47  => ?_)
              have je69 : ((b0g_count (b1g_owners u47))).toInt = ((b0g_count (b1g_owners Sq43.1))).toInt := congrArg (fun z => ((b0g_count z)).toInt) hfu47.1
              intro S48 eS48
              have hGS48 : F_X1_make S S48 := by
                rw [eS48]
                exact hFSq43
              have hJS48 : J1 S48.1 ∧ J3 S48.2 := by rw [eS48]; exact ⟨hJu47, hJSq43.2⟩
              have hFS48 : F_X1_make S S48 := hGS48
              have je70 : ((b0g_count (b1g_owners S48.1))).toInt = ((b0g_count (b1g_owners u47))).toInt := by rw [eS48]
              try simp (disch := first | ((try simp (disch := first | ((try simp only [pn]) <;> omega) | fail) only [pn, pq]) <;> omega) | fail) only [pn, pq] at je70
              have jf71 := J0g_count (J1g_owners hJS48.1)
              have je73 : ((b3g_mode S48.2)).toInt = ((b3g_mode S.2)).toInt := congrArg (fun z => ((b3g_mode z)).toInt) hFS48
              refine sf_X1_bound hJS48.1 (fun u50 hJu50 hfu50  => ?_)
              have je75 : ((b0g_count (b1g_owners u50))).toInt = ((b0g_count (b1g_owners S48.1))).toInt := congrArg (fun z => ((b0g_count z)).toInt) hfu50.1
              intro S51 eS51
              have hGS51 : F_X1_make S S51 := by
                rw [eS51]
                exact hFS48
              have hJS51 : J1 S51.1 ∧ J3 S51.2 := by rw [eS51]; exact ⟨hJu50, hJS48.2⟩
              have hFS51 : F_X1_make S S51 := hGS51
              have je76 : ((b0g_count (b1g_owners S51.1))).toInt = ((b0g_count (b1g_owners u50))).toInt := by rw [eS51]
              try simp (disch := first | ((try simp (disch := first | ((try simp only [pn]) <;> omega) | fail) only [pn, pq]) <;> omega) | fail) only [pn, pq] at je76
              have jf77 := J0g_count (J1g_owners hJS51.1)
              have je79 : ((b3g_mode S51.2)).toInt = ((b3g_mode S.2)).toInt := congrArg (fun z => ((b3g_mode z)).toInt) hFS51
              refine ⟨_, ?_, ?_, ?_, ?_, rfl⟩
              · (try simp (disch := first | ((try simp (disch := first | ((try simp only [pn]) <;> omega) | fail) only [pn, pq]) <;> omega) | fail) only [pn, pq]) <;> (intros; (try simp (disch := first | ((try simp (disch := first | ((try simp only [pn]) <;> omega) | fail) only [pn, pq]) <;> omega) | fail) only [pn, pq]) <;> omega)
              · exact hJS51
              · exact hFS51
              · (try simp (disch := first | ((try simp (disch := first | ((try simp only [pn]) <;> omega) | fail) only [pn, pq]) <;> omega) | fail) only [pn, pq]) <;> (intros; (try simp (disch := first | ((try simp (disch := first | ((try simp only [pn]) <;> omega) | fail) only [pn, pq]) <;> omega) | fail) only [pn, pq]) <;> omega)
          · exact absurd c33 (by decide)
      · try simp (disch := first | ((try simp (disch := first | ((try simp only [pn]) <;> omega) | fail) only [pn, pq]) <;> omega) | fail) only [pn, pq] at c28
        unfold wp_X1_make_38
        unfold wp_X1_make_43
        refine ⟨fun c52 => ?_, fun c52 => ?_⟩
        · exact absurd c52 (by decide)
        · skip
          refine sf_X8_at (by decide) (fun r53 hr53_0 => ?_)
          have rgr53 := pt_rg r53
          try simp (disch := first | ((try simp (disch := first | ((try simp only [pn]) <;> omega) | fail) only [pn, pq]) <;> omega) | fail) only [pn, pq] at hr53_0
          unfold wp_X1_make_61
          intro S55 eS55
          have hJS55 : J1 S55.1 ∧ J3 S55.2 := by rw [eS55]; exact ⟨(J1s_hashBits hJ.1), hJ.2⟩
          have hFS55 : F_X1_make S S55 := by rw [eS55]; exact hFS
          have je80 : ((b0g_count (b1g_owners S55.1))).toInt = ((b0g_count (b1g_owners S.1))).toInt := by rw [eS55]
          have jf81 := J0g_count (J1g_owners hJS55.1)
          have je83 : ((b3g_mode S55.2)).toInt = ((b3g_mode S.2)).toInt := congrArg (fun z => ((b3g_mode z)).toInt) hFS55
          refine ⟨fun c56 => ?_, fun c56 => ?_⟩
          · exact absurd c56 (by decide)
          · skip
            refine sf_X8_at (by decide) (fun r57 hr57_0 => ?_)
            have rgr57 := pt_rg r57
            try simp (disch := first | ((try simp (disch := first | ((try simp only [pn]) <;> omega) | fail) only [pn, pq]) <;> omega) | fail) only [pn, pq] at hr57_0
            unfold wp_X1_make_81
            intro S59 eS59
            have hJS59 : J1 S59.1 ∧ J3 S59.2 := by rw [eS59]; exact ⟨(J1s_realBits hJS55.1), hJS55.2⟩
            have hFS59 : F_X1_make S S59 := by rw [eS59]; exact hFS55
            have je84 : ((b0g_count (b1g_owners S59.1))).toInt = ((b0g_count (b1g_owners S55.1))).toInt := by rw [eS59]
            have jf85 := J0g_count (J1g_owners hJS59.1)
            have je87 : ((b3g_mode S59.2)).toInt = ((b3g_mode S.2)).toInt := congrArg (fun z => ((b3g_mode z)).toInt) hFS59
            refine sf_X8_at (by decide) (fun r60 hr60_0 => ?_)
            have rgr60 := pt_rg r60
            try simp (disch := first | ((try simp (disch := first | ((try simp only [pn]) <;> omega) | fail) only [pn, pq]) <;> omega) | fail) only [pn, pq] at hr60_0
            intro S62 eS62
            have hJS62 : J1 S62.1 ∧ J3 S62.2 := by rw [eS62]; exact ⟨(J1s_salt hJS59.1), hJS59.2⟩
            have hFS62 : F_X1_make S S62 := by rw [eS62]; exact hFS59
            have je88 : ((b0g_count (b1g_owners S62.1))).toInt = ((b0g_count (b1g_owners S59.1))).toInt := by rw [eS62]
            have jf89 := J0g_count (J1g_owners hJS62.1)
            have je91 : ((b3g_mode S62.2)).toInt = ((b3g_mode S.2)).toInt := congrArg (fun z => ((b3g_mode z)).toInt) hFS62
            refine sf_X0_copyFrom (S := ((b1g_owners S62.1), (b3g_members S62.2))) ⟨(J1g_owners hJS62.1), (J3g_members hJS62.2)⟩ (fun u64 hJu64 hfu64 hr63_0 => ?_)
            try simp (disch := first | ((try simp (disch := first | ((try simp only [pn]) <;> omega) | fail) only [pn, pq]) <;> omega) | fail) only [pn, pq] at hr63_0
            intro S65 eS65
            have hGS65 : F_X1_make S S65 := by
              rw [eS65]
              rw [hfu64]
              exact hFS62
            have hJS65 : J1 S65.1 ∧ J3 S65.2 := by rw [eS65]; exact ⟨(J1s_owners hJS62.1 hJu64.1), (J3s_members hJS62.2 hJu64.2)⟩
            have hFS65 : F_X1_make S S65 := hGS65
            have je92 : ((b0g_count (b1g_owners S65.1))).toInt = ((b0g_count u64.1)).toInt := by rw [eS65]
            try simp (disch := first | ((try simp (disch := first | ((try simp only [pn]) <;> omega) | fail) only [pn, pq]) <;> omega) | fail) only [pn, pq] at je92
            have jf93 := J0g_count (J1g_owners hJS65.1)
            have je95 : ((b3g_mode S65.2)).toInt = ((b3g_mode S.2)).toInt := congrArg (fun z => ((b3g_mode z)).toInt) hFS65
            intro S66 eS66
            have hJS66 : J1 S66.1 ∧ J3 S66.2 := by rw [eS66]; exact ⟨(J1s_lows hJS65.1 (J0s_count (J1g_lows hJS65.1) ⟨(by (try simp (disch := first | ((try simp (disch := first | ((try simp only [pn]) <;> omega) | fail) only [pn, pq]) <;> omega) | fail) only [pn, pq]) <;> (intros; (try simp (disch := first | ((try simp (disch := first | ((try simp only [pn]) <;> omega) | fail) only [pn, pq]) <;> omega) | fail) only [pn, pq]) <;> omega)), (by (try simp (disch := first | ((try simp (disch := first | ((try simp only [pn]) <;> omega) | fail) only [pn, pq]) <;> omega) | fail) only [pn, pq]) <;> (intros; (try simp (disch := first | ((try simp (disch := first | ((try simp only [pn]) <;> omega) | fail) only [pn, pq]) <;> omega) | fail) only [pn, pq]) <;> omega))⟩)), hJS65.2⟩
            have hFS66 : F_X1_make S S66 := by rw [eS66]; exact hFS65
            have je96 : ((b0g_count (b1g_owners S66.1))).toInt = ((b0g_count (b1g_owners S65.1))).toInt := by rw [eS66]
            have jf97 := J0g_count (J1g_owners hJS66.1)
            have je99 : ((b3g_mode S66.2)).toInt = ((b3g_mode S.2)).toInt := congrArg (fun z => ((b3g_mode z)).toInt) hFS66
            intro S67 eS67
            have hJS67 : J1 S67.1 ∧ J3 S67.2 := by rw [eS67]; exact ⟨(J1s_highs hJS66.1 (J0s_count (J1g_highs hJS66.1) ⟨(by (try simp (disch := first | ((try simp (disch := first | ((try simp only [pn]) <;> omega) | fail) only [pn, pq]) <;> omega) | fail) only [pn, pq]) <;> (intros; (try simp (disch := first | ((try simp (disch := first | ((try simp only [pn]) <;> omega) | fail) only [pn, pq]) <;> omega) | fail) only [pn, pq]) <;> omega)), (by (try simp (disch := first | ((try simp (disch := first | ((try simp only [pn]) <;> omega) | fail) only [pn, pq]) <;> omega) | fail) only [pn, pq]) <;> (intros; (try simp (disch := first | ((try simp (disch := first | ((try simp only [pn]) <;> omega) | fail) only [pn, pq]) <;> omega) | fail) only [pn, pq]) <;> omega))⟩)), hJS66.2⟩
            have hFS67 : F_X1_make S S67 := by rw [eS67]; exact hFS66
            have je100 : ((b0g_count (b1g_owners S67.1))).toInt = ((b0g_count (b1g_owners S66.1))).toInt := by rw [eS67]
            have jf101 := J0g_count (J1g_owners hJS67.1)
            have je103 : ((b3g_mode S67.2)).toInt = ((b3g_mode S.2)).toInt := congrArg (fun z => ((b3g_mode z)).toInt) hFS67
            refine ⟨fun n x4q68 Sq68 => (J1 Sq68.1 ∧ J3 Sq68.2) ∧ (F_X1_make S Sq68) ∧ (0 ≤ (x4q68).toInt) ∧ n = (((b0g_count (b1g_owners Sq68.1))).toInt + 1 - (x4q68).toInt).toNat, ⟨_, hJS67, hFS67, (by (try simp (disch := first | ((try simp (disch := first | ((try simp only [pn]) <;> omega) | fail) only [pn, pq]) <;> omega) | fail) only [pn, pq]) <;> (intros; (try simp (disch := first | ((try simp (disch := first | ((try simp only [pn]) <;> omega) | fail) only [pn, pq]) <;> omega) | fail) only [pn, pq]) <;> omega)), rfl⟩, ?_⟩
            rintro n69 x4q68 Sq68 ⟨hJSq68, hFSq68, hiq68_0, hn69⟩
            have rgx4q68 := pt_rg x4q68
            unfold wp_X1_make_126b
            have jf104 := J0g_count (J1g_owners hJSq68.1)
            have je106 : ((b3g_mode Sq68.2)).toInt = ((b3g_mode S.2)).toInt := congrArg (fun z => ((b3g_mode z)).toInt) hFSq68
            refine ⟨fun c70 => ?_, fun c70 => ?_⟩
            · try simp (disch := first | ((try simp (disch := first | ((try simp only [pn]) <;> omega) | fail) only [pn, pq]) <;> omega) | fail) only [pn, pq] at c70
              exact hq _ hJSq68 hFSq68 
            · try simp (disch := first | ((try simp (disch := first | ((try simp only [pn]) <;> omega) | fail) only [pn, pq]) <;> omega) | fail) only [pn, pq] at c70
              refine sf_X1_cut hJSq68.1 (by (try simp (disch := first | ((try simp (disch := first | ((try simp only [pn]) <;> omega) | fail) only [pn, pq]) <;> omega) | fail) only [pn, pq]) <;> (intros; (try simp (disch := first | ((try simp (disch := first | ((try simp only [pn]) <;> omega) | fail) only [pn, pq]) <;> omega) | fail) only [pn, pq]) <;> omega)) (by (try simp (disch := first | ((try simp (disch := first | ((try simp only [pn]) <;> omega) | fail) only [pn, pq]) <;> omega) | fail) only [pn, pq]) <;> (intros; (try simp (disch := first | ((try simp (disch := first | ((try simp only [pn]) <;> omega) | fail) only [pn, pq]) <;> omega) | fail) only [pn, pq]) <;> omega)) (fun u72 hJu72 hfu72  => ?_)
              have je108 : ((b0g_count (b1g_owners u72))).toInt = ((b0g_count (b1g_owners Sq68.1))).toInt := congrArg (fun z => ((b0g_count z)).toInt) hfu72.1
              intro S73 eS73
              have hGS73 : F_X1_make S S73 := by
                rw [eS73]
                exact hFSq68
              have hJS73 : J1 S73.1 ∧ J3 S73.2 := by rw [eS73]; exact ⟨hJu72, hJSq68.2⟩
              have hFS73 : F_X1_make S S73 := hGS73
              have je109 : ((b0g_count (b1g_owners S73.1))).toInt = ((b0g_count (b1g_owners u72))).toInt := by rw [eS73]
              try simp (disch := first | ((try simp (disch := first | ((try simp only [pn]) <;> omega) | fail) only [pn, pq]) <;> omega) | fail) only [pn, pq] at je109
              have jf110 := J0g_count (J1g_owners hJS73.1)
              have je112 : ((b3g_mode S73.2)).toInt = ((b3g_mode S.2)).toInt := congrArg (fun z => ((b3g_mode z)).toInt) hFS73
              refine sf_X1_bound hJS73.1 (fun u75 hJu75 hfu75  => ?_)
              have je114 : ((b0g_count (b1g_owners u75))).toInt = ((b0g_count (b1g_owners S73.1))).toInt := congrArg (fun z => ((b0g_count z)).toInt) hfu75.1
              intro S76 eS76
              have hGS76 : F_X1_make S S76 := by
                rw [eS76]
                exact hFS73
              have hJS76 : J1 S76.1 ∧ J3 S76.2 := by rw [eS76]; exact ⟨hJu75, hJS73.2⟩
              have hFS76 : F_X1_make S S76 := hGS76
              have je115 : ((b0g_count (b1g_owners S76.1))).toInt = ((b0g_count (b1g_owners u75))).toInt := by rw [eS76]
              try simp (disch := first | ((try simp (disch := first | ((try simp only [pn]) <;> omega) | fail) only [pn, pq]) <;> omega) | fail) only [pn, pq] at je115
              have jf116 := J0g_count (J1g_owners hJS76.1)
              have je118 : ((b3g_mode S76.2)).toInt = ((b3g_mode S.2)).toInt := congrArg (fun z => ((b3g_mode z)).toInt) hFS76
              refine ⟨_, ?_, ?_, ?_, ?_, rfl⟩
              · (try simp (disch := first | ((try simp (disch := first | ((try simp only [pn]) <;> omega) | fail) only [pn, pq]) <;> omega) | fail) only [pn, pq]) <;> (intros; (try simp (disch := first | ((try simp (disch := first | ((try simp only [pn]) <;> omega) | fail) only [pn, pq]) <;> omega) | fail) only [pn, pq]) <;> omega)
              · exact hJS76
              · exact hFS76
              · (try simp (disch := first | ((try simp (disch := first | ((try simp only [pn]) <;> omega) | fail) only [pn, pq]) <;> omega) | fail) only [pn, pq]) <;> (intros; (try simp (disch := first | ((try simp (disch := first | ((try simp only [pn]) <;> omega) | fail) only [pn, pq]) <;> omega) | fail) only [pn, pq]) <;> omega)
  · try simp (disch := first | ((try simp (disch := first | ((try simp only [pn]) <;> omega) | fail) only [pn, pq]) <;> omega) | fail) only [pn, pq] at c1
    refine ⟨fun c77 => ?_, fun c77 => ?_⟩
    · try simp (disch := first | ((try simp (disch := first | ((try simp only [pn]) <;> omega) | fail) only [pn, pq]) <;> omega) | fail) only [pn, pq] at c77
      unfold wp_X1_make_21
      refine ⟨fun c78 => ?_, fun c78 => ?_⟩
      · try simp (disch := first | ((try simp (disch := first | ((try simp only [pn]) <;> omega) | fail) only [pn, pq]) <;> omega) | fail) only [pn, pq] at c78
        unfold wp_X1_make_38
        unfold wp_X1_make_43
        refine ⟨fun c79 => ?_, fun c79 => ?_⟩
        · skip
          unfold wp_X1_make_61
          intro S80 eS80
          have hJS80 : J1 S80.1 ∧ J3 S80.2 := by rw [eS80]; exact ⟨(J1s_hashBits hJ.1), hJ.2⟩
          have hFS80 : F_X1_make S S80 := by rw [eS80]; exact hFS
          have je119 : ((b0g_count (b1g_owners S80.1))).toInt = ((b0g_count (b1g_owners S.1))).toInt := by rw [eS80]
          have jf120 := J0g_count (J1g_owners hJS80.1)
          have je122 : ((b3g_mode S80.2)).toInt = ((b3g_mode S.2)).toInt := congrArg (fun z => ((b3g_mode z)).toInt) hFS80
          refine ⟨fun c81 => ?_, fun c81 => ?_⟩
          · exact absurd c81 (by decide)
          · skip
            refine sf_X8_at (by decide) (fun r82 hr82_0 => ?_)
            have rgr82 := pt_rg r82
            try simp (disch := first | ((try simp (disch := first | ((try simp only [pn]) <;> omega) | fail) only [pn, pq]) <;> omega) | fail) only [pn, pq] at hr82_0
            unfold wp_X1_make_81
            intro S84 eS84
            have hJS84 : J1 S84.1 ∧ J3 S84.2 := by rw [eS84]; exact ⟨(J1s_realBits hJS80.1), hJS80.2⟩
            have hFS84 : F_X1_make S S84 := by rw [eS84]; exact hFS80
            have je123 : ((b0g_count (b1g_owners S84.1))).toInt = ((b0g_count (b1g_owners S80.1))).toInt := by rw [eS84]
            have jf124 := J0g_count (J1g_owners hJS84.1)
            have je126 : ((b3g_mode S84.2)).toInt = ((b3g_mode S.2)).toInt := congrArg (fun z => ((b3g_mode z)).toInt) hFS84
            refine sf_X8_at (by decide) (fun r85 hr85_0 => ?_)
            have rgr85 := pt_rg r85
            try simp (disch := first | ((try simp (disch := first | ((try simp only [pn]) <;> omega) | fail) only [pn, pq]) <;> omega) | fail) only [pn, pq] at hr85_0
            intro S87 eS87
            have hJS87 : J1 S87.1 ∧ J3 S87.2 := by rw [eS87]; exact ⟨(J1s_salt hJS84.1), hJS84.2⟩
            have hFS87 : F_X1_make S S87 := by rw [eS87]; exact hFS84
            have je127 : ((b0g_count (b1g_owners S87.1))).toInt = ((b0g_count (b1g_owners S84.1))).toInt := by rw [eS87]
            have jf128 := J0g_count (J1g_owners hJS87.1)
            have je130 : ((b3g_mode S87.2)).toInt = ((b3g_mode S.2)).toInt := congrArg (fun z => ((b3g_mode z)).toInt) hFS87
            refine sf_X0_copyFrom (S := ((b1g_owners S87.1), (b3g_members S87.2))) ⟨(J1g_owners hJS87.1), (J3g_members hJS87.2)⟩ (fun u89 hJu89 hfu89 hr88_0 => ?_)
            try simp (disch := first | ((try simp (disch := first | ((try simp only [pn]) <;> omega) | fail) only [pn, pq]) <;> omega) | fail) only [pn, pq] at hr88_0
            intro S90 eS90
            have hGS90 : F_X1_make S S90 := by
              rw [eS90]
              rw [hfu89]
              exact hFS87
            have hJS90 : J1 S90.1 ∧ J3 S90.2 := by rw [eS90]; exact ⟨(J1s_owners hJS87.1 hJu89.1), (J3s_members hJS87.2 hJu89.2)⟩
            have hFS90 : F_X1_make S S90 := hGS90
            have je131 : ((b0g_count (b1g_owners S90.1))).toInt = ((b0g_count u89.1)).toInt := by rw [eS90]
            try simp (disch := first | ((try simp (disch := first | ((try simp only [pn]) <;> omega) | fail) only [pn, pq]) <;> omega) | fail) only [pn, pq] at je131
            have jf132 := J0g_count (J1g_owners hJS90.1)
            have je134 : ((b3g_mode S90.2)).toInt = ((b3g_mode S.2)).toInt := congrArg (fun z => ((b3g_mode z)).toInt) hFS90
            intro S91 eS91
            have hJS91 : J1 S91.1 ∧ J3 S91.2 := by rw [eS91]; exact ⟨(J1s_lows hJS90.1 (J0s_count (J1g_lows hJS90.1) ⟨(by (try simp (disch := first | ((try simp (disch := first | ((try simp only [pn]) <;> omega) | fail) only [pn, pq]) <;> omega) | fail) only [pn, pq]) <;> (intros; (try simp (disch := first | ((try simp (disch := first | ((try simp only [pn]) <;> omega) | fail) only [pn, pq]) <;> omega) | fail) only [pn, pq]) <;> omega)), (by (try simp (disch := first | ((try simp (disch := first | ((try simp only [pn]) <;> omega) | fail) only [pn, pq]) <;> omega) | fail) only [pn, pq]) <;> (intros; (try simp (disch := first | ((try simp (disch := first | ((try simp only [pn]) <;> omega) | fail) only [pn, pq]) <;> omega) | fail) only [pn, pq]) <;> omega))⟩)), hJS90.2⟩
            have hFS91 : F_X1_make S S91 := by rw [eS91]; exact hFS90
            have je135 : ((b0g_count (b1g_owners S91.1))).toInt = ((b0g_count (b1g_owners S90.1))).toInt := by rw [eS91]
            have jf136 := J0g_count (J1g_owners hJS91.1)
            have je138 : ((b3g_mode S91.2)).toInt = ((b3g_mode S.2)).toInt := congrArg (fun z => ((b3g_mode z)).toInt) hFS91
            intro S92 eS92
            have hJS92 : J1 S92.1 ∧ J3 S92.2 := by rw [eS92]; exact ⟨(J1s_highs hJS91.1 (J0s_count (J1g_highs hJS91.1) ⟨(by (try simp (disch := first | ((try simp (disch := first | ((try simp only [pn]) <;> omega) | fail) only [pn, pq]) <;> omega) | fail) only [pn, pq]) <;> (intros; (try simp (disch := first | ((try simp (disch := first | ((try simp only [pn]) <;> omega) | fail) only [pn, pq]) <;> omega) | fail) only [pn, pq]) <;> omega)), (by (try simp (disch := first | ((try simp (disch := first | ((try simp only [pn]) <;> omega) | fail) only [pn, pq]) <;> omega) | fail) only [pn, pq]) <;> (intros; (try simp (disch := first | ((try simp (disch := first | ((try simp only [pn]) <;> omega) | fail) only [pn, pq]) <;> omega) | fail) only [pn, pq]) <;> omega))⟩)), hJS91.2⟩
            have hFS92 : F_X1_make S S92 := by rw [eS92]; exact hFS91
            have je139 : ((b0g_count (b1g_owners S92.1))).toInt = ((b0g_count (b1g_owners S91.1))).toInt := by rw [eS92]
            have jf140 := J0g_count (J1g_owners hJS92.1)
            have je142 : ((b3g_mode S92.2)).toInt = ((b3g_mode S.2)).toInt := congrArg (fun z => ((b3g_mode z)).toInt) hFS92
            refine ⟨fun n x4q93 Sq93 => (J1 Sq93.1 ∧ J3 Sq93.2) ∧ (F_X1_make S Sq93) ∧ (0 ≤ (x4q93).toInt) ∧ n = (((b0g_count (b1g_owners Sq93.1))).toInt + 1 - (x4q93).toInt).toNat, ⟨_, hJS92, hFS92, (by (try simp (disch := first | ((try simp (disch := first | ((try simp only [pn]) <;> omega) | fail) only [pn, pq]) <;> omega) | fail) only [pn, pq]) <;> (intros; (try simp (disch := first | ((try simp (disch := first | ((try simp only [pn]) <;> omega) | fail) only [pn, pq]) <;> omega) | fail) only [pn, pq]) <;> omega)), rfl⟩, ?_⟩
            rintro n94 x4q93 Sq93 ⟨hJSq93, hFSq93, hiq93_0, hn94⟩
            have rgx4q93 := pt_rg x4q93
            unfold wp_X1_make_126b
            have jf143 := J0g_count (J1g_owners hJSq93.1)
            have je145 : ((b3g_mode Sq93.2)).toInt = ((b3g_mode S.2)).toInt := congrArg (fun z => ((b3g_mode z)).toInt) hFSq93
            refine ⟨fun c95 => ?_, fun c95 => ?_⟩
            · try simp (disch := first | ((try simp (disch := first | ((try simp only [pn]) <;> omega) | fail) only [pn, pq]) <;> omega) | fail) only [pn, pq] at c95
              exact hq _ hJSq93 hFSq93 
            · try simp (disch := first | ((try simp (disch := first | ((try simp only [pn]) <;> omega) | fail) only [pn, pq]) <;> omega) | fail) only [pn, pq] at c95
              refine sf_X1_cut hJSq93.1 (by (try simp (disch := first | ((try simp (disch := first | ((try simp only [pn]) <;> omega) | fail) only [pn, pq]) <;> omega) | fail) only [pn, pq]) <;> (intros; (try simp (disch := first | ((try simp (disch := first | ((try simp only [pn]) <;> omega) | fail) only [pn, pq]) <;> omega) | fail) only [pn, pq]) <;> omega)) (by (try simp (disch := first | ((try simp (disch := first | ((try simp only [pn]) <;> omega) | fail) only [pn, pq]) <;> omega) | fail) only [pn, pq]) <;> (intros; (try simp (disch := first | ((try simp (disch := first | ((try simp only [pn]) <;> omega) | fail) only [pn, pq]) <;> omega) | fail) only [pn, pq]) <;> omega)) (fun u97 hJu97 hfu97  => ?_)
              have je147 : ((b0g_count (b1g_owners u97))).toInt = ((b0g_count (b1g_owners Sq93.1))).toInt := congrArg (fun z => ((b0g_count z)).toInt) hfu97.1
              intro S98 eS98
              have hGS98 : F_X1_make S S98 := by
                rw [eS98]
                exact hFSq93
              have hJS98 : J1 S98.1 ∧ J3 S98.2 := by rw [eS98]; exact ⟨hJu97, hJSq93.2⟩
              have hFS98 : F_X1_make S S98 := hGS98
              have je148 : ((b0g_count (b1g_owners S98.1))).toInt = ((b0g_count (b1g_owners u97))).toInt := by rw [eS98]
              try simp (disch := first | ((try simp (disch := first | ((try simp only [pn]) <;> omega) | fail) only [pn, pq]) <;> omega) | fail) only [pn, pq] at je148
              have jf149 := J0g_count (J1g_owners hJS98.1)
              have je151 : ((b3g_mode S98.2)).toInt = ((b3g_mode S.2)).toInt := congrArg (fun z => ((b3g_mode z)).toInt) hFS98
              refine sf_X1_bound hJS98.1 (fun u100 hJu100 hfu100  => ?_)
              have je153 : ((b0g_count (b1g_owners u100))).toInt = ((b0g_count (b1g_owners S98.1))).toInt := congrArg (fun z => ((b0g_count z)).toInt) hfu100.1
              intro S101 eS101
              have hGS101 : F_X1_make S S101 := by
                rw [eS101]
                exact hFS98
              have hJS101 : J1 S101.1 ∧ J3 S101.2 := by rw [eS101]; exact ⟨hJu100, hJS98.2⟩
              have hFS101 : F_X1_make S S101 := hGS101
              have je154 : ((b0g_count (b1g_owners S101.1))).toInt = ((b0g_count (b1g_owners u100))).toInt := by rw [eS101]
              try simp (disch := first | ((try simp (disch := first | ((try simp only [pn]) <;> omega) | fail) only [pn, pq]) <;> omega) | fail) only [pn, pq] at je154
              have jf155 := J0g_count (J1g_owners hJS101.1)
              have je157 : ((b3g_mode S101.2)).toInt = ((b3g_mode S.2)).toInt := congrArg (fun z => ((b3g_mode z)).toInt) hFS101
              refine ⟨_, ?_, ?_, ?_, ?_, rfl⟩
              · (try simp (disch := first | ((try simp (disch := first | ((try simp only [pn]) <;> omega) | fail) only [pn, pq]) <;> omega) | fail) only [pn, pq]) <;> (intros; (try simp (disch := first | ((try simp (disch := first | ((try simp only [pn]) <;> omega) | fail) only [pn, pq]) <;> omega) | fail) only [pn, pq]) <;> omega)
              · exact hJS101
              · exact hFS101
              · (try simp (disch := first | ((try simp (disch := first | ((try simp only [pn]) <;> omega) | fail) only [pn, pq]) <;> omega) | fail) only [pn, pq]) <;> (intros; (try simp (disch := first | ((try simp (disch := first | ((try simp only [pn]) <;> omega) | fail) only [pn, pq]) <;> omega) | fail) only [pn, pq]) <;> omega)
        · exact absurd c79 (by decide)
      · try simp (disch := first | ((try simp (disch := first | ((try simp only [pn]) <;> omega) | fail) only [pn, pq]) <;> omega) | fail) only [pn, pq] at c78
        refine ⟨fun c102 => ?_, fun c102 => ?_⟩
        · try simp (disch := first | ((try simp (disch := first | ((try simp only [pn]) <;> omega) | fail) only [pn, pq]) <;> omega) | fail) only [pn, pq] at c102
          unfold wp_X1_make_43
          refine ⟨fun c103 => ?_, fun c103 => ?_⟩
          · skip
            unfold wp_X1_make_61
            intro S104 eS104
            have hJS104 : J1 S104.1 ∧ J3 S104.2 := by rw [eS104]; exact ⟨(J1s_hashBits hJ.1), hJ.2⟩
            have hFS104 : F_X1_make S S104 := by rw [eS104]; exact hFS
            have je158 : ((b0g_count (b1g_owners S104.1))).toInt = ((b0g_count (b1g_owners S.1))).toInt := by rw [eS104]
            have jf159 := J0g_count (J1g_owners hJS104.1)
            have je161 : ((b3g_mode S104.2)).toInt = ((b3g_mode S.2)).toInt := congrArg (fun z => ((b3g_mode z)).toInt) hFS104
            refine ⟨fun c105 => ?_, fun c105 => ?_⟩
            · skip
              unfold wp_X1_make_81
              intro S106 eS106
              have hJS106 : J1 S106.1 ∧ J3 S106.2 := by rw [eS106]; exact ⟨(J1s_realBits hJS104.1), hJS104.2⟩
              have hFS106 : F_X1_make S S106 := by rw [eS106]; exact hFS104
              have je162 : ((b0g_count (b1g_owners S106.1))).toInt = ((b0g_count (b1g_owners S104.1))).toInt := by rw [eS106]
              have jf163 := J0g_count (J1g_owners hJS106.1)
              have je165 : ((b3g_mode S106.2)).toInt = ((b3g_mode S.2)).toInt := congrArg (fun z => ((b3g_mode z)).toInt) hFS106
              refine sf_X8_at (by decide) (fun r107 hr107_0 => ?_)
              have rgr107 := pt_rg r107
              try simp (disch := first | ((try simp (disch := first | ((try simp only [pn]) <;> omega) | fail) only [pn, pq]) <;> omega) | fail) only [pn, pq] at hr107_0
              intro S109 eS109
              have hJS109 : J1 S109.1 ∧ J3 S109.2 := by rw [eS109]; exact ⟨(J1s_salt hJS106.1), hJS106.2⟩
              have hFS109 : F_X1_make S S109 := by rw [eS109]; exact hFS106
              have je166 : ((b0g_count (b1g_owners S109.1))).toInt = ((b0g_count (b1g_owners S106.1))).toInt := by rw [eS109]
              have jf167 := J0g_count (J1g_owners hJS109.1)
              have je169 : ((b3g_mode S109.2)).toInt = ((b3g_mode S.2)).toInt := congrArg (fun z => ((b3g_mode z)).toInt) hFS109
              refine sf_X0_copyFrom (S := ((b1g_owners S109.1), (b3g_members S109.2))) ⟨(J1g_owners hJS109.1), (J3g_members hJS109.2)⟩ (fun u111 hJu111 hfu111 hr110_0 => ?_)
              try simp (disch := first | ((try simp (disch := first | ((try simp only [pn]) <;> omega) | fail) only [pn, pq]) <;> omega) | fail) only [pn, pq] at hr110_0
              intro S112 eS112
              have hGS112 : F_X1_make S S112 := by
                rw [eS112]
                rw [hfu111]
                exact hFS109
              have hJS112 : J1 S112.1 ∧ J3 S112.2 := by rw [eS112]; exact ⟨(J1s_owners hJS109.1 hJu111.1), (J3s_members hJS109.2 hJu111.2)⟩
              have hFS112 : F_X1_make S S112 := hGS112
              have je170 : ((b0g_count (b1g_owners S112.1))).toInt = ((b0g_count u111.1)).toInt := by rw [eS112]
              try simp (disch := first | ((try simp (disch := first | ((try simp only [pn]) <;> omega) | fail) only [pn, pq]) <;> omega) | fail) only [pn, pq] at je170
              have jf171 := J0g_count (J1g_owners hJS112.1)
              have je173 : ((b3g_mode S112.2)).toInt = ((b3g_mode S.2)).toInt := congrArg (fun z => ((b3g_mode z)).toInt) hFS112
              intro S113 eS113
              have hJS113 : J1 S113.1 ∧ J3 S113.2 := by rw [eS113]; exact ⟨(J1s_lows hJS112.1 (J0s_count (J1g_lows hJS112.1) ⟨(by (try simp (disch := first | ((try simp (disch := first | ((try simp only [pn]) <;> omega) | fail) only [pn, pq]) <;> omega) | fail) only [pn, pq]) <;> (intros; (try simp (disch := first | ((try simp (disch := first | ((try simp only [pn]) <;> omega) | fail) only [pn, pq]) <;> omega) | fail) only [pn, pq]) <;> omega)), (by (try simp (disch := first | ((try simp (disch := first | ((try simp only [pn]) <;> omega) | fail) only [pn, pq]) <;> omega) | fail) only [pn, pq]) <;> (intros; (try simp (disch := first | ((try simp (disch := first | ((try simp only [pn]) <;> omega) | fail) only [pn, pq]) <;> omega) | fail) only [pn, pq]) <;> omega))⟩)), hJS112.2⟩
              have hFS113 : F_X1_make S S113 := by rw [eS113]; exact hFS112
              have je174 : ((b0g_count (b1g_owners S113.1))).toInt = ((b0g_count (b1g_owners S112.1))).toInt := by rw [eS113]
              have jf175 := J0g_count (J1g_owners hJS113.1)
              have je177 : ((b3g_mode S113.2)).toInt = ((b3g_mode S.2)).toInt := congrArg (fun z => ((b3g_mode z)).toInt) hFS113
              intro S114 eS114
              have hJS114 : J1 S114.1 ∧ J3 S114.2 := by rw [eS114]; exact ⟨(J1s_highs hJS113.1 (J0s_count (J1g_highs hJS113.1) ⟨(by (try simp (disch := first | ((try simp (disch := first | ((try simp only [pn]) <;> omega) | fail) only [pn, pq]) <;> omega) | fail) only [pn, pq]) <;> (intros; (try simp (disch := first | ((try simp (disch := first | ((try simp only [pn]) <;> omega) | fail) only [pn, pq]) <;> omega) | fail) only [pn, pq]) <;> omega)), (by (try simp (disch := first | ((try simp (disch := first | ((try simp only [pn]) <;> omega) | fail) only [pn, pq]) <;> omega) | fail) only [pn, pq]) <;> (intros; (try simp (disch := first | ((try simp (disch := first | ((try simp only [pn]) <;> omega) | fail) only [pn, pq]) <;> omega) | fail) only [pn, pq]) <;> omega))⟩)), hJS113.2⟩
              have hFS114 : F_X1_make S S114 := by rw [eS114]; exact hFS113
              have je178 : ((b0g_count (b1g_owners S114.1))).toInt = ((b0g_count (b1g_owners S113.1))).toInt := by rw [eS114]
              have jf179 := J0g_count (J1g_owners hJS114.1)
              have je181 : ((b3g_mode S114.2)).toInt = ((b3g_mode S.2)).toInt := congrArg (fun z => ((b3g_mode z)).toInt) hFS114
              refine ⟨fun n x4q115 Sq115 => (J1 Sq115.1 ∧ J3 Sq115.2) ∧ (F_X1_make S Sq115) ∧ (0 ≤ (x4q115).toInt) ∧ n = (((b0g_count (b1g_owners Sq115.1))).toInt + 1 - (x4q115).toInt).toNat, ⟨_, hJS114, hFS114, (by (try simp (disch := first | ((try simp (disch := first | ((try simp only [pn]) <;> omega) | fail) only [pn, pq]) <;> omega) | fail) only [pn, pq]) <;> (intros; (try simp (disch := first | ((try simp (disch := first | ((try simp only [pn]) <;> omega) | fail) only [pn, pq]) <;> omega) | fail) only [pn, pq]) <;> omega)), rfl⟩, ?_⟩
              rintro n116 x4q115 Sq115 ⟨hJSq115, hFSq115, hiq115_0, hn116⟩
              have rgx4q115 := pt_rg x4q115
              unfold wp_X1_make_126b
              have jf182 := J0g_count (J1g_owners hJSq115.1)
              have je184 : ((b3g_mode Sq115.2)).toInt = ((b3g_mode S.2)).toInt := congrArg (fun z => ((b3g_mode z)).toInt) hFSq115
              refine ⟨fun c117 => ?_, fun c117 => ?_⟩
              · try simp (disch := first | ((try simp (disch := first | ((try simp only [pn]) <;> omega) | fail) only [pn, pq]) <;> omega) | fail) only [pn, pq] at c117
                exact hq _ hJSq115 hFSq115 
              · try simp (disch := first | ((try simp (disch := first | ((try simp only [pn]) <;> omega) | fail) only [pn, pq]) <;> omega) | fail) only [pn, pq] at c117
                refine sf_X1_cut hJSq115.1 (by (try simp (disch := first | ((try simp (disch := first | ((try simp only [pn]) <;> omega) | fail) only [pn, pq]) <;> omega) | fail) only [pn, pq]) <;> (intros; (try simp (disch := first | ((try simp (disch := first | ((try simp only [pn]) <;> omega) | fail) only [pn, pq]) <;> omega) | fail) only [pn, pq]) <;> omega)) (by (try simp (disch := first | ((try simp (disch := first | ((try simp only [pn]) <;> omega) | fail) only [pn, pq]) <;> omega) | fail) only [pn, pq]) <;> (intros; (try simp (disch := first | ((try simp (disch := first | ((try simp only [pn]) <;> omega) | fail) only [pn, pq]) <;> omega) | fail) only [pn, pq]) <;> omega)) (fun u119 hJu119 hfu119  => ?_)
                have je186 : ((b0g_count (b1g_owners u119))).toInt = ((b0g_count (b1g_owners Sq115.1))).toInt := congrArg (fun z => ((b0g_count z)).toInt) hfu119.1
                intro S120 eS120
                have hGS120 : F_X1_make S S120 := by
                  rw [eS120]
                  exact hFSq115
                have hJS120 : J1 S120.1 ∧ J3 S120.2 := by rw [eS120]; exact ⟨hJu119, hJSq115.2⟩
                have hFS120 : F_X1_make S S120 := hGS120
                have je187 : ((b0g_count (b1g_owners S120.1))).toInt = ((b0g_count (b1g_owners u119))).toInt := by rw [eS120]
                try simp (disch := first | ((try simp (disch := first | ((try simp only [pn]) <;> omega) | fail) only [pn, pq]) <;> omega) | fail) only [pn, pq] at je187
                have jf188 := J0g_count (J1g_owners hJS120.1)
                have je190 : ((b3g_mode S120.2)).toInt = ((b3g_mode S.2)).toInt := congrArg (fun z => ((b3g_mode z)).toInt) hFS120
                refine sf_X1_bound hJS120.1 (fun u122 hJu122 hfu122  => ?_)
                have je192 : ((b0g_count (b1g_owners u122))).toInt = ((b0g_count (b1g_owners S120.1))).toInt := congrArg (fun z => ((b0g_count z)).toInt) hfu122.1
                intro S123 eS123
                have hGS123 : F_X1_make S S123 := by
                  rw [eS123]
                  exact hFS120
                have hJS123 : J1 S123.1 ∧ J3 S123.2 := by rw [eS123]; exact ⟨hJu122, hJS120.2⟩
                have hFS123 : F_X1_make S S123 := hGS123
                have je193 : ((b0g_count (b1g_owners S123.1))).toInt = ((b0g_count (b1g_owners u122))).toInt := by rw [eS123]
                try simp (disch := first | ((try simp (disch := first | ((try simp only [pn]) <;> omega) | fail) only [pn, pq]) <;> omega) | fail) only [pn, pq] at je193
                have jf194 := J0g_count (J1g_owners hJS123.1)
                have je196 : ((b3g_mode S123.2)).toInt = ((b3g_mode S.2)).toInt := congrArg (fun z => ((b3g_mode z)).toInt) hFS123
                refine ⟨_, ?_, ?_, ?_, ?_, rfl⟩
                · (try simp (disch := first | ((try simp (disch := first | ((try simp only [pn]) <;> omega) | fail) only [pn, pq]) <;> omega) | fail) only [pn, pq]) <;> (intros; (try simp (disch := first | ((try simp (disch := first | ((try simp only [pn]) <;> omega) | fail) only [pn, pq]) <;> omega) | fail) only [pn, pq]) <;> omega)
                · exact hJS123
                · exact hFS123
                · (try simp (disch := first | ((try simp (disch := first | ((try simp only [pn]) <;> omega) | fail) only [pn, pq]) <;> omega) | fail) only [pn, pq]) <;> (intros; (try simp (disch := first | ((try simp (disch := first | ((try simp only [pn]) <;> omega) | fail) only [pn, pq]) <;> omega) | fail) only [pn, pq]) <;> omega)
            · exact absurd c105 (by decide)
          · exact absurd c103 (by decide)
        · try simp (disch := first | ((try simp (disch := first | ((try simp only [pn]) <;> omega) | fail) only [pn, pq]) <;> omega) | fail) only [pn, pq] at c102
          unfold wp_X1_make_38
          unfold wp_X1_make_43
          refine ⟨fun c124 => ?_, fun c124 => ?_⟩
          · skip
            unfold wp_X1_make_61
            intro S125 eS125
            have hJS125 : J1 S125.1 ∧ J3 S125.2 := by rw [eS125]; exact ⟨(J1s_hashBits hJ.1), hJ.2⟩
            have hFS125 : F_X1_make S S125 := by rw [eS125]; exact hFS
            have je197 : ((b0g_count (b1g_owners S125.1))).toInt = ((b0g_count (b1g_owners S.1))).toInt := by rw [eS125]
            have jf198 := J0g_count (J1g_owners hJS125.1)
            have je200 : ((b3g_mode S125.2)).toInt = ((b3g_mode S.2)).toInt := congrArg (fun z => ((b3g_mode z)).toInt) hFS125
            refine ⟨fun c126 => ?_, fun c126 => ?_⟩
            · exact absurd c126 (by decide)
            · skip
              refine sf_X8_at (by decide) (fun r127 hr127_0 => ?_)
              have rgr127 := pt_rg r127
              try simp (disch := first | ((try simp (disch := first | ((try simp only [pn]) <;> omega) | fail) only [pn, pq]) <;> omega) | fail) only [pn, pq] at hr127_0
              unfold wp_X1_make_81
              intro S129 eS129
              have hJS129 : J1 S129.1 ∧ J3 S129.2 := by rw [eS129]; exact ⟨(J1s_realBits hJS125.1), hJS125.2⟩
              have hFS129 : F_X1_make S S129 := by rw [eS129]; exact hFS125
              have je201 : ((b0g_count (b1g_owners S129.1))).toInt = ((b0g_count (b1g_owners S125.1))).toInt := by rw [eS129]
              have jf202 := J0g_count (J1g_owners hJS129.1)
              have je204 : ((b3g_mode S129.2)).toInt = ((b3g_mode S.2)).toInt := congrArg (fun z => ((b3g_mode z)).toInt) hFS129
              refine sf_X8_at (by decide) (fun r130 hr130_0 => ?_)
              have rgr130 := pt_rg r130
              try simp (disch := first | ((try simp (disch := first | ((try simp only [pn]) <;> omega) | fail) only [pn, pq]) <;> omega) | fail) only [pn, pq] at hr130_0
              intro S132 eS132
              have hJS132 : J1 S132.1 ∧ J3 S132.2 := by rw [eS132]; exact ⟨(J1s_salt hJS129.1), hJS129.2⟩
              have hFS132 : F_X1_make S S132 := by rw [eS132]; exact hFS129
              have je205 : ((b0g_count (b1g_owners S132.1))).toInt = ((b0g_count (b1g_owners S129.1))).toInt := by rw [eS132]
              have jf206 := J0g_count (J1g_owners hJS132.1)
              have je208 : ((b3g_mode S132.2)).toInt = ((b3g_mode S.2)).toInt := congrArg (fun z => ((b3g_mode z)).toInt) hFS132
              refine sf_X0_copyFrom (S := ((b1g_owners S132.1), (b3g_members S132.2))) ⟨(J1g_owners hJS132.1), (J3g_members hJS132.2)⟩ (fun u134 hJu134 hfu134 hr133_0 => ?_)
              try simp (disch := first | ((try simp (disch := first | ((try simp only [pn]) <;> omega) | fail) only [pn, pq]) <;> omega) | fail) only [pn, pq] at hr133_0
              intro S135 eS135
              have hGS135 : F_X1_make S S135 := by
                rw [eS135]
                rw [hfu134]
                exact hFS132
              have hJS135 : J1 S135.1 ∧ J3 S135.2 := by rw [eS135]; exact ⟨(J1s_owners hJS132.1 hJu134.1), (J3s_members hJS132.2 hJu134.2)⟩
              have hFS135 : F_X1_make S S135 := hGS135
              have je209 : ((b0g_count (b1g_owners S135.1))).toInt = ((b0g_count u134.1)).toInt := by rw [eS135]
              try simp (disch := first | ((try simp (disch := first | ((try simp only [pn]) <;> omega) | fail) only [pn, pq]) <;> omega) | fail) only [pn, pq] at je209
              have jf210 := J0g_count (J1g_owners hJS135.1)
              have je212 : ((b3g_mode S135.2)).toInt = ((b3g_mode S.2)).toInt := congrArg (fun z => ((b3g_mode z)).toInt) hFS135
              intro S136 eS136
              have hJS136 : J1 S136.1 ∧ J3 S136.2 := by rw [eS136]; exact ⟨(J1s_lows hJS135.1 (J0s_count (J1g_lows hJS135.1) ⟨(by (try simp (disch := first | ((try simp (disch := first | ((try simp only [pn]) <;> omega) | fail) only [pn, pq]) <;> omega) | fail) only [pn, pq]) <;> (intros; (try simp (disch := first | ((try simp (disch := first | ((try simp only [pn]) <;> omega) | fail) only [pn, pq]) <;> omega) | fail) only [pn, pq]) <;> omega)), (by (try simp (disch := first | ((try simp (disch := first | ((try simp only [pn]) <;> omega) | fail) only [pn, pq]) <;> omega) | fail) only [pn, pq]) <;> (intros; (try simp (disch := first | ((try simp (disch := first | ((try simp only [pn]) <;> omega) | fail) only [pn, pq]) <;> omega) | fail) only [pn, pq]) <;> omega))⟩)), hJS135.2⟩
              have hFS136 : F_X1_make S S136 := by rw [eS136]; exact hFS135
              have je213 : ((b0g_count (b1g_owners S136.1))).toInt = ((b0g_count (b1g_owners S135.1))).toInt := by rw [eS136]
              have jf214 := J0g_count (J1g_owners hJS136.1)
              have je216 : ((b3g_mode S136.2)).toInt = ((b3g_mode S.2)).toInt := congrArg (fun z => ((b3g_mode z)).toInt) hFS136
              intro S137 eS137
              have hJS137 : J1 S137.1 ∧ J3 S137.2 := by rw [eS137]; exact ⟨(J1s_highs hJS136.1 (J0s_count (J1g_highs hJS136.1) ⟨(by (try simp (disch := first | ((try simp (disch := first | ((try simp only [pn]) <;> omega) | fail) only [pn, pq]) <;> omega) | fail) only [pn, pq]) <;> (intros; (try simp (disch := first | ((try simp (disch := first | ((try simp only [pn]) <;> omega) | fail) only [pn, pq]) <;> omega) | fail) only [pn, pq]) <;> omega)), (by (try simp (disch := first | ((try simp (disch := first | ((try simp only [pn]) <;> omega) | fail) only [pn, pq]) <;> omega) | fail) only [pn, pq]) <;> (intros; (try simp (disch := first | ((try simp (disch := first | ((try simp only [pn]) <;> omega) | fail) only [pn, pq]) <;> omega) | fail) only [pn, pq]) <;> omega))⟩)), hJS136.2⟩
              have hFS137 : F_X1_make S S137 := by rw [eS137]; exact hFS136
              have je217 : ((b0g_count (b1g_owners S137.1))).toInt = ((b0g_count (b1g_owners S136.1))).toInt := by rw [eS137]
              have jf218 := J0g_count (J1g_owners hJS137.1)
              have je220 : ((b3g_mode S137.2)).toInt = ((b3g_mode S.2)).toInt := congrArg (fun z => ((b3g_mode z)).toInt) hFS137
              refine ⟨fun n x4q138 Sq138 => (J1 Sq138.1 ∧ J3 Sq138.2) ∧ (F_X1_make S Sq138) ∧ (0 ≤ (x4q138).toInt) ∧ n = (((b0g_count (b1g_owners Sq138.1))).toInt + 1 - (x4q138).toInt).toNat, ⟨_, hJS137, hFS137, (by (try simp (disch := first | ((try simp (disch := first | ((try simp only [pn]) <;> omega) | fail) only [pn, pq]) <;> omega) | fail) only [pn, pq]) <;> (intros; (try simp (disch := first | ((try simp (disch := first | ((try simp only [pn]) <;> omega) | fail) only [pn, pq]) <;> omega) | fail) only [pn, pq]) <;> omega)), rfl⟩, ?_⟩
              rintro n139 x4q138 Sq138 ⟨hJSq138, hFSq138, hiq138_0, hn139⟩
              have rgx4q138 := pt_rg x4q138
              unfold wp_X1_make_126b
              have jf221 := J0g_count (J1g_owners hJSq138.1)
              have je223 : ((b3g_mode Sq138.2)).toInt = ((b3g_mode S.2)).toInt := congrArg (fun z => ((b3g_mode z)).toInt) hFSq138
              refine ⟨fun c140 => ?_, fun c140 => ?_⟩
              · try simp (disch := first | ((try simp (disch := first | ((try simp only [pn]) <;> omega) | fail) only [pn, pq]) <;> omega) | fail) only [pn, pq] at c140
                exact hq _ hJSq138 hFSq138 
              · try simp (disch := first | ((try simp (disch := first | ((try simp only [pn]) <;> omega) | fail) only [pn, pq]) <;> omega) | fail) only [pn, pq] at c140
                refine sf_X1_cut hJSq138.1 (by (try simp (disch := first | ((try simp (disch := first | ((try simp only [pn]) <;> omega) | fail) only [pn, pq]) <;> omega) | fail) only [pn, pq]) <;> (intros; (try simp (disch := first | ((try simp (disch := first | ((try simp only [pn]) <;> omega) | fail) only [pn, pq]) <;> omega) | fail) only [pn, pq]) <;> omega)) (by (try simp (disch := first | ((try simp (disch := first | ((try simp only [pn]) <;> omega) | fail) only [pn, pq]) <;> omega) | fail) only [pn, pq]) <;> (intros; (try simp (disch := first | ((try simp (disch := first | ((try simp only [pn]) <;> omega) | fail) only [pn, pq]) <;> omega) | fail) only [pn, pq]) <;> omega)) (fun u142 hJu142 hfu142  => ?_)
                have je225 : ((b0g_count (b1g_owners u142))).toInt = ((b0g_count (b1g_owners Sq138.1))).toInt := congrArg (fun z => ((b0g_count z)).toInt) hfu142.1
                intro S143 eS143
                have hGS143 : F_X1_make S S143 := by
                  rw [eS143]
                  exact hFSq138
                have hJS143 : J1 S143.1 ∧ J3 S143.2 := by rw [eS143]; exact ⟨hJu142, hJSq138.2⟩
                have hFS143 : F_X1_make S S143 := hGS143
                have je226 : ((b0g_count (b1g_owners S143.1))).toInt = ((b0g_count (b1g_owners u142))).toInt := by rw [eS143]
                try simp (disch := first | ((try simp (disch := first | ((try simp only [pn]) <;> omega) | fail) only [pn, pq]) <;> omega) | fail) only [pn, pq] at je226
                have jf227 := J0g_count (J1g_owners hJS143.1)
                have je229 : ((b3g_mode S143.2)).toInt = ((b3g_mode S.2)).toInt := congrArg (fun z => ((b3g_mode z)).toInt) hFS143
                refine sf_X1_bound hJS143.1 (fun u145 hJu145 hfu145  => ?_)
                have je231 : ((b0g_count (b1g_owners u145))).toInt = ((b0g_count (b1g_owners S143.1))).toInt := congrArg (fun z => ((b0g_count z)).toInt) hfu145.1
                intro S146 eS146
                have hGS146 : F_X1_make S S146 := by
                  rw [eS146]
                  exact hFS143
                have hJS146 : J1 S146.1 ∧ J3 S146.2 := by rw [eS146]; exact ⟨hJu145, hJS143.2⟩
                have hFS146 : F_X1_make S S146 := hGS146
                have je232 : ((b0g_count (b1g_owners S146.1))).toInt = ((b0g_count (b1g_owners u145))).toInt := by rw [eS146]
                try simp (disch := first | ((try simp (disch := first | ((try simp only [pn]) <;> omega) | fail) only [pn, pq]) <;> omega) | fail) only [pn, pq] at je232
                have jf233 := J0g_count (J1g_owners hJS146.1)
                have je235 : ((b3g_mode S146.2)).toInt = ((b3g_mode S.2)).toInt := congrArg (fun z => ((b3g_mode z)).toInt) hFS146
                refine ⟨_, ?_, ?_, ?_, ?_, rfl⟩
                · (try simp (disch := first | ((try simp (disch := first | ((try simp only [pn]) <;> omega) | fail) only [pn, pq]) <;> omega) | fail) only [pn, pq]) <;> (intros; (try simp (disch := first | ((try simp (disch := first | ((try simp only [pn]) <;> omega) | fail) only [pn, pq]) <;> omega) | fail) only [pn, pq]) <;> omega)
                · exact hJS146
                · exact hFS146
                · (try simp (disch := first | ((try simp (disch := first | ((try simp only [pn]) <;> omega) | fail) only [pn, pq]) <;> omega) | fail) only [pn, pq]) <;> (intros; (try simp (disch := first | ((try simp (disch := first | ((try simp only [pn]) <;> omega) | fail) only [pn, pq]) <;> omega) | fail) only [pn, pq]) <;> omega)
          · exact absurd c124 (by decide)
    · try simp (disch := first | ((try simp (disch := first | ((try simp only [pn]) <;> omega) | fail) only [pn, pq]) <;> omega) | fail) only [pn, pq] at c77
      unfold wp_X1_make_16
      unfold wp_X1_make_21
      refine ⟨fun c147 => ?_, fun c147 => ?_⟩
      · try simp (disch := first | ((try simp (disch := first | ((try simp only [pn]) <;> omega) | fail) only [pn, pq]) <;> omega) | fail) only [pn, pq] at c147
        unfold wp_X1_make_38
        unfold wp_X1_make_43
        refine ⟨fun c148 => ?_, fun c148 => ?_⟩
        · exact absurd c148 (by decide)
        · skip
          refine sf_X8_at (by decide) (fun r149 hr149_0 => ?_)
          have rgr149 := pt_rg r149
          try simp (disch := first | ((try simp (disch := first | ((try simp only [pn]) <;> omega) | fail) only [pn, pq]) <;> omega) | fail) only [pn, pq] at hr149_0
          unfold wp_X1_make_61
          intro S151 eS151
          have hJS151 : J1 S151.1 ∧ J3 S151.2 := by rw [eS151]; exact ⟨(J1s_hashBits hJ.1), hJ.2⟩
          have hFS151 : F_X1_make S S151 := by rw [eS151]; exact hFS
          have je236 : ((b0g_count (b1g_owners S151.1))).toInt = ((b0g_count (b1g_owners S.1))).toInt := by rw [eS151]
          have jf237 := J0g_count (J1g_owners hJS151.1)
          have je239 : ((b3g_mode S151.2)).toInt = ((b3g_mode S.2)).toInt := congrArg (fun z => ((b3g_mode z)).toInt) hFS151
          refine ⟨fun c152 => ?_, fun c152 => ?_⟩
          · exact absurd c152 (by decide)
          · skip
            refine sf_X8_at (by decide) (fun r153 hr153_0 => ?_)
            have rgr153 := pt_rg r153
            try simp (disch := first | ((try simp (disch := first | ((try simp only [pn]) <;> omega) | fail) only [pn, pq]) <;> omega) | fail) only [pn, pq] at hr153_0
            unfold wp_X1_make_81
            intro S155 eS155
            have hJS155 : J1 S155.1 ∧ J3 S155.2 := by rw [eS155]; exact ⟨(J1s_realBits hJS151.1), hJS151.2⟩
            have hFS155 : F_X1_make S S155 := by rw [eS155]; exact hFS151
            have je240 : ((b0g_count (b1g_owners S155.1))).toInt = ((b0g_count (b1g_owners S151.1))).toInt := by rw [eS155]
            have jf241 := J0g_count (J1g_owners hJS155.1)
            have je243 : ((b3g_mode S155.2)).toInt = ((b3g_mode S.2)).toInt := congrArg (fun z => ((b3g_mode z)).toInt) hFS155
            refine sf_X8_at (by decide) (fun r156 hr156_0 => ?_)
            have rgr156 := pt_rg r156
            try simp (disch := first | ((try simp (disch := first | ((try simp only [pn]) <;> omega) | fail) only [pn, pq]) <;> omega) | fail) only [pn, pq] at hr156_0
            intro S158 eS158
            have hJS158 : J1 S158.1 ∧ J3 S158.2 := by rw [eS158]; exact ⟨(J1s_salt hJS155.1), hJS155.2⟩
            have hFS158 : F_X1_make S S158 := by rw [eS158]; exact hFS155
            have je244 : ((b0g_count (b1g_owners S158.1))).toInt = ((b0g_count (b1g_owners S155.1))).toInt := by rw [eS158]
            have jf245 := J0g_count (J1g_owners hJS158.1)
            have je247 : ((b3g_mode S158.2)).toInt = ((b3g_mode S.2)).toInt := congrArg (fun z => ((b3g_mode z)).toInt) hFS158
            refine sf_X0_copyFrom (S := ((b1g_owners S158.1), (b3g_members S158.2))) ⟨(J1g_owners hJS158.1), (J3g_members hJS158.2)⟩ (fun u160 hJu160 hfu160 hr159_0 => ?_)
            try simp (disch := first | ((try simp (disch := first | ((try simp only [pn]) <;> omega) | fail) only [pn, pq]) <;> omega) | fail) only [pn, pq] at hr159_0
            intro S161 eS161
            have hGS161 : F_X1_make S S161 := by
              rw [eS161]
              rw [hfu160]
              exact hFS158
            have hJS161 : J1 S161.1 ∧ J3 S161.2 := by rw [eS161]; exact ⟨(J1s_owners hJS158.1 hJu160.1), (J3s_members hJS158.2 hJu160.2)⟩
            have hFS161 : F_X1_make S S161 := hGS161
            have je248 : ((b0g_count (b1g_owners S161.1))).toInt = ((b0g_count u160.1)).toInt := by rw [eS161]
            try simp (disch := first | ((try simp (disch := first | ((try simp only [pn]) <;> omega) | fail) only [pn, pq]) <;> omega) | fail) only [pn, pq] at je248
            have jf249 := J0g_count (J1g_owners hJS161.1)
            have je251 : ((b3g_mode S161.2)).toInt = ((b3g_mode S.2)).toInt := congrArg (fun z => ((b3g_mode z)).toInt) hFS161
            intro S162 eS162
            have hJS162 : J1 S162.1 ∧ J3 S162.2 := by rw [eS162]; exact ⟨(J1s_lows hJS161.1 (J0s_count (J1g_lows hJS161.1) ⟨(by (try simp (disch := first | ((try simp (disch := first | ((try simp only [pn]) <;> omega) | fail) only [pn, pq]) <;> omega) | fail) only [pn, pq]) <;> (intros; (try simp (disch := first | ((try simp (disch := first | ((try simp only [pn]) <;> omega) | fail) only [pn, pq]) <;> omega) | fail) only [pn, pq]) <;> omega)), (by (try simp (disch := first | ((try simp (disch := first | ((try simp only [pn]) <;> omega) | fail) only [pn, pq]) <;> omega) | fail) only [pn, pq]) <;> (intros; (try simp (disch := first | ((try simp (disch := first | ((try simp only [pn]) <;> omega) | fail) only [pn, pq]) <;> omega) | fail) only [pn, pq]) <;> omega))⟩)), hJS161.2⟩
            have hFS162 : F_X1_make S S162 := by rw [eS162]; exact hFS161
            have je252 : ((b0g_count (b1g_owners S162.1))).toInt = ((b0g_count (b1g_owners S161.1))).toInt := by rw [eS162]
            have jf253 := J0g_count (J1g_owners hJS162.1)
            have je255 : ((b3g_mode S162.2)).toInt = ((b3g_mode S.2)).toInt := congrArg (fun z => ((b3g_mode z)).toInt) hFS162
            intro S163 eS163
            have hJS163 : J1 S163.1 ∧ J3 S163.2 := by rw [eS163]; exact ⟨(J1s_highs hJS162.1 (J0s_count (J1g_highs hJS162.1) ⟨(by (try simp (disch := first | ((try simp (disch := first | ((try simp only [pn]) <;> omega) | fail) only [pn, pq]) <;> omega) | fail) only [pn, pq]) <;> (intros; (try simp (disch := first | ((try simp (disch := first | ((try simp only [pn]) <;> omega) | fail) only [pn, pq]) <;> omega) | fail) only [pn, pq]) <;> omega)), (by (try simp (disch := first | ((try simp (disch := first | ((try simp only [pn]) <;> omega) | fail) only [pn, pq]) <;> omega) | fail) only [pn, pq]) <;> (intros; (try simp (disch := first | ((try simp (disch := first | ((try simp only [pn]) <;> omega) | fail) only [pn, pq]) <;> omega) | fail) only [pn, pq]) <;> omega))⟩)), hJS162.2⟩
            have hFS163 : F_X1_make S S163 := by rw [eS163]; exact hFS162
            have je256 : ((b0g_count (b1g_owners S163.1))).toInt = ((b0g_count (b1g_owners S162.1))).toInt := by rw [eS163]
            have jf257 := J0g_count (J1g_owners hJS163.1)
            have je259 : ((b3g_mode S163.2)).toInt = ((b3g_mode S.2)).toInt := congrArg (fun z => ((b3g_mode z)).toInt) hFS163
            refine ⟨fun n x4q164 Sq164 => (J1 Sq164.1 ∧ J3 Sq164.2) ∧ (F_X1_make S Sq164) ∧ (0 ≤ (x4q164).toInt) ∧ n = (((b0g_count (b1g_owners Sq164.1))).toInt + 1 - (x4q164).toInt).toNat, ⟨_, hJS163, hFS163, (by (try simp (disch := first | ((try simp (disch := first | ((try simp only [pn]) <;> omega) | fail) only [pn, pq]) <;> omega) | fail) only [pn, pq]) <;> (intros; (try simp (disch := first | ((try simp (disch := first | ((try simp only [pn]) <;> omega) | fail) only [pn, pq]) <;> omega) | fail) only [pn, pq]) <;> omega)), rfl⟩, ?_⟩
            rintro n165 x4q164 Sq164 ⟨hJSq164, hFSq164, hiq164_0, hn165⟩
            have rgx4q164 := pt_rg x4q164
            unfold wp_X1_make_126b
            have jf260 := J0g_count (J1g_owners hJSq164.1)
            have je262 : ((b3g_mode Sq164.2)).toInt = ((b3g_mode S.2)).toInt := congrArg (fun z => ((b3g_mode z)).toInt) hFSq164
            refine ⟨fun c166 => ?_, fun c166 => ?_⟩
            · try simp (disch := first | ((try simp (disch := first | ((try simp only [pn]) <;> omega) | fail) only [pn, pq]) <;> omega) | fail) only [pn, pq] at c166
              exact hq _ hJSq164 hFSq164 
            · try simp (disch := first | ((try simp (disch := first | ((try simp only [pn]) <;> omega) | fail) only [pn, pq]) <;> omega) | fail) only [pn, pq] at c166
              refine sf_X1_cut hJSq164.1 (by (try simp (disch := first | ((try simp (disch := first | ((try simp only [pn]) <;> omega) | fail) only [pn, pq]) <;> omega) | fail) only [pn, pq]) <;> (intros; (try simp (disch := first | ((try simp (disch := first | ((try simp only [pn]) <;> omega) | fail) only [pn, pq]) <;> omega) | fail) only [pn, pq]) <;> omega)) (by (try simp (disch := first | ((try simp (disch := first | ((try simp only [pn]) <;> omega) | fail) only [pn, pq]) <;> omega) | fail) only [pn, pq]) <;> (intros; (try simp (disch := first | ((try simp (disch := first | ((try simp only [pn]) <;> omega) | fail) only [pn, pq]) <;> omega) | fail) only [pn, pq]) <;> omega)) (fun u168 hJu168 hfu168  => ?_)
              have je264 : ((b0g_count (b1g_owners u168))).toInt = ((b0g_count (b1g_owners Sq164.1))).toInt := congrArg (fun z => ((b0g_count z)).toInt) hfu168.1
              intro S169 eS169
              have hGS169 : F_X1_make S S169 := by
                rw [eS169]
                exact hFSq164
              have hJS169 : J1 S169.1 ∧ J3 S169.2 := by rw [eS169]; exact ⟨hJu168, hJSq164.2⟩
              have hFS169 : F_X1_make S S169 := hGS169
              have je265 : ((b0g_count (b1g_owners S169.1))).toInt = ((b0g_count (b1g_owners u168))).toInt := by rw [eS169]
              try simp (disch := first | ((try simp (disch := first | ((try simp only [pn]) <;> omega) | fail) only [pn, pq]) <;> omega) | fail) only [pn, pq] at je265
              have jf266 := J0g_count (J1g_owners hJS169.1)
              have je268 : ((b3g_mode S169.2)).toInt = ((b3g_mode S.2)).toInt := congrArg (fun z => ((b3g_mode z)).toInt) hFS169
              refine sf_X1_bound hJS169.1 (fun u171 hJu171 hfu171  => ?_)
              have je270 : ((b0g_count (b1g_owners u171))).toInt = ((b0g_count (b1g_owners S169.1))).toInt := congrArg (fun z => ((b0g_count z)).toInt) hfu171.1
              intro S172 eS172
              have hGS172 : F_X1_make S S172 := by
                rw [eS172]
                exact hFS169
              have hJS172 : J1 S172.1 ∧ J3 S172.2 := by rw [eS172]; exact ⟨hJu171, hJS169.2⟩
              have hFS172 : F_X1_make S S172 := hGS172
              have je271 : ((b0g_count (b1g_owners S172.1))).toInt = ((b0g_count (b1g_owners u171))).toInt := by rw [eS172]
              try simp (disch := first | ((try simp (disch := first | ((try simp only [pn]) <;> omega) | fail) only [pn, pq]) <;> omega) | fail) only [pn, pq] at je271
              have jf272 := J0g_count (J1g_owners hJS172.1)
              have je274 : ((b3g_mode S172.2)).toInt = ((b3g_mode S.2)).toInt := congrArg (fun z => ((b3g_mode z)).toInt) hFS172
              refine ⟨_, ?_, ?_, ?_, ?_, rfl⟩
              · (try simp (disch := first | ((try simp (disch := first | ((try simp only [pn]) <;> omega) | fail) only [pn, pq]) <;> omega) | fail) only [pn, pq]) <;> (intros; (try simp (disch := first | ((try simp (disch := first | ((try simp only [pn]) <;> omega) | fail) only [pn, pq]) <;> omega) | fail) only [pn, pq]) <;> omega)
              · exact hJS172
              · exact hFS172
              · (try simp (disch := first | ((try simp (disch := first | ((try simp only [pn]) <;> omega) | fail) only [pn, pq]) <;> omega) | fail) only [pn, pq]) <;> (intros; (try simp (disch := first | ((try simp (disch := first | ((try simp only [pn]) <;> omega) | fail) only [pn, pq]) <;> omega) | fail) only [pn, pq]) <;> omega)
      · try simp (disch := first | ((try simp (disch := first | ((try simp only [pn]) <;> omega) | fail) only [pn, pq]) <;> omega) | fail) only [pn, pq] at c147
        refine ⟨fun c173 => ?_, fun c173 => ?_⟩
        · try simp (disch := first | ((try simp (disch := first | ((try simp only [pn]) <;> omega) | fail) only [pn, pq]) <;> omega) | fail) only [pn, pq] at c173
          unfold wp_X1_make_43
          refine ⟨fun c174 => ?_, fun c174 => ?_⟩
          · exact absurd c174 (by decide)
          · skip
            refine sf_X8_at (by decide) (fun r175 hr175_0 => ?_)
            have rgr175 := pt_rg r175
            try simp (disch := first | ((try simp (disch := first | ((try simp only [pn]) <;> omega) | fail) only [pn, pq]) <;> omega) | fail) only [pn, pq] at hr175_0
            unfold wp_X1_make_61
            intro S177 eS177
            have hJS177 : J1 S177.1 ∧ J3 S177.2 := by rw [eS177]; exact ⟨(J1s_hashBits hJ.1), hJ.2⟩
            have hFS177 : F_X1_make S S177 := by rw [eS177]; exact hFS
            have je275 : ((b0g_count (b1g_owners S177.1))).toInt = ((b0g_count (b1g_owners S.1))).toInt := by rw [eS177]
            have jf276 := J0g_count (J1g_owners hJS177.1)
            have je278 : ((b3g_mode S177.2)).toInt = ((b3g_mode S.2)).toInt := congrArg (fun z => ((b3g_mode z)).toInt) hFS177
            refine ⟨fun c178 => ?_, fun c178 => ?_⟩
            · skip
              unfold wp_X1_make_81
              intro S179 eS179
              have hJS179 : J1 S179.1 ∧ J3 S179.2 := by rw [eS179]; exact ⟨(J1s_realBits hJS177.1), hJS177.2⟩
              have hFS179 : F_X1_make S S179 := by rw [eS179]; exact hFS177
              have je279 : ((b0g_count (b1g_owners S179.1))).toInt = ((b0g_count (b1g_owners S177.1))).toInt := by rw [eS179]
              have jf280 := J0g_count (J1g_owners hJS179.1)
              have je282 : ((b3g_mode S179.2)).toInt = ((b3g_mode S.2)).toInt := congrArg (fun z => ((b3g_mode z)).toInt) hFS179
              refine sf_X8_at (by decide) (fun r180 hr180_0 => ?_)
              have rgr180 := pt_rg r180
              try simp (disch := first | ((try simp (disch := first | ((try simp only [pn]) <;> omega) | fail) only [pn, pq]) <;> omega) | fail) only [pn, pq] at hr180_0
              intro S182 eS182
              have hJS182 : J1 S182.1 ∧ J3 S182.2 := by rw [eS182]; exact ⟨(J1s_salt hJS179.1), hJS179.2⟩
              have hFS182 : F_X1_make S S182 := by rw [eS182]; exact hFS179
              have je283 : ((b0g_count (b1g_owners S182.1))).toInt = ((b0g_count (b1g_owners S179.1))).toInt := by rw [eS182]
              have jf284 := J0g_count (J1g_owners hJS182.1)
              have je286 : ((b3g_mode S182.2)).toInt = ((b3g_mode S.2)).toInt := congrArg (fun z => ((b3g_mode z)).toInt) hFS182
              refine sf_X0_copyFrom (S := ((b1g_owners S182.1), (b3g_members S182.2))) ⟨(J1g_owners hJS182.1), (J3g_members hJS182.2)⟩ (fun u184 hJu184 hfu184 hr183_0 => ?_)
              try simp (disch := first | ((try simp (disch := first | ((try simp only [pn]) <;> omega) | fail) only [pn, pq]) <;> omega) | fail) only [pn, pq] at hr183_0
              intro S185 eS185
              have hGS185 : F_X1_make S S185 := by
                rw [eS185]
                rw [hfu184]
                exact hFS182
              have hJS185 : J1 S185.1 ∧ J3 S185.2 := by rw [eS185]; exact ⟨(J1s_owners hJS182.1 hJu184.1), (J3s_members hJS182.2 hJu184.2)⟩
              have hFS185 : F_X1_make S S185 := hGS185
              have je287 : ((b0g_count (b1g_owners S185.1))).toInt = ((b0g_count u184.1)).toInt := by rw [eS185]
              try simp (disch := first | ((try simp (disch := first | ((try simp only [pn]) <;> omega) | fail) only [pn, pq]) <;> omega) | fail) only [pn, pq] at je287
              have jf288 := J0g_count (J1g_owners hJS185.1)
              have je290 : ((b3g_mode S185.2)).toInt = ((b3g_mode S.2)).toInt := congrArg (fun z => ((b3g_mode z)).toInt) hFS185
              intro S186 eS186
              have hJS186 : J1 S186.1 ∧ J3 S186.2 := by rw [eS186]; exact ⟨(J1s_lows hJS185.1 (J0s_count (J1g_lows hJS185.1) ⟨(by (try simp (disch := first | ((try simp (disch := first | ((try simp only [pn]) <;> omega) | fail) only [pn, pq]) <;> omega) | fail) only [pn, pq]) <;> (intros; (try simp (disch := first | ((try simp (disch := first | ((try simp only [pn]) <;> omega) | fail) only [pn, pq]) <;> omega) | fail) only [pn, pq]) <;> omega)), (by (try simp (disch := first | ((try simp (disch := first | ((try simp only [pn]) <;> omega) | fail) only [pn, pq]) <;> omega) | fail) only [pn, pq]) <;> (intros; (try simp (disch := first | ((try simp (disch := first | ((try simp only [pn]) <;> omega) | fail) only [pn, pq]) <;> omega) | fail) only [pn, pq]) <;> omega))⟩)), hJS185.2⟩
              have hFS186 : F_X1_make S S186 := by rw [eS186]; exact hFS185
              have je291 : ((b0g_count (b1g_owners S186.1))).toInt = ((b0g_count (b1g_owners S185.1))).toInt := by rw [eS186]
              have jf292 := J0g_count (J1g_owners hJS186.1)
              have je294 : ((b3g_mode S186.2)).toInt = ((b3g_mode S.2)).toInt := congrArg (fun z => ((b3g_mode z)).toInt) hFS186
              intro S187 eS187
              have hJS187 : J1 S187.1 ∧ J3 S187.2 := by rw [eS187]; exact ⟨(J1s_highs hJS186.1 (J0s_count (J1g_highs hJS186.1) ⟨(by (try simp (disch := first | ((try simp (disch := first | ((try simp only [pn]) <;> omega) | fail) only [pn, pq]) <;> omega) | fail) only [pn, pq]) <;> (intros; (try simp (disch := first | ((try simp (disch := first | ((try simp only [pn]) <;> omega) | fail) only [pn, pq]) <;> omega) | fail) only [pn, pq]) <;> omega)), (by (try simp (disch := first | ((try simp (disch := first | ((try simp only [pn]) <;> omega) | fail) only [pn, pq]) <;> omega) | fail) only [pn, pq]) <;> (intros; (try simp (disch := first | ((try simp (disch := first | ((try simp only [pn]) <;> omega) | fail) only [pn, pq]) <;> omega) | fail) only [pn, pq]) <;> omega))⟩)), hJS186.2⟩
              have hFS187 : F_X1_make S S187 := by rw [eS187]; exact hFS186
              have je295 : ((b0g_count (b1g_owners S187.1))).toInt = ((b0g_count (b1g_owners S186.1))).toInt := by rw [eS187]
              have jf296 := J0g_count (J1g_owners hJS187.1)
              have je298 : ((b3g_mode S187.2)).toInt = ((b3g_mode S.2)).toInt := congrArg (fun z => ((b3g_mode z)).toInt) hFS187
              refine ⟨fun n x4q188 Sq188 => (J1 Sq188.1 ∧ J3 Sq188.2) ∧ (F_X1_make S Sq188) ∧ (0 ≤ (x4q188).toInt) ∧ n = (((b0g_count (b1g_owners Sq188.1))).toInt + 1 - (x4q188).toInt).toNat, ⟨_, hJS187, hFS187, (by (try simp (disch := first | ((try simp (disch := first | ((try simp only [pn]) <;> omega) | fail) only [pn, pq]) <;> omega) | fail) only [pn, pq]) <;> (intros; (try simp (disch := first | ((try simp (disch := first | ((try simp only [pn]) <;> omega) | fail) only [pn, pq]) <;> omega) | fail) only [pn, pq]) <;> omega)), rfl⟩, ?_⟩
              rintro n189 x4q188 Sq188 ⟨hJSq188, hFSq188, hiq188_0, hn189⟩
              have rgx4q188 := pt_rg x4q188
              unfold wp_X1_make_126b
              have jf299 := J0g_count (J1g_owners hJSq188.1)
              have je301 : ((b3g_mode Sq188.2)).toInt = ((b3g_mode S.2)).toInt := congrArg (fun z => ((b3g_mode z)).toInt) hFSq188
              refine ⟨fun c190 => ?_, fun c190 => ?_⟩
              · try simp (disch := first | ((try simp (disch := first | ((try simp only [pn]) <;> omega) | fail) only [pn, pq]) <;> omega) | fail) only [pn, pq] at c190
                exact hq _ hJSq188 hFSq188 
              · try simp (disch := first | ((try simp (disch := first | ((try simp only [pn]) <;> omega) | fail) only [pn, pq]) <;> omega) | fail) only [pn, pq] at c190
                refine sf_X1_cut hJSq188.1 (by (try simp (disch := first | ((try simp (disch := first | ((try simp only [pn]) <;> omega) | fail) only [pn, pq]) <;> omega) | fail) only [pn, pq]) <;> (intros; (try simp (disch := first | ((try simp (disch := first | ((try simp only [pn]) <;> omega) | fail) only [pn, pq]) <;> omega) | fail) only [pn, pq]) <;> omega)) (by (try simp (disch := first | ((try simp (disch := first | ((try simp only [pn]) <;> omega) | fail) only [pn, pq]) <;> omega) | fail) only [pn, pq]) <;> (intros; (try simp (disch := first | ((try simp (disch := first | ((try simp only [pn]) <;> omega) | fail) only [pn, pq]) <;> omega) | fail) only [pn, pq]) <;> omega)) (fun u192 hJu192 hfu192  => ?_)
                have je303 : ((b0g_count (b1g_owners u192))).toInt = ((b0g_count (b1g_owners Sq188.1))).toInt := congrArg (fun z => ((b0g_count z)).toInt) hfu192.1
                intro S193 eS193
                have hGS193 : F_X1_make S S193 := by
                  rw [eS193]
                  exact hFSq188
                have hJS193 : J1 S193.1 ∧ J3 S193.2 := by rw [eS193]; exact ⟨hJu192, hJSq188.2⟩
                have hFS193 : F_X1_make S S193 := hGS193
                have je304 : ((b0g_count (b1g_owners S193.1))).toInt = ((b0g_count (b1g_owners u192))).toInt := by rw [eS193]
                try simp (disch := first | ((try simp (disch := first | ((try simp only [pn]) <;> omega) | fail) only [pn, pq]) <;> omega) | fail) only [pn, pq] at je304
                have jf305 := J0g_count (J1g_owners hJS193.1)
                have je307 : ((b3g_mode S193.2)).toInt = ((b3g_mode S.2)).toInt := congrArg (fun z => ((b3g_mode z)).toInt) hFS193
                refine sf_X1_bound hJS193.1 (fun u195 hJu195 hfu195  => ?_)
                have je309 : ((b0g_count (b1g_owners u195))).toInt = ((b0g_count (b1g_owners S193.1))).toInt := congrArg (fun z => ((b0g_count z)).toInt) hfu195.1
                intro S196 eS196
                have hGS196 : F_X1_make S S196 := by
                  rw [eS196]
                  exact hFS193
                have hJS196 : J1 S196.1 ∧ J3 S196.2 := by rw [eS196]; exact ⟨hJu195, hJS193.2⟩
                have hFS196 : F_X1_make S S196 := hGS196
                have je310 : ((b0g_count (b1g_owners S196.1))).toInt = ((b0g_count (b1g_owners u195))).toInt := by rw [eS196]
                try simp (disch := first | ((try simp (disch := first | ((try simp only [pn]) <;> omega) | fail) only [pn, pq]) <;> omega) | fail) only [pn, pq] at je310
                have jf311 := J0g_count (J1g_owners hJS196.1)
                have je313 : ((b3g_mode S196.2)).toInt = ((b3g_mode S.2)).toInt := congrArg (fun z => ((b3g_mode z)).toInt) hFS196
                refine ⟨_, ?_, ?_, ?_, ?_, rfl⟩
                · (try simp (disch := first | ((try simp (disch := first | ((try simp only [pn]) <;> omega) | fail) only [pn, pq]) <;> omega) | fail) only [pn, pq]) <;> (intros; (try simp (disch := first | ((try simp (disch := first | ((try simp only [pn]) <;> omega) | fail) only [pn, pq]) <;> omega) | fail) only [pn, pq]) <;> omega)
                · exact hJS196
                · exact hFS196
                · (try simp (disch := first | ((try simp (disch := first | ((try simp only [pn]) <;> omega) | fail) only [pn, pq]) <;> omega) | fail) only [pn, pq]) <;> (intros; (try simp (disch := first | ((try simp (disch := first | ((try simp only [pn]) <;> omega) | fail) only [pn, pq]) <;> omega) | fail) only [pn, pq]) <;> omega)
            · exact absurd c178 (by decide)
        · try simp (disch := first | ((try simp (disch := first | ((try simp only [pn]) <;> omega) | fail) only [pn, pq]) <;> omega) | fail) only [pn, pq] at c173
          unfold wp_X1_make_38
          unfold wp_X1_make_43
          refine ⟨fun c197 => ?_, fun c197 => ?_⟩
          · exact absurd c197 (by decide)
          · skip
            refine sf_X8_at (by decide) (fun r198 hr198_0 => ?_)
            have rgr198 := pt_rg r198
            try simp (disch := first | ((try simp (disch := first | ((try simp only [pn]) <;> omega) | fail) only [pn, pq]) <;> omega) | fail) only [pn, pq] at hr198_0
            unfold wp_X1_make_61
            intro S200 eS200
            have hJS200 : J1 S200.1 ∧ J3 S200.2 := by rw [eS200]; exact ⟨(J1s_hashBits hJ.1), hJ.2⟩
            have hFS200 : F_X1_make S S200 := by rw [eS200]; exact hFS
            have je314 : ((b0g_count (b1g_owners S200.1))).toInt = ((b0g_count (b1g_owners S.1))).toInt := by rw [eS200]
            have jf315 := J0g_count (J1g_owners hJS200.1)
            have je317 : ((b3g_mode S200.2)).toInt = ((b3g_mode S.2)).toInt := congrArg (fun z => ((b3g_mode z)).toInt) hFS200
            refine ⟨fun c201 => ?_, fun c201 => ?_⟩
            · exact absurd c201 (by decide)
            · skip
              refine sf_X8_at (by decide) (fun r202 hr202_0 => ?_)
              have rgr202 := pt_rg r202
              try simp (disch := first | ((try simp (disch := first | ((try simp only [pn]) <;> omega) | fail) only [pn, pq]) <;> omega) | fail) only [pn, pq] at hr202_0
              unfold wp_X1_make_81
              intro S204 eS204
              have hJS204 : J1 S204.1 ∧ J3 S204.2 := by rw [eS204]; exact ⟨(J1s_realBits hJS200.1), hJS200.2⟩
              have hFS204 : F_X1_make S S204 := by rw [eS204]; exact hFS200
              have je318 : ((b0g_count (b1g_owners S204.1))).toInt = ((b0g_count (b1g_owners S200.1))).toInt := by rw [eS204]
              have jf319 := J0g_count (J1g_owners hJS204.1)
              have je321 : ((b3g_mode S204.2)).toInt = ((b3g_mode S.2)).toInt := congrArg (fun z => ((b3g_mode z)).toInt) hFS204
              refine sf_X8_at (by decide) (fun r205 hr205_0 => ?_)
              have rgr205 := pt_rg r205
              try simp (disch := first | ((try simp (disch := first | ((try simp only [pn]) <;> omega) | fail) only [pn, pq]) <;> omega) | fail) only [pn, pq] at hr205_0
              intro S207 eS207
              have hJS207 : J1 S207.1 ∧ J3 S207.2 := by rw [eS207]; exact ⟨(J1s_salt hJS204.1), hJS204.2⟩
              have hFS207 : F_X1_make S S207 := by rw [eS207]; exact hFS204
              have je322 : ((b0g_count (b1g_owners S207.1))).toInt = ((b0g_count (b1g_owners S204.1))).toInt := by rw [eS207]
              have jf323 := J0g_count (J1g_owners hJS207.1)
              have je325 : ((b3g_mode S207.2)).toInt = ((b3g_mode S.2)).toInt := congrArg (fun z => ((b3g_mode z)).toInt) hFS207
              refine sf_X0_copyFrom (S := ((b1g_owners S207.1), (b3g_members S207.2))) ⟨(J1g_owners hJS207.1), (J3g_members hJS207.2)⟩ (fun u209 hJu209 hfu209 hr208_0 => ?_)
              try simp (disch := first | ((try simp (disch := first | ((try simp only [pn]) <;> omega) | fail) only [pn, pq]) <;> omega) | fail) only [pn, pq] at hr208_0
              intro S210 eS210
              have hGS210 : F_X1_make S S210 := by
                rw [eS210]
                rw [hfu209]
                exact hFS207
              have hJS210 : J1 S210.1 ∧ J3 S210.2 := by rw [eS210]; exact ⟨(J1s_owners hJS207.1 hJu209.1), (J3s_members hJS207.2 hJu209.2)⟩
              have hFS210 : F_X1_make S S210 := hGS210
              have je326 : ((b0g_count (b1g_owners S210.1))).toInt = ((b0g_count u209.1)).toInt := by rw [eS210]
              try simp (disch := first | ((try simp (disch := first | ((try simp only [pn]) <;> omega) | fail) only [pn, pq]) <;> omega) | fail) only [pn, pq] at je326
              have jf327 := J0g_count (J1g_owners hJS210.1)
              have je329 : ((b3g_mode S210.2)).toInt = ((b3g_mode S.2)).toInt := congrArg (fun z => ((b3g_mode z)).toInt) hFS210
              intro S211 eS211
              have hJS211 : J1 S211.1 ∧ J3 S211.2 := by rw [eS211]; exact ⟨(J1s_lows hJS210.1 (J0s_count (J1g_lows hJS210.1) ⟨(by (try simp (disch := first | ((try simp (disch := first | ((try simp only [pn]) <;> omega) | fail) only [pn, pq]) <;> omega) | fail) only [pn, pq]) <;> (intros; (try simp (disch := first | ((try simp (disch := first | ((try simp only [pn]) <;> omega) | fail) only [pn, pq]) <;> omega) | fail) only [pn, pq]) <;> omega)), (by (try simp (disch := first | ((try simp (disch := first | ((try simp only [pn]) <;> omega) | fail) only [pn, pq]) <;> omega) | fail) only [pn, pq]) <;> (intros; (try simp (disch := first | ((try simp (disch := first | ((try simp only [pn]) <;> omega) | fail) only [pn, pq]) <;> omega) | fail) only [pn, pq]) <;> omega))⟩)), hJS210.2⟩
              have hFS211 : F_X1_make S S211 := by rw [eS211]; exact hFS210
              have je330 : ((b0g_count (b1g_owners S211.1))).toInt = ((b0g_count (b1g_owners S210.1))).toInt := by rw [eS211]
              have jf331 := J0g_count (J1g_owners hJS211.1)
              have je333 : ((b3g_mode S211.2)).toInt = ((b3g_mode S.2)).toInt := congrArg (fun z => ((b3g_mode z)).toInt) hFS211
              intro S212 eS212
              have hJS212 : J1 S212.1 ∧ J3 S212.2 := by rw [eS212]; exact ⟨(J1s_highs hJS211.1 (J0s_count (J1g_highs hJS211.1) ⟨(by (try simp (disch := first | ((try simp (disch := first | ((try simp only [pn]) <;> omega) | fail) only [pn, pq]) <;> omega) | fail) only [pn, pq]) <;> (intros; (try simp (disch := first | ((try simp (disch := first | ((try simp only [pn]) <;> omega) | fail) only [pn, pq]) <;> omega) | fail) only [pn, pq]) <;> omega)), (by (try simp (disch := first | ((try simp (disch := first | ((try simp only [pn]) <;> omega) | fail) only [pn, pq]) <;> omega) | fail) only [pn, pq]) <;> (intros; (try simp (disch := first | ((try simp (disch := first | ((try simp only [pn]) <;> omega) | fail) only [pn, pq]) <;> omega) | fail) only [pn, pq]) <;> omega))⟩)), hJS211.2⟩
              have hFS212 : F_X1_make S S212 := by rw [eS212]; exact hFS211
              have je334 : ((b0g_count (b1g_owners S212.1))).toInt = ((b0g_count (b1g_owners S211.1))).toInt := by rw [eS212]
              have jf335 := J0g_count (J1g_owners hJS212.1)
              have je337 : ((b3g_mode S212.2)).toInt = ((b3g_mode S.2)).toInt := congrArg (fun z => ((b3g_mode z)).toInt) hFS212
              refine ⟨fun n x4q213 Sq213 => (J1 Sq213.1 ∧ J3 Sq213.2) ∧ (F_X1_make S Sq213) ∧ (0 ≤ (x4q213).toInt) ∧ n = (((b0g_count (b1g_owners Sq213.1))).toInt + 1 - (x4q213).toInt).toNat, ⟨_, hJS212, hFS212, (by (try simp (disch := first | ((try simp (disch := first | ((try simp only [pn]) <;> omega) | fail) only [pn, pq]) <;> omega) | fail) only [pn, pq]) <;> (intros; (try simp (disch := first | ((try simp (disch := first | ((try simp only [pn]) <;> omega) | fail) only [pn, pq]) <;> omega) | fail) only [pn, pq]) <;> omega)), rfl⟩, ?_⟩
              rintro n214 x4q213 Sq213 ⟨hJSq213, hFSq213, hiq213_0, hn214⟩
              have rgx4q213 := pt_rg x4q213
              unfold wp_X1_make_126b
              have jf338 := J0g_count (J1g_owners hJSq213.1)
              have je340 : ((b3g_mode Sq213.2)).toInt = ((b3g_mode S.2)).toInt := congrArg (fun z => ((b3g_mode z)).toInt) hFSq213
              refine ⟨fun c215 => ?_, fun c215 => ?_⟩
              · try simp (disch := first | ((try simp (disch := first | ((try simp only [pn]) <;> omega) | fail) only [pn, pq]) <;> omega) | fail) only [pn, pq] at c215
                exact hq _ hJSq213 hFSq213 
              · try simp (disch := first | ((try simp (disch := first | ((try simp only [pn]) <;> omega) | fail) only [pn, pq]) <;> omega) | fail) only [pn, pq] at c215
                refine sf_X1_cut hJSq213.1 (by (try simp (disch := first | ((try simp (disch := first | ((try simp only [pn]) <;> omega) | fail) only [pn, pq]) <;> omega) | fail) only [pn, pq]) <;> (intros; (try simp (disch := first | ((try simp (disch := first | ((try simp only [pn]) <;> omega) | fail) only [pn, pq]) <;> omega) | fail) only [pn, pq]) <;> omega)) (by (try simp (disch := first | ((try simp (disch := first | ((try simp only [pn]) <;> omega) | fail) only [pn, pq]) <;> omega) | fail) only [pn, pq]) <;> (intros; (try simp (disch := first | ((try simp (disch := first | ((try simp only [pn]) <;> omega) | fail) only [pn, pq]) <;> omega) | fail) only [pn, pq]) <;> omega)) (fun u217 hJu217 hfu217  => ?_)
                have je342 : ((b0g_count (b1g_owners u217))).toInt = ((b0g_count (b1g_owners Sq213.1))).toInt := congrArg (fun z => ((b0g_count z)).toInt) hfu217.1
                intro S218 eS218
                have hGS218 : F_X1_make S S218 := by
                  rw [eS218]
                  exact hFSq213
                have hJS218 : J1 S218.1 ∧ J3 S218.2 := by rw [eS218]; exact ⟨hJu217, hJSq213.2⟩
                have hFS218 : F_X1_make S S218 := hGS218
                have je343 : ((b0g_count (b1g_owners S218.1))).toInt = ((b0g_count (b1g_owners u217))).toInt := by rw [eS218]
                try simp (disch := first | ((try simp (disch := first | ((try simp only [pn]) <;> omega) | fail) only [pn, pq]) <;> omega) | fail) only [pn, pq] at je343
                have jf344 := J0g_count (J1g_owners hJS218.1)
                have je346 : ((b3g_mode S218.2)).toInt = ((b3g_mode S.2)).toInt := congrArg (fun z => ((b3g_mode z)).toInt) hFS218
                refine sf_X1_bound hJS218.1 (fun u220 hJu220 hfu220  => ?_)
                have je348 : ((b0g_count (b1g_owners u220))).toInt = ((b0g_count (b1g_owners S218.1))).toInt := congrArg (fun z => ((b0g_count z)).toInt) hfu220.1
                intro S221 eS221
                have hGS221 : F_X1_make S S221 := by
                  rw [eS221]
                  exact hFS218
                have hJS221 : J1 S221.1 ∧ J3 S221.2 := by rw [eS221]; exact ⟨hJu220, hJS218.2⟩
                have hFS221 : F_X1_make S S221 := hGS221
                have je349 : ((b0g_count (b1g_owners S221.1))).toInt = ((b0g_count (b1g_owners u220))).toInt := by rw [eS221]
                try simp (disch := first | ((try simp (disch := first | ((try simp only [pn]) <;> omega) | fail) only [pn, pq]) <;> omega) | fail) only [pn, pq] at je349
                have jf350 := J0g_count (J1g_owners hJS221.1)
                have je352 : ((b3g_mode S221.2)).toInt = ((b3g_mode S.2)).toInt := congrArg (fun z => ((b3g_mode z)).toInt) hFS221
                refine ⟨_, ?_, ?_, ?_, ?_, rfl⟩
                · (try simp (disch := first | ((try simp (disch := first | ((try simp only [pn]) <;> omega) | fail) only [pn, pq]) <;> omega) | fail) only [pn, pq]) <;> (intros; (try simp (disch := first | ((try simp (disch := first | ((try simp only [pn]) <;> omega) | fail) only [pn, pq]) <;> omega) | fail) only [pn, pq]) <;> omega)
                · exact hJS221
                · exact hFS221
                · (try simp (disch := first | ((try simp (disch := first | ((try simp only [pn]) <;> omega) | fail) only [pn, pq]) <;> omega) | fail) only [pn, pq]) <;> (intros; (try simp (disch := first | ((try simp (disch := first | ((try simp only [pn]) <;> omega) | fail) only [pn, pq]) <;> omega) | fail) only [pn, pq]) <;> omega)
set_option maxRecDepth 20000 in
set_option maxHeartbeats 1000000 in
theorem sf_X1_count {S : bT1} (hJ : J1 S) {Q : Int32 → Prop} (hq : ∀ r : Int32, (r.toInt = (b0g_count (b1g_owners S)).toInt) → Q r) : wp_X1_count S Q := by
  unfold wp_X1_count
  have jf1 := J0g_count (J1g_owners hJ)
  exact hq _ (by (try simp (disch := first | ((try simp (disch := first | ((try simp only [pn]) <;> omega) | fail) only [pn, pq]) <;> omega) | fail) only [pn, pq]) <;> (intros; (try simp (disch := first | ((try simp (disch := first | ((try simp only [pn]) <;> omega) | fail) only [pn, pq]) <;> omega) | fail) only [pn, pq]) <;> omega))
set_option maxRecDepth 20000 in
set_option maxHeartbeats 1000000 in
theorem sf_X8_lowest {a0 : Int32} {a1 : Int32} {Q : Int32 → Prop} (hq : ∀ r : Int32, Q r) : wp_X8_lowest a0 a1 Q := by
  unfold wp_X8_lowest
  have rga0 := pt_rg a0
  have rga1 := pt_rg a1
  exact hq _ 
set_option maxRecDepth 20000 in
set_option maxHeartbeats 1000000 in
theorem sf_X1_hashAt {S : bT1} (hJ : J1 S) {a1 : Int32} {Q : Int32 → Prop} (hq : ∀ r : Int32, Q r) : wp_X1_hashAt S a1 Q := by
  unfold wp_X1_hashAt
  have rga1 := pt_rg a1
  refine sf_X8_at (by decide) (fun r1 hr1_0 => ?_)
  have rgr1 := pt_rg r1
  try simp (disch := first | ((try simp (disch := first | ((try simp only [pn]) <;> omega) | fail) only [pn, pq]) <;> omega) | fail) only [pn, pq] at hr1_0
  refine sf_X8_lowest  (fun r3  => ?_)
  have rgr3 := pt_rg r3
  exact hq _ 
set_option maxRecDepth 20000 in
set_option maxHeartbeats 1000000 in
theorem sf_X1_possibleAt {S : bT1} (hJ : J1 S) {a1 : Int64} {a3 : Int32} {Q : Int32 → Prop} (hq : ∀ r : Int32, Q r) : wp_X1_possibleAt S a1 a3 Q := by
  unfold wp_X1_possibleAt
  have rga3 := pt_rg a3
  refine sf_X0_upTo (J1g_lows hJ) (fun r1 hr1_0 hr1_1 => ?_)
  have rgr1 := pt_rg r1
  try simp (disch := first | ((try simp (disch := first | ((try simp only [pn]) <;> omega) | fail) only [pn, pq]) <;> omega) | fail) only [pn, pq] at hr1_0
  try simp (disch := first | ((try simp (disch := first | ((try simp only [pn]) <;> omega) | fail) only [pn, pq]) <;> omega) | fail) only [pn, pq] at hr1_1
  refine ⟨fun c3 => ?_, fun c3 => ?_⟩
  · try simp (disch := first | ((try simp (disch := first | ((try simp only [pn]) <;> omega) | fail) only [pn, pq]) <;> omega) | fail) only [pn, pq] at c3
    unfold wp_X1_possibleAt_48
    unfold wp_X1_possibleAt_49
    refine ⟨fun c4 => ?_, fun c4 => ?_⟩
    · skip
      exact hq _ 
    · exact absurd c4 (by decide)
  · try simp (disch := first | ((try simp (disch := first | ((try simp only [pn]) <;> omega) | fail) only [pn, pq]) <;> omega) | fail) only [pn, pq] at c3
    refine sf_X0_bytesAt (J1g_highs hJ) (fun r5  => ?_)
    refine sf_X0_lengthAt (J1g_highs hJ) (fun r7  => ?_)
    have rgr7 := pt_rg r7
    refine sf_X8_order  (fun r9  => ?_)
    have rgr9 := pt_rg r9
    refine ⟨fun c11 => ?_, fun c11 => ?_⟩
    · try simp (disch := first | ((try simp (disch := first | ((try simp only [pn]) <;> omega) | fail) only [pn, pq]) <;> omega) | fail) only [pn, pq] at c11
      unfold wp_X1_possibleAt_48
      unfold wp_X1_possibleAt_49
      refine ⟨fun c12 => ?_, fun c12 => ?_⟩
      · skip
        exact hq _ 
      · exact absurd c12 (by decide)
    · try simp (disch := first | ((try simp (disch := first | ((try simp only [pn]) <;> omega) | fail) only [pn, pq]) <;> omega) | fail) only [pn, pq] at c11
      unfold wp_X1_possibleAt_49
      refine ⟨fun c13 => ?_, fun c13 => ?_⟩
      · exact absurd c13 (by decide)
      · skip
        exact hq _ 
