def F_X0_insert (S u : bT0) : Prop := True
theorem sf_X0_insert {S : bT0} (hJ : J0 S) {a1 : Int64} {a3 : Int32} {Q : Int32 → (bT0) → Prop} (hq : ∀ (r : Int32) (u : bT0), (J0 u) → F_X0_insert S u → (SRT (b0g_bytes S) (b0g_lengths S) (b0g_count S).toInt → 1 ≤ a3.toInt ∧ a3.toInt ≤ 8 → INS (b0g_bytes S) (b0g_lengths S) (b0g_count S).toInt a1 a3 r.toInt (b0g_bytes u) (b0g_lengths u) (b0g_count u).toInt) → Q r u) : wp_X0_insert S a1 a3 Q := by
  have jc := hJ
  obtain ⟨j0, j1⟩ := jc
  unfold wp_X0_insert
  refine fx_ahead hJ (fun r h0 h1 hl => ⟨fun c => ?_, fun c => ?_⟩)
  · simp only [pn] at c
    exact hq _ _ hJ trivial (fun hs hn => Or.inl ⟨rfl, rfl, fun j hj => ⟨rfl, rfl⟩, Or.inl (by omega)⟩)
  simp only [pn] at c
  have go : (SRT (b0g_bytes S) (b0g_lengths S) (b0g_count S).toInt → 1 ≤ a3.toInt ∧ a3.toInt ≤ 8 → ∀ j : Nat, (j : Int) < (b0g_count S).toInt → ¬ (b0g_bytes S j = a1 ∧ b0g_lengths S j = a3)) → wp_X0_insert_40 S a1 a3 r Q := by
    intro hne
    unfold wp_X0_insert_40 wp_X0_insert_46
    refine ⟨fun n x1 x3 x4 x5 V => x1 = a1 ∧ x3 = a3 ∧ x4 = r ∧ b0g_count V = b0g_count S ∧ r.toInt ≤ x5.toInt ∧ x5.toInt ≤ (b0g_count S).toInt ∧ (∀ j : Nat, (j : Int) < x5.toInt → b0g_bytes V j = b0g_bytes S j ∧ b0g_lengths V j = b0g_lengths S j) ∧ (∀ j : Nat, x5.toInt ≤ (j : Int) → (j : Int) < (b0g_count S).toInt → b0g_bytes V (j + 1) = b0g_bytes S j ∧ b0g_lengths V (j + 1) = b0g_lengths S j) ∧ n = x5.toInt.toNat, ⟨_, rfl, rfl, rfl, rfl, h1, Int.le_refl _, fun j hj => ⟨rfl, rfl⟩, fun j hj hc => by omega, rfl⟩, ?_⟩
    rintro n x1 x3 x4 x5 V ⟨e1, e3, e4, eV, l1, l2, p1, p2, hn0⟩
    unfold wp_X0_insert_46b
    rw [e1, e3, e4]
    have cr := pt_clamp h0
    refine ⟨fun d => ?_, fun d => ?_⟩
    · simp only [pn] at d
      have vin : vp_in r 64 := pt_in (by omega) (by omega)
      refine ⟨vin, fun S1 d1 => ⟨vin, fun S2 d2 S3 d3 => ?_⟩⟩
      have ec : b0g_count S3 = b0g_count S + 1 := by rw [d3, d2, d1]; exact congrArg (fun z => z + 1) eV
      have ec' : (b0g_count S3).toInt = (b0g_count S).toInt + 1 := by
        rw [ec, pt_add (by rw [pl_1]; omega) (by rw [pl_1]; omega), pl_1]
      have eb : b0g_bytes S3 = vp_updL (b0g_bytes V) r.toNatClampNeg a1 := by rw [d3, d2, d1]
      have el : b0g_lengths S3 = upd (b0g_lengths V) r.toNatClampNeg a3 := by rw [d3, d2, d1]
      refine hq _ _ ⟨by rw [ec']; omega, by rw [ec']; omega⟩ trivial (fun hs hn => Or.inr ⟨by omega, ec', hl hs hn, hne hs hn, fun j hj => ?_, fun j hj => ?_, fun j hj hc => ?_⟩)
      · rw [eb, el]
        unfold vp_updL upd
        rw [if_neg (by omega), if_neg (by omega)]
        exact p1 j (by omega)
      · rw [eb, el]
        unfold vp_updL upd
        rw [if_pos (by omega), if_pos (by omega)]
        exact ⟨rfl, rfl⟩
      · rw [eb, el]
        unfold vp_updL upd
        rw [if_neg (by omega), if_neg (by omega)]
        exact p2 j (by omega) hc
    · simp only [pn] at d
      have x1' : (x5 - 1).toInt = x5.toInt - 1 := by rw [pt_sub (by rw [pl_1]; omega) (by rw [pl_1]; omega), pl_1]
      have x2' : (x5 + (-1 : Int32)).toInt = x5.toInt - 1 := by
        rw [pt_add (by rw [pl_m1]; omega) (by rw [pl_m1]; omega), pl_m1]
        omega
      obtain ⟨y, hy⟩ : ∃ y : Int32, x5 + (-1 : Int32) = y := ⟨_, rfl⟩
      rw [hy] at x2'
      have c5 := pt_clamp (i := x5) (by omega)
      have c51 := pt_clamp (i := x5 - 1) (by omega)
      have v1 : vp_in (x5 - 1) 64 := pt_in (by omega) (by omega)
      have v2 : vp_in x5 64 := pt_in (by omega) (by omega)
      refine ⟨v1, v2, fun S4 d4 => ⟨v1, v2, fun S5 d5 => ?_⟩⟩
      rw [hy]
      have eb : b0g_bytes S5 = vp_updL (b0g_bytes V) x5.toNatClampNeg (b0g_bytes V (x5 - 1).toNatClampNeg) := by rw [d5, d4]
      have el : b0g_lengths S5 = upd (b0g_lengths V) x5.toNatClampNeg (b0g_lengths V (x5 - 1).toNatClampNeg) := by rw [d5, d4]
      refine ⟨_, ?_, rfl, rfl, rfl, by rw [d5, d4]; exact eV, by omega, by omega, fun j hj => ?_, fun j hj hc => ?_, rfl⟩
      · omega
      · rw [eb, el]
        unfold vp_updL upd
        rw [if_neg (by omega), if_neg (by omega)]
        exact p1 j (by omega)
      · rw [eb, el]
        unfold vp_updL upd
        by_cases h : j + 1 = x5.toNatClampNeg
        · rw [if_pos h, if_pos h, show (x5 - 1).toNatClampNeg = j by omega]
          exact p1 j (by omega)
        · rw [if_neg h, if_neg h]
          exact p2 j (by omega) hc
  refine fx_bytesAt hJ (fun b hb hb0 => ⟨fun c2 => go (fun hs hn => ?_), fun c2 => fx_lengthAt hJ (fun l hl2 hl0 => ⟨fun d => go (fun hs hn => ?_), fun d => ?_⟩)⟩)
  · exact LES_no hs (hl hs hn) (fun j hj hc hh => c2 ((lg_cmp_eq _ _).mpr ((hb j hj (by omega)).trans hh.1)))
  · exact LES_no hs (hl hs hn) (fun j hj hc hh => d ((hl2 j hj (by omega)).trans hh.2))
  · refine hq _ _ hJ trivial (fun hs hn => Or.inl ⟨rfl, rfl, fun j hj => ⟨rfl, rfl⟩, Or.inr ⟨r.toInt.toNat, ?_, ?_, ?_⟩⟩)
    · apply Classical.byContradiction
      intro hh
      have z := hl0 (by omega)
      rw [z] at d
      rw [← d, pl_0] at hn
      omega
    · have lt : r.toInt < (b0g_count S).toInt := by
        apply Classical.byContradiction
        intro hh
        have z := hl0 (by omega)
        rw [z] at d
        rw [← d, pl_0] at hn
        omega
      exact (hb r.toInt.toNat (by omega) (by omega)).symm.trans ((lg_cmp_eq _ _).mp c2)
    · have lt : r.toInt < (b0g_count S).toInt := by
        apply Classical.byContradiction
        intro hh
        have z := hl0 (by omega)
        rw [z] at d
        rw [← d, pl_0] at hn
        omega
      exact (hl2 r.toInt.toNat (by omega) (by omega)).symm.trans d
def F_X0_append (S u : bT0) : Prop := True
set_option maxRecDepth 20000 in
set_option maxHeartbeats 8000000 in
theorem sf_X0_append {S : bT0} (hJ : J0 S) {a1 : Int64} {a3 : Int32} {Q : (bT0) → Prop} (hq : ∀ u : bT0, (J0 u) → F_X0_append S u → ((b0g_count S).toInt < 64 → (b0g_count u).toInt = (b0g_count S).toInt + 1) → Q u) : wp_X0_append S a1 a3 Q := by
  unfold wp_X0_append
  have hFS : F_X0_append S S := trivial
  have jf1 := J0g_count hJ
  have rga3 := pt_rg a3
  refine ⟨fun c1 => ?_, fun c1 => ?_⟩
  · try simp (disch := first | ((try simp (disch := first | ((try simp only [pn]) <;> omega) | fail) only [pn, pq]) <;> omega) | fail) only [pn, pq] at c1
    exact hq _ hJ hFS (by (try simp (disch := first | ((try simp (disch := first | ((try simp only [pn]) <;> omega) | fail) only [pn, pq]) <;> omega) | fail) only [pn, pq]) <;> (intros; (try simp (disch := first | ((try simp (disch := first | ((try simp only [pn]) <;> omega) | fail) only [pn, pq]) <;> omega) | fail) only [pn, pq]) <;> omega))
  · try simp (disch := first | ((try simp (disch := first | ((try simp only [pn]) <;> omega) | fail) only [pn, pq]) <;> omega) | fail) only [pn, pq] at c1
    refine ⟨pt_in (by (try simp (disch := first | ((try simp (disch := first | ((try simp only [pn]) <;> omega) | fail) only [pn, pq]) <;> omega) | fail) only [pn, pq]) <;> (intros; (try simp (disch := first | ((try simp (disch := first | ((try simp only [pn]) <;> omega) | fail) only [pn, pq]) <;> omega) | fail) only [pn, pq]) <;> omega)) (by (try simp (disch := first | ((try simp (disch := first | ((try simp only [pn]) <;> omega) | fail) only [pn, pq]) <;> omega) | fail) only [pn, pq]) <;> (intros; (try simp (disch := first | ((try simp (disch := first | ((try simp only [pn]) <;> omega) | fail) only [pn, pq]) <;> omega) | fail) only [pn, pq]) <;> omega)), ?_⟩
    intro S2 eS2
    have hJS2 : J0 S2 := by rw [eS2]; exact (J0s_bytes hJ)
    have hFS2 : F_X0_append S S2 := by rw [eS2]; exact hFS
    have je2 : ((b0g_count S2)).toInt = ((b0g_count S)).toInt := by rw [eS2]
    have jf3 := J0g_count hJS2
    refine ⟨pt_in (by (try simp (disch := first | ((try simp (disch := first | ((try simp only [pn]) <;> omega) | fail) only [pn, pq]) <;> omega) | fail) only [pn, pq]) <;> (intros; (try simp (disch := first | ((try simp (disch := first | ((try simp only [pn]) <;> omega) | fail) only [pn, pq]) <;> omega) | fail) only [pn, pq]) <;> omega)) (by (try simp (disch := first | ((try simp (disch := first | ((try simp only [pn]) <;> omega) | fail) only [pn, pq]) <;> omega) | fail) only [pn, pq]) <;> (intros; (try simp (disch := first | ((try simp (disch := first | ((try simp only [pn]) <;> omega) | fail) only [pn, pq]) <;> omega) | fail) only [pn, pq]) <;> omega)), ?_⟩
    intro S3 eS3
    have hJS3 : J0 S3 := by rw [eS3]; exact (J0s_lengths hJS2)
    have hFS3 : F_X0_append S S3 := by rw [eS3]; exact hFS2
    have je4 : ((b0g_count S3)).toInt = ((b0g_count S2)).toInt := by rw [eS3]
    have jf5 := J0g_count hJS3
    intro S4 eS4
    have hJS4 : J0 S4 := by rw [eS4]; exact (J0s_count hJS3 ⟨(by (try simp (disch := first | ((try simp (disch := first | ((try simp only [pn]) <;> omega) | fail) only [pn, pq]) <;> omega) | fail) only [pn, pq]) <;> (intros; (try simp (disch := first | ((try simp (disch := first | ((try simp only [pn]) <;> omega) | fail) only [pn, pq]) <;> omega) | fail) only [pn, pq]) <;> omega)), (by (try simp (disch := first | ((try simp (disch := first | ((try simp only [pn]) <;> omega) | fail) only [pn, pq]) <;> omega) | fail) only [pn, pq]) <;> (intros; (try simp (disch := first | ((try simp (disch := first | ((try simp only [pn]) <;> omega) | fail) only [pn, pq]) <;> omega) | fail) only [pn, pq]) <;> omega))⟩)
    have hFS4 : F_X0_append S S4 := by rw [eS4]; exact hFS3
    have je6 : ((b0g_count S4)).toInt = (((b0g_count S3) + (1 : Int32))).toInt := by rw [eS4]
    try simp (disch := first | ((try simp (disch := first | ((try simp only [pn]) <;> omega) | fail) only [pn, pq]) <;> omega) | fail) only [pn, pq] at je6
    have jf7 := J0g_count hJS4
    exact hq _ hJS4 hFS4 (by (try simp (disch := first | ((try simp (disch := first | ((try simp only [pn]) <;> omega) | fail) only [pn, pq]) <;> omega) | fail) only [pn, pq]) <;> (intros; (try simp (disch := first | ((try simp (disch := first | ((try simp only [pn]) <;> omega) | fail) only [pn, pq]) <;> omega) | fail) only [pn, pq]) <;> omega))
def F_X0_drop (S u : bT0) : Prop := True
theorem sf_X0_drop {S : bT0} (hJ : J0 S) {a1 : Int32} {Q : (bT0) → Prop} (hq : ∀ u : bT0, (J0 u) → F_X0_drop S u → (DRP (b0g_bytes S) (b0g_lengths S) (b0g_count S).toInt a1.toInt (b0g_bytes u) (b0g_lengths u) (b0g_count u).toInt) → Q u) : wp_X0_drop S a1 Q := by
  have jc := hJ
  obtain ⟨j0, j1⟩ := jc
  unfold wp_X0_drop
  refine ⟨fun c => ?_, fun c => ⟨fun c2 => ?_, fun c2 => ?_⟩⟩
  · simp only [pn] at c
    exact hq _ hJ trivial (Or.inl ⟨by omega, rfl, fun j hj => ⟨rfl, rfl⟩⟩)
  · simp only [pn] at c c2
    exact hq _ hJ trivial (Or.inl ⟨by omega, rfl, fun j hj => ⟨rfl, rfl⟩⟩)
  simp only [pn] at c c2
  have a1' : (a1 + 1).toInt = a1.toInt + 1 := by rw [pt_add (by rw [pl_1]; omega) (by rw [pl_1]; omega), pl_1]
  unfold wp_X0_drop_16
  refine ⟨fun n x2 V => b0g_count V = b0g_count S ∧ a1.toInt < x2.toInt ∧ x2.toInt ≤ (b0g_count S).toInt ∧ (∀ j : Nat, (j : Int) < a1.toInt ∨ x2.toInt ≤ (j : Int) → b0g_bytes V j = b0g_bytes S j ∧ b0g_lengths V j = b0g_lengths S j) ∧ (∀ j : Nat, a1.toInt ≤ (j : Int) → (j : Int) + 1 < x2.toInt → b0g_bytes V j = b0g_bytes S (j + 1) ∧ b0g_lengths V j = b0g_lengths S (j + 1)) ∧ n = ((b0g_count S).toInt - x2.toInt).toNat, ⟨_, rfl, by omega, by omega, fun j hj => ⟨rfl, rfl⟩, fun j hj hc => by omega, rfl⟩, ?_⟩
  rintro n x2 V ⟨eV, l1, l2, p1, p2, hn0⟩
  unfold wp_X0_drop_16b
  rw [eV]
  refine ⟨fun d S1 d1 => ?_, fun d => ?_⟩
  · simp only [pn] at d
    have ec : (b0g_count S1).toInt = (b0g_count S).toInt - 1 := by
      rw [d1]
      show (b0g_count S - 1).toInt = _
      rw [pt_sub (by rw [pl_1]; omega) (by rw [pl_1]; omega), pl_1]
    have eb : b0g_bytes S1 = b0g_bytes V := by rw [d1]
    have el : b0g_lengths S1 = b0g_lengths V := by rw [d1]
    refine hq _ ⟨by rw [ec]; omega, by rw [ec]; omega⟩ trivial (Or.inr ⟨by omega, by omega, ec, fun j hj => ?_, fun j hj hc => ?_⟩)
    · rw [eb, el]
      exact p1 j (Or.inl hj)
    · rw [eb, el]
      exact p2 j hj (by omega)
  · simp only [pn] at d
    have x1' : (x2 - 1).toInt = x2.toInt - 1 := by rw [pt_sub (by rw [pl_1]; omega) (by rw [pl_1]; omega), pl_1]
    have x2' : (x2 + 1).toInt = x2.toInt + 1 := by rw [pt_add (by rw [pl_1]; omega) (by rw [pl_1]; omega), pl_1]
    have c5 := pt_clamp (i := x2) (by omega)
    have c51 := pt_clamp (i := x2 - 1) (by omega)
    have v1 : vp_in (x2 - 1) 64 := pt_in (by omega) (by omega)
    have v2 : vp_in x2 64 := pt_in (by omega) (by omega)
    refine ⟨v2, v1, fun S4 d4 => ⟨v2, v1, fun S5 d5 => ?_⟩⟩
    have eb : b0g_bytes S5 = vp_updL (b0g_bytes V) (x2 - 1).toNatClampNeg (b0g_bytes V x2.toNatClampNeg) := by rw [d5, d4]
    have el : b0g_lengths S5 = upd (b0g_lengths V) (x2 - 1).toNatClampNeg (b0g_lengths V x2.toNatClampNeg) := by rw [d5, d4]
    refine ⟨_, ?_, by rw [d5, d4]; exact eV, by omega, by omega, fun j hj => ?_, fun j hj hc => ?_, rfl⟩
    · omega
    · rw [eb, el]
      unfold vp_updL upd
      rw [if_neg (by omega), if_neg (by omega)]
      exact p1 j (by omega)
    · rw [eb, el]
      unfold vp_updL upd
      by_cases h : j = (x2 - 1).toNatClampNeg
      · rw [if_pos h, if_pos h, show x2.toNatClampNeg = j + 1 by omega]
        exact p1 (j + 1) (by omega)
      · rw [if_neg h, if_neg h]
        exact p2 j hj (by omega)
def F_X0_copyFrom (S u : bT0 × bT0) : Prop := u.2 = S.2
theorem sf_X0_copyFrom {S : bT0 × bT0} (hJ : J0 S.1 ∧ J0 S.2) {Q : (bT0 × bT0) → Prop} (hq : ∀ u : bT0 × bT0, (J0 u.1 ∧ J0 u.2) → F_X0_copyFrom S u → ((b0g_count u.1).toInt = (b0g_count S.2).toInt) → (REQ u.1 S.2) → Q u) : wp_X0_copyFrom S Q := by
  unfold wp_X0_copyFrom
  intro S1 e1 S2 e2 S3 e3
  have eb : b0g_bytes S3.1 = va_cpy (b0g_bytes S.2) (b0g_bytes S.1) ((0 : Int32)).toNatClampNeg ((0 : Int32)).toNatClampNeg ((64 : Int32)).toNatClampNeg := by rw [e3, e2, e1]
  have el : b0g_lengths S3.1 = va_cpy (b0g_lengths S.2) (b0g_lengths S.1) ((0 : Int32)).toNatClampNeg ((0 : Int32)).toNatClampNeg ((64 : Int32)).toNatClampNeg := by rw [e3, e2, e1]
  have ec : b0g_count S3.1 = b0g_count S.2 := by rw [e3, e2, e1]
  have e2' : S3.2 = S.2 := by rw [e3, e2, e1]
  refine hq _ ⟨?_, ?_⟩ e2' (by rw [ec]) ⟨ec, fun j hj => ?_⟩
  · have h := hJ.2
    unfold J0 at h ⊢
    rw [ec]
    exact h
  · rw [e2']
    exact hJ.2
  · rw [eb, el, cpy_at (k := 64) (by decide) hj, cpy_at (k := 64) (by decide) hj]
    exact ⟨rfl, rfl⟩
theorem sf_X0_notIn {S : bT0 × bT0} (hJ : J0 S.1 ∧ J0 S.2) {Q : Int32 → Prop} (hq : ∀ r : Int32, (SRT (b0g_bytes S.1) (b0g_lengths S.1) (b0g_count S.1).toInt ∧ SRT (b0g_bytes S.2) (b0g_lengths S.2) (b0g_count S.2).toInt → r.toInt = CTP (NIN (b0g_bytes S.1) (b0g_lengths S.1) (b0g_bytes S.2) (b0g_lengths S.2) (b0g_count S.2).toInt) (b0g_count S.1).toInt.toNat) → Q r) : wp_X0_notIn S Q := by
  have j1 := J0g_count hJ.1
  unfold wp_X0_notIn wp_X0_notIn_4
  refine ⟨fun n x2 x3 => 0 ≤ x3.toInt ∧ x3.toInt ≤ (b0g_count S.1).toInt ∧ 0 ≤ x2.toInt ∧ x2.toInt ≤ x3.toInt ∧ ((SRT (b0g_bytes S.1) (b0g_lengths S.1) (b0g_count S.1).toInt ∧ SRT (b0g_bytes S.2) (b0g_lengths S.2) (b0g_count S.2).toInt) → x2.toInt = CTP (NIN (b0g_bytes S.1) (b0g_lengths S.1) (b0g_bytes S.2) (b0g_lengths S.2) (b0g_count S.2).toInt) x3.toInt.toNat) ∧ n = ((b0g_count S.1).toInt - x3.toInt).toNat, ⟨_, by decide, by rw [pl_0]; exact j1.1, by decide, by decide, fun _ => rfl, rfl⟩, ?_⟩
  rintro n x2 x3 ⟨h0, h1, w0, w1, hI, hn⟩
  unfold wp_X0_notIn_4b
  refine ⟨fun c => hq _ (fun o => ?_), fun c => ?_⟩
  · simp only [pn] at c
    rw [hI o, show x3.toInt.toNat = (b0g_count S.1).toInt.toNat by omega]
  simp only [pn] at c
  have cx := pt_clamp h0
  have x3' : (x3 + 1).toInt = x3.toInt + 1 := by rw [pt_add (by rw [pl_1]; omega) (by rw [pl_1]; omega), pl_1]
  have x2' : (x2 + 1).toInt = x2.toInt + 1 := by rw [pt_add (by rw [pl_1]; omega) (by rw [pl_1]; omega), pl_1]
  refine fx_bytesAt hJ.1 (fun r1 b1 _ => fx_lengthAt hJ.1 (fun r3 b3 _ => fx_numberOf hJ.2 (fun r5 p0 p1 hN => ?_)))
  have e1 := b1 x3.toNatClampNeg (by omega) (by omega)
  have e3 := b3 x3.toNatClampNeg (by omega) (by omega)
  have key : (SRT (b0g_bytes S.1) (b0g_lengths S.1) (b0g_count S.1).toInt ∧ SRT (b0g_bytes S.2) (b0g_lengths S.2) (b0g_count S.2).toInt) → (r5.toInt = -1 ↔ (NIN (b0g_bytes S.1) (b0g_lengths S.1) (b0g_bytes S.2) (b0g_lengths S.2) (b0g_count S.2).toInt) x3.toNatClampNeg) := by
    intro o
    have l := o.1.2 x3.toNatClampNeg (by omega)
    exact NIN_num e1 e3 (hN o.2 (by rw [e3]; exact l))
  unfold wp_X0_notIn_33
  refine ⟨fun d => ⟨_, ?_, by omega, by omega, by omega, by omega, fun o => ?_, rfl⟩, fun d => ⟨_, ?_, by omega, by omega, by omega, by omega, fun o => ?_, rfl⟩⟩
  · omega
  · have np : ¬ (NIN (b0g_bytes S.1) (b0g_lengths S.1) (b0g_bytes S.2) (b0g_lengths S.2) (b0g_count S.2).toInt) x3.toNatClampNeg := fun h => d (Int32.toInt_inj.mp (((key o).mpr h).trans pl_m1.symm))
    rw [x3', show (x3.toInt + 1).toNat = x3.toNatClampNeg + 1 by omega, CTP_n np, hI o, show x3.toInt.toNat = x3.toNatClampNeg by omega]
  · omega
  · have yp : (NIN (b0g_bytes S.1) (b0g_lengths S.1) (b0g_bytes S.2) (b0g_lengths S.2) (b0g_count S.2).toInt) x3.toNatClampNeg := (key o).mp (by rw [d]; rfl)
    rw [x3', show (x3.toInt + 1).toNat = x3.toNatClampNeg + 1 by omega, CTP_y yp, x2', hI o, show x3.toInt.toNat = x3.toNatClampNeg by omega]
theorem sf_X0_ofLength {S : bT0} (hJ : J0 S) {a1 : Int32} {Q : Int32 → Prop} (hq : ∀ r : Int32, (∀ x : Int64, x - r.toInt64 = LSE x (b0g_lengths S) a1 (b0g_count S).toInt.toNat) → Q r) : wp_X0_ofLength S a1 Q := by
  have jc := J0g_count hJ
  have zz : ((0 : Int32)).toInt64 = 0 := by decide
  unfold wp_X0_ofLength wp_X0_ofLength_4
  refine ⟨fun n x1 x2 x3 => x1 = a1 ∧ 0 ≤ x3.toInt ∧ x3.toInt ≤ (b0g_count S).toInt ∧ 0 ≤ x2.toInt ∧ x2.toInt ≤ x3.toInt ∧ (∀ x : Int64, x - x2.toInt64 = LSE x (b0g_lengths S) a1 x3.toInt.toNat) ∧ n = (64 - x3.toInt).toNat, ⟨_, rfl, by decide, by rw [pl_0]; exact jc.1, by decide, by decide, fun x => by rw [zz]; exact i64_sub0 x, rfl⟩, ?_⟩
  rintro n x1 x2 x3 ⟨e1, h0, h1, w0, w1, hI, hn⟩
  unfold wp_X0_ofLength_4b
  rw [e1]
  refine ⟨fun c => hq _ (fun x => ?_), fun c => ?_⟩
  · simp only [pn] at c
    rw [hI x, show x3.toInt.toNat = (b0g_count S).toInt.toNat by omega]
  simp only [pn] at c
  have x3' : (x3 + 1).toInt = x3.toInt + 1 := by rw [pt_add (by rw [pl_1]; omega) (by rw [pl_1]; omega), pl_1]
  have x2' : (x2 + 1).toInt = x2.toInt + 1 := by rw [pt_add (by rw [pl_1]; omega) (by rw [pl_1]; omega), pl_1]
  have s3 : (x3 + 1).toInt.toNat = x3.toInt.toNat + 1 := by omega
  refine fx_lengthAt hJ (fun r1 p1 _ => ?_)
  have e := p1 x3.toInt.toNat (by omega) (by omega)
  unfold wp_X0_ofLength_24
  refine ⟨fun d => ⟨_, ?_, rfl, by omega, by omega, by omega, by omega, fun x => ?_, rfl⟩, fun d => ⟨_, ?_, rfl, by omega, by omega, by omega, by omega, fun x => ?_, rfl⟩⟩
  · omega
  · have nd : ¬ b0g_lengths S x3.toInt.toNat = a1 := by rw [← e]; exact d
    rw [s3, LSE_n nd]
    exact hI x
  · omega
  · have yd : b0g_lengths S x3.toInt.toNat = a1 := by rw [← e]; exact d
    rw [s3]
    exact LSE_num w0 (by omega) (by omega) (hI x) yd
set_option maxRecDepth 20000 in
set_option maxHeartbeats 8000000 in
theorem sf_X0_allBytes {S : bT0} (hJ : J0 S) {Q : Int32 → Prop} (hq : ∀ r : Int32, Q r) : wp_X0_allBytes S Q := by
  unfold wp_X0_allBytes
  have jf1 := J0g_count hJ
  refine ⟨fun n x1q1 x2q1 => (0 ≤ (x2q1).toInt) ∧ n = (((b0g_count S)).toInt + 1 - (x2q1).toInt).toNat, ⟨_, (by (try simp (disch := first | ((try simp (disch := first | ((try simp only [pn]) <;> omega) | fail) only [pn, pq]) <;> omega) | fail) only [pn, pq]) <;> (intros; (try simp (disch := first | ((try simp (disch := first | ((try simp only [pn]) <;> omega) | fail) only [pn, pq]) <;> omega) | fail) only [pn, pq]) <;> omega)), rfl⟩, ?_⟩
  rintro n2 x1q1 x2q1 ⟨hiq1_0, hn2⟩
  have rgx1q1 := pt_rg x1q1
  have rgx2q1 := pt_rg x2q1
  unfold wp_X0_allBytes_4b
  refine ⟨fun c3 => ?_, fun c3 => ?_⟩
  · try simp (disch := first | ((try simp (disch := first | ((try simp only [pn]) <;> omega) | fail) only [pn, pq]) <;> omega) | fail) only [pn, pq] at c3
    exact hq _ 
  · try simp (disch := first | ((try simp (disch := first | ((try simp only [pn]) <;> omega) | fail) only [pn, pq]) <;> omega) | fail) only [pn, pq] at c3
    refine sf_X0_lengthAt hJ (fun r4  => ?_)
    have rgr4 := pt_rg r4
    refine ⟨_, ?_, ?_, rfl⟩
    · (try simp (disch := first | ((try simp (disch := first | ((try simp only [pn]) <;> omega) | fail) only [pn, pq]) <;> omega) | fail) only [pn, pq]) <;> (intros; (try simp (disch := first | ((try simp (disch := first | ((try simp only [pn]) <;> omega) | fail) only [pn, pq]) <;> omega) | fail) only [pn, pq]) <;> omega)
    · (try simp (disch := first | ((try simp (disch := first | ((try simp only [pn]) <;> omega) | fail) only [pn, pq]) <;> omega) | fail) only [pn, pq]) <;> (intros; (try simp (disch := first | ((try simp (disch := first | ((try simp only [pn]) <;> omega) | fail) only [pn, pq]) <;> omega) | fail) only [pn, pq]) <;> omega)
set_option maxRecDepth 20000 in
set_option maxHeartbeats 8000000 in
theorem sf_X1_isEnded {S : bT1} (hJ : J1 S) {a1 : Int32} {Q : Int32 → Prop} (hq : ∀ r : Int32, bf_bool r → Q r) : wp_X1_isEnded S a1 Q := by
  unfold wp_X1_isEnded
  have rga1 := pt_rg a1
  refine sf_X8_at (by decide) (fun r1 hr1_0 => ?_)
  have rgr1 := pt_rg r1
  try simp (disch := first | ((try simp (disch := first | ((try simp only [pn]) <;> omega) | fail) only [pn, pq]) <;> omega) | fail) only [pn, pq] at hr1_0
  refine sf_X0_lengthAt (J1g_owners hJ) (fun r3  => ?_)
  have rgr3 := pt_rg r3
  refine ⟨fun c5 => ?_, fun c5 => ?_⟩
  · try simp (disch := first | ((try simp (disch := first | ((try simp only [pn]) <;> omega) | fail) only [pn, pq]) <;> omega) | fail) only [pn, pq] at c5
    exact ⟨by first | rfl | assumption, hq _ (by first | rfl | assumption) ⟩
  · try simp (disch := first | ((try simp (disch := first | ((try simp only [pn]) <;> omega) | fail) only [pn, pq]) <;> omega) | fail) only [pn, pq] at c5
    exact ⟨by first | rfl | assumption, hq _ (by first | rfl | assumption) ⟩
set_option maxRecDepth 20000 in
set_option maxHeartbeats 8000000 in
theorem sf_X1_lengthAt {S : bT1} (hJ : J1 S) {a1 : Int32} {Q : Int32 → Prop} (hq : ∀ r : Int32, (r.toInt = (atf 64 (b1g_lengths S) a1).toInt) → Q r) : wp_X1_lengthAt S a1 Q := by
  unfold wp_X1_lengthAt
  have rga1 := pt_rg a1
  refine sf_X8_at (by decide) (fun r1 hr1_0 => ?_)
  have rgr1 := pt_rg r1
  try simp (disch := first | ((try simp (disch := first | ((try simp only [pn]) <;> omega) | fail) only [pn, pq]) <;> omega) | fail) only [pn, pq] at hr1_0
  exact hq _ (by (try simp (disch := first | ((try simp (disch := first | ((try simp only [pn]) <;> omega) | fail) only [pn, pq]) <;> omega) | fail) only [pn, pq]) <;> (intros; (try simp (disch := first | ((try simp (disch := first | ((try simp only [pn]) <;> omega) | fail) only [pn, pq]) <;> omega) | fail) only [pn, pq]) <;> omega))
set_option maxRecDepth 20000 in
set_option maxHeartbeats 8000000 in
theorem sf_X8_highest {a0 : Int32} {a1 : Int32} {Q : Int32 → Prop} (hq : ∀ r : Int32, Q r) : wp_X8_highest a0 a1 Q := by
  unfold wp_X8_highest
  have rga0 := pt_rg a0
  have rga1 := pt_rg a1
  exact hq _ 
set_option maxRecDepth 20000 in
set_option maxHeartbeats 8000000 in
theorem sf_X1_nextAt {S : bT1} (hJ : J1 S) {a1 : Int32} {Q : Int32 → Prop} (hq : ∀ r : Int32, Q r) : wp_X1_nextAt S a1 Q := by
  unfold wp_X1_nextAt
  have rga1 := pt_rg a1
  refine sf_X8_at (by decide) (fun r1 hr1_0 => ?_)
  have rgr1 := pt_rg r1
  try simp (disch := first | ((try simp (disch := first | ((try simp only [pn]) <;> omega) | fail) only [pn, pq]) <;> omega) | fail) only [pn, pq] at hr1_0
  refine sf_X8_highest  (fun r3  => ?_)
  have rgr3 := pt_rg r3
  exact hq _ 
theorem sf_X8_front {a0 : Int32} {Q : Int64 → Prop} (hq : ∀ r : Int64, (1 ≤ a0.toInt → a0.toInt ≤ 8 → r = frontf a0) → Q r) : wp_X8_front a0 Q := by
  unfold wp_X8_front
  refine ⟨fun c => ⟨fun d => hq _ (fun _ _ => ?_), fun d => hq _ (fun _ _ => ?_)⟩, fun c => hq _ (fun h _ => ?_)⟩
  · unfold frontf
    rw [if_pos d]
  · unfold frontf
    rw [if_neg d]
  · exfalso
    apply c
    rw [Int32.lt_iff_toInt_lt, pl_0]
    omega
theorem sf_X8_octetTo {a0 : Int32} {a1 : Int32} {Q : Int64 → Prop} (hq : ∀ r : Int64, (0 ≤ a1.toInt → a1.toInt < 8 → r = a0.toInt64 <<< ((((56 : Int32) - ((8 : Int32) * a1))).toInt64 &&& 63)) → Q r) : wp_X8_octetTo a0 a1 Q := by
  unfold wp_X8_octetTo
  refine ⟨fun c => ?_, fun c => ⟨fun d => ?_, fun d => ?_⟩⟩
  · unfold wp_X8_octetTo_10
    simp only [pn] at c
    exact hq _ (fun h _ => by omega)
  · exact hq _ (fun _ _ => rfl)
  · unfold wp_X8_octetTo_10
    simp only [pn] at d
    exact hq _ (fun _ h => by omega)
def F_X1_bound (S u : bT1) : Prop := (b1g_owners u) = (b1g_owners S) ∧ (b1g_commons u) = (b1g_commons S) ∧ (b1g_lengths u) = (b1g_lengths S) ∧ (b1g_hashes u) = (b1g_hashes S) ∧ (b1g_nexts u) = (b1g_nexts S) ∧ (b1g_hashBits u) = (b1g_hashBits S) ∧ (b1g_realBits u) = (b1g_realBits S) ∧ (b1g_salt u) = (b1g_salt S)
set_option maxRecDepth 20000 in
set_option maxHeartbeats 8000000 in
theorem sf_X1_bound {S : bT1} (hJ : J1 S) {a1 : Int32} {Q : (bT1) → Prop} (hq : ∀ u : bT1, (J1 u) → F_X1_bound S u → Q u) : wp_X1_bound S a1 Q := by
  unfold wp_X1_bound
  have hFS : F_X1_bound S S := ⟨rfl, rfl, rfl, rfl, rfl, rfl, rfl, rfl⟩
  have rga1 := pt_rg a1
  refine sf_X1_lengthAt hJ (fun r1 hr1_0 => ?_)
  have rgr1 := pt_rg r1
  try simp (disch := first | ((try simp (disch := first | ((try simp only [pn]) <;> omega) | fail) only [pn, pq]) <;> omega) | fail) only [pn, pq] at hr1_0
  refine sf_X0_bytesAt (J1g_owners hJ) (fun r3  => ?_)
  refine sf_X8_front  (fun r5 hr5_0 => ?_)
  refine sf_X1_isEnded hJ (fun r7 hzr7  => ?_)
  refine ⟨fun c9 => ?_, fun c9 => ?_⟩
  · try simp (disch := first | ((try simp (disch := first | ((try simp only [pn]) <;> omega) | fail) only [pn, pq]) <;> omega) | fail) only [pn, pq] at c9
    unfold wp_X1_bound_34
    refine sf_X0_append (J1g_lows hJ) (fun u11 hJu11 hfu11 hr10_0 => ?_)
    try simp (disch := first | ((try simp (disch := first | ((try simp only [pn]) <;> omega) | fail) only [pn, pq]) <;> omega) | fail) only [pn, pq] at hr10_0
    intro S12 eS12
    have hGS12 : F_X1_bound S S12 := by
      rw [eS12]
      exact ⟨hFS.1, hFS.2.1, hFS.2.2.1, hFS.2.2.2.1, hFS.2.2.2.2.1, hFS.2.2.2.2.2.1, hFS.2.2.2.2.2.2.1, hFS.2.2.2.2.2.2.2⟩
    have hJS12 : J1 S12 := by rw [eS12]; exact (J1s_lows hJ hJu11)
    have hFS12 : F_X1_bound S S12 := hGS12
    have je2 : ((b1g_realBits S12)).toInt = ((b1g_realBits S)).toInt := congrArg (fun z => (z).toInt) hFS12.2.2.2.2.2.2.1
    refine sf_X0_append (J1g_highs hJS12) (fun u14 hJu14 hfu14 hr13_0 => ?_)
    try simp (disch := first | ((try simp (disch := first | ((try simp only [pn]) <;> omega) | fail) only [pn, pq]) <;> omega) | fail) only [pn, pq] at hr13_0
    intro S15 eS15
    have hGS15 : F_X1_bound S S15 := by
      rw [eS15]
      exact ⟨hFS12.1, hFS12.2.1, hFS12.2.2.1, hFS12.2.2.2.1, hFS12.2.2.2.2.1, hFS12.2.2.2.2.2.1, hFS12.2.2.2.2.2.2.1, hFS12.2.2.2.2.2.2.2⟩
    have hJS15 : J1 S15 := by rw [eS15]; exact (J1s_highs hJS12 hJu14)
    have hFS15 : F_X1_bound S S15 := hGS15
    have je4 : ((b1g_realBits S15)).toInt = ((b1g_realBits S)).toInt := congrArg (fun z => (z).toInt) hFS15.2.2.2.2.2.2.1
    exact hq _ hJS15 hFS15 
  · try simp (disch := first | ((try simp (disch := first | ((try simp only [pn]) <;> omega) | fail) only [pn, pq]) <;> omega) | fail) only [pn, pq] at c9
    refine ⟨fun c16 => ?_, fun c16 => ?_⟩
    · try simp (disch := first | ((try simp (disch := first | ((try simp only [pn]) <;> omega) | fail) only [pn, pq]) <;> omega) | fail) only [pn, pq] at c16
      refine sf_X1_nextAt hJ (fun r17  => ?_)
      have rgr17 := pt_rg r17
      intro v19 ev19
      have nv19 := congrArg Int32.toInt ev19
      try simp (disch := first | ((try simp (disch := first | ((try simp only [pn]) <;> omega) | fail) only [pn, pq]) <;> omega) | fail) only [pn, pq] at nv19
      refine sf_X8_octetTo  (fun r20 hr20_0 => ?_)
      refine ⟨fun c22 => ?_, fun c22 => ?_⟩
      · try simp (disch := first | ((try simp (disch := first | ((try simp only [pn]) <;> omega) | fail) only [pn, pq]) <;> omega) | fail) only [pn, pq] at c22
        unfold wp_X1_bound_105
        refine sf_X0_append (J1g_lows hJ) (fun u24 hJu24 hfu24 hr23_0 => ?_)
        try simp (disch := first | ((try simp (disch := first | ((try simp only [pn]) <;> omega) | fail) only [pn, pq]) <;> omega) | fail) only [pn, pq] at hr23_0
        intro S25 eS25
        have hGS25 : F_X1_bound S S25 := by
          rw [eS25]
          exact ⟨hFS.1, hFS.2.1, hFS.2.2.1, hFS.2.2.2.1, hFS.2.2.2.2.1, hFS.2.2.2.2.2.1, hFS.2.2.2.2.2.2.1, hFS.2.2.2.2.2.2.2⟩
        have hJS25 : J1 S25 := by rw [eS25]; exact (J1s_lows hJ hJu24)
        have hFS25 : F_X1_bound S S25 := hGS25
        have je6 : ((b1g_realBits S25)).toInt = ((b1g_realBits S)).toInt := congrArg (fun z => (z).toInt) hFS25.2.2.2.2.2.2.1
        refine sf_X8_octetTo  (fun r26 hr26_0 => ?_)
        refine sf_X8_front  (fun r28 hr28_0 => ?_)
        refine sf_X0_append (J1g_highs hJS25) (fun u31 hJu31 hfu31 hr30_0 => ?_)
        try simp (disch := first | ((try simp (disch := first | ((try simp only [pn]) <;> omega) | fail) only [pn, pq]) <;> omega) | fail) only [pn, pq] at hr30_0
        intro S32 eS32
        have hGS32 : F_X1_bound S S32 := by
          rw [eS32]
          exact ⟨hFS25.1, hFS25.2.1, hFS25.2.2.1, hFS25.2.2.2.1, hFS25.2.2.2.2.1, hFS25.2.2.2.2.2.1, hFS25.2.2.2.2.2.2.1, hFS25.2.2.2.2.2.2.2⟩
        have hJS32 : J1 S32 := by rw [eS32]; exact (J1s_highs hJS25 hJu31)
        have hFS32 : F_X1_bound S S32 := hGS32
        have je8 : ((b1g_realBits S32)).toInt = ((b1g_realBits S)).toInt := congrArg (fun z => (z).toInt) hFS32.2.2.2.2.2.2.1
        exact hq _ hJS32 hFS32 
      · try simp (disch := first | ((try simp (disch := first | ((try simp only [pn]) <;> omega) | fail) only [pn, pq]) <;> omega) | fail) only [pn, pq] at c22
        unfold wp_X1_bound_105
        refine sf_X0_append (J1g_lows hJ) (fun u34 hJu34 hfu34 hr33_0 => ?_)
        try simp (disch := first | ((try simp (disch := first | ((try simp only [pn]) <;> omega) | fail) only [pn, pq]) <;> omega) | fail) only [pn, pq] at hr33_0
        intro S35 eS35
        have hGS35 : F_X1_bound S S35 := by
          rw [eS35]
          exact ⟨hFS.1, hFS.2.1, hFS.2.2.1, hFS.2.2.2.1, hFS.2.2.2.2.1, hFS.2.2.2.2.2.1, hFS.2.2.2.2.2.2.1, hFS.2.2.2.2.2.2.2⟩
        have hJS35 : J1 S35 := by rw [eS35]; exact (J1s_lows hJ hJu34)
        have hFS35 : F_X1_bound S S35 := hGS35
        have je10 : ((b1g_realBits S35)).toInt = ((b1g_realBits S)).toInt := congrArg (fun z => (z).toInt) hFS35.2.2.2.2.2.2.1
        refine sf_X8_octetTo  (fun r36 hr36_0 => ?_)
        refine sf_X8_front  (fun r38 hr38_0 => ?_)
        refine sf_X0_append (J1g_highs hJS35) (fun u41 hJu41 hfu41 hr40_0 => ?_)
        try simp (disch := first | ((try simp (disch := first | ((try simp only [pn]) <;> omega) | fail) only [pn, pq]) <;> omega) | fail) only [pn, pq] at hr40_0
        intro S42 eS42
        have hGS42 : F_X1_bound S S42 := by
          rw [eS42]
          exact ⟨hFS35.1, hFS35.2.1, hFS35.2.2.1, hFS35.2.2.2.1, hFS35.2.2.2.2.1, hFS35.2.2.2.2.2.1, hFS35.2.2.2.2.2.2.1, hFS35.2.2.2.2.2.2.2⟩
        have hJS42 : J1 S42 := by rw [eS42]; exact (J1s_highs hJS35 hJu41)
        have hFS42 : F_X1_bound S S42 := hGS42
        have je12 : ((b1g_realBits S42)).toInt = ((b1g_realBits S)).toInt := congrArg (fun z => (z).toInt) hFS42.2.2.2.2.2.2.1
        exact hq _ hJS42 hFS42 
    · try simp (disch := first | ((try simp (disch := first | ((try simp only [pn]) <;> omega) | fail) only [pn, pq]) <;> omega) | fail) only [pn, pq] at c16
      unfold wp_X1_bound_34
      refine sf_X0_append (J1g_lows hJ) (fun u44 hJu44 hfu44 hr43_0 => ?_)
      try simp (disch := first | ((try simp (disch := first | ((try simp only [pn]) <;> omega) | fail) only [pn, pq]) <;> omega) | fail) only [pn, pq] at hr43_0
      intro S45 eS45
      have hGS45 : F_X1_bound S S45 := by
        rw [eS45]
        exact ⟨hFS.1, hFS.2.1, hFS.2.2.1, hFS.2.2.2.1, hFS.2.2.2.2.1, hFS.2.2.2.2.2.1, hFS.2.2.2.2.2.2.1, hFS.2.2.2.2.2.2.2⟩
      have hJS45 : J1 S45 := by rw [eS45]; exact (J1s_lows hJ hJu44)
      have hFS45 : F_X1_bound S S45 := hGS45
      have je14 : ((b1g_realBits S45)).toInt = ((b1g_realBits S)).toInt := congrArg (fun z => (z).toInt) hFS45.2.2.2.2.2.2.1
      refine sf_X0_append (J1g_highs hJS45) (fun u47 hJu47 hfu47 hr46_0 => ?_)
      try simp (disch := first | ((try simp (disch := first | ((try simp only [pn]) <;> omega) | fail) only [pn, pq]) <;> omega) | fail) only [pn, pq] at hr46_0
      intro S48 eS48
      have hGS48 : F_X1_bound S S48 := by
        rw [eS48]
        exact ⟨hFS45.1, hFS45.2.1, hFS45.2.2.1, hFS45.2.2.2.1, hFS45.2.2.2.2.1, hFS45.2.2.2.2.2.1, hFS45.2.2.2.2.2.2.1, hFS45.2.2.2.2.2.2.2⟩
      have hJS48 : J1 S48 := by rw [eS48]; exact (J1s_highs hJS45 hJu47)
      have hFS48 : F_X1_bound S S48 := hGS48
      have je16 : ((b1g_realBits S48)).toInt = ((b1g_realBits S)).toInt := congrArg (fun z => (z).toInt) hFS48.2.2.2.2.2.2.1
      exact hq _ hJS48 hFS48 
set_option maxRecDepth 20000 in
set_option maxHeartbeats 8000000 in
theorem sf_X8_octetAt {a0 : Int64} {a2 : Int32} {Q : Int32 → Prop} (hq : ∀ r : Int32, Q r) : wp_X8_octetAt a0 a2 Q := by
  unfold wp_X8_octetAt
  have rga2 := pt_rg a2
  refine ⟨fun c1 => ?_, fun c1 => ?_⟩
  · try simp (disch := first | ((try simp (disch := first | ((try simp only [pn]) <;> omega) | fail) only [pn, pq]) <;> omega) | fail) only [pn, pq] at c1
    unfold wp_X8_octetAt_10
    exact hq _ 
  · try simp (disch := first | ((try simp (disch := first | ((try simp only [pn]) <;> omega) | fail) only [pn, pq]) <;> omega) | fail) only [pn, pq] at c1
    refine ⟨fun c2 => ?_, fun c2 => ?_⟩
    · try simp (disch := first | ((try simp (disch := first | ((try simp only [pn]) <;> omega) | fail) only [pn, pq]) <;> omega) | fail) only [pn, pq] at c2
      exact hq _ 
    · try simp (disch := first | ((try simp (disch := first | ((try simp only [pn]) <;> omega) | fail) only [pn, pq]) <;> omega) | fail) only [pn, pq] at c2
      unfold wp_X8_octetAt_10
      exact hq _ 
set_option maxRecDepth 20000 in
set_option maxHeartbeats 8000000 in
theorem sf_X8_alike {a0 : Int64} {a2 : Int32} {a3 : Int64} {a5 : Int32} {Q : Int32 → Prop} (hq : ∀ r : Int32, Q r) : wp_X8_alike a0 a2 a3 a5 Q := by
  unfold wp_X8_alike
  have rga2 := pt_rg a2
  have rga5 := pt_rg a5
  refine ⟨fun n x0q1 x3q1 x6q1 x7q1 => (x0q1 = a0) ∧ (x3q1 = a3) ∧ (x6q1 = (if a5 < a2 then a5 else a2)) ∧ (0 ≤ (x7q1).toInt) ∧ n = ((x6q1).toInt + 1 - (x7q1).toInt).toNat, ⟨_, rfl, rfl, rfl, (by (try simp (disch := first | ((try simp (disch := first | ((try simp only [pn]) <;> omega) | fail) only [pn, pq]) <;> omega) | fail) only [pn, pq]) <;> (intros; (try simp (disch := first | ((try simp (disch := first | ((try simp only [pn]) <;> omega) | fail) only [pn, pq]) <;> omega) | fail) only [pn, pq]) <;> omega)), rfl⟩, ?_⟩
  rintro n2 x0q1 x3q1 x6q1 x7q1 ⟨hkq1_0, hkq1_1, hkq1_2, hiq1_0, hn2⟩
  subst hkq1_0
  subst hkq1_1
  have hcq1_2 := congrArg Int32.toInt hkq1_2
  try simp (disch := first | ((try simp (disch := first | ((try simp only [pn]) <;> omega) | fail) only [pn, pq]) <;> omega) | fail) only [pn, pq] at hcq1_2
  have rgx6q1 := pt_rg x6q1
  have rgx7q1 := pt_rg x7q1
  unfold wp_X8_alike_11b
  refine ⟨fun c3 => ?_, fun c3 => ?_⟩
  · try simp (disch := first | ((try simp (disch := first | ((try simp only [pn]) <;> omega) | fail) only [pn, pq]) <;> omega) | fail) only [pn, pq] at c3
    exact hq _ 
  · try simp (disch := first | ((try simp (disch := first | ((try simp only [pn]) <;> omega) | fail) only [pn, pq]) <;> omega) | fail) only [pn, pq] at c3
    refine sf_X8_octetAt  (fun r4  => ?_)
    have rgr4 := pt_rg r4
    refine sf_X8_octetAt  (fun r6  => ?_)
    have rgr6 := pt_rg r6
    refine ⟨fun c8 => ?_, fun c8 => ?_⟩
    · try simp (disch := first | ((try simp (disch := first | ((try simp only [pn]) <;> omega) | fail) only [pn, pq]) <;> omega) | fail) only [pn, pq] at c8
      refine ⟨_, ?_, ?_, ?_, ?_, ?_, rfl⟩
      · (try simp (disch := first | ((try simp (disch := first | ((try simp only [pn]) <;> omega) | fail) only [pn, pq]) <;> omega) | fail) only [pn, pq]) <;> (intros; (try simp (disch := first | ((try simp (disch := first | ((try simp only [pn]) <;> omega) | fail) only [pn, pq]) <;> omega) | fail) only [pn, pq]) <;> omega)
      · first | rfl | assumption
      · first | rfl | assumption
      · first | rfl | assumption
      · (try simp (disch := first | ((try simp (disch := first | ((try simp only [pn]) <;> omega) | fail) only [pn, pq]) <;> omega) | fail) only [pn, pq]) <;> (intros; (try simp (disch := first | ((try simp (disch := first | ((try simp only [pn]) <;> omega) | fail) only [pn, pq]) <;> omega) | fail) only [pn, pq]) <;> omega)
    · try simp (disch := first | ((try simp (disch := first | ((try simp only [pn]) <;> omega) | fail) only [pn, pq]) <;> omega) | fail) only [pn, pq] at c8
      exact hq _ 
set_option maxRecDepth 20000 in
set_option maxHeartbeats 8000000 in
theorem sf_X8_mixed {a0 : Int32} {a1 : Int64} {a3 : Int32} {Q : Int32 → Prop} (hq : ∀ r : Int32, Q r) : wp_X8_mixed a0 a1 a3 Q := by
  unfold wp_X8_mixed
  have rga0 := pt_rg a0
  have rga3 := pt_rg a3
  refine ⟨fun n x1q1 x3q1 x4q1 x5q1 => (x1q1 = a1) ∧ (x3q1 = a3) ∧ (0 ≤ (x5q1).toInt) ∧ n = ((x3q1).toInt + 1 - (x5q1).toInt).toNat, ⟨_, rfl, rfl, (by (try simp (disch := first | ((try simp (disch := first | ((try simp only [pn]) <;> omega) | fail) only [pn, pq]) <;> omega) | fail) only [pn, pq]) <;> (intros; (try simp (disch := first | ((try simp (disch := first | ((try simp only [pn]) <;> omega) | fail) only [pn, pq]) <;> omega) | fail) only [pn, pq]) <;> omega)), rfl⟩, ?_⟩
  rintro n2 x1q1 x3q1 x4q1 x5q1 ⟨hkq1_0, hkq1_1, hiq1_0, hn2⟩
  subst hkq1_0
  subst hkq1_1
  have rgx3q1 := pt_rg x3q1
  have rgx4q1 := pt_rg x4q1
  have rgx5q1 := pt_rg x5q1
  unfold wp_X8_mixed_6b
  refine ⟨fun c3 => ?_, fun c3 => ?_⟩
  · try simp (disch := first | ((try simp (disch := first | ((try simp only [pn]) <;> omega) | fail) only [pn, pq]) <;> omega) | fail) only [pn, pq] at c3
    exact hq _ 
  · try simp (disch := first | ((try simp (disch := first | ((try simp only [pn]) <;> omega) | fail) only [pn, pq]) <;> omega) | fail) only [pn, pq] at c3
    refine sf_X8_octetAt  (fun r4  => ?_)
    have rgr4 := pt_rg r4
    intro v6 ev6
    have nv6 := congrArg Int32.toInt ev6
    try simp (disch := first | ((try simp (disch := first | ((try simp only [pn]) <;> omega) | fail) only [pn, pq]) <;> omega) | fail) only [pn, pq] at nv6
    refine ⟨_, ?_, ?_, ?_, ?_, rfl⟩
    · (try simp (disch := first | ((try simp (disch := first | ((try simp only [pn]) <;> omega) | fail) only [pn, pq]) <;> omega) | fail) only [pn, pq]) <;> (intros; (try simp (disch := first | ((try simp (disch := first | ((try simp only [pn]) <;> omega) | fail) only [pn, pq]) <;> omega) | fail) only [pn, pq]) <;> omega)
    · first | rfl | assumption
    · first | rfl | assumption
    · (try simp (disch := first | ((try simp (disch := first | ((try simp only [pn]) <;> omega) | fail) only [pn, pq]) <;> omega) | fail) only [pn, pq]) <;> (intros; (try simp (disch := first | ((try simp (disch := first | ((try simp only [pn]) <;> omega) | fail) only [pn, pq]) <;> omega) | fail) only [pn, pq]) <;> omega)
def F_X1_cut (S u : bT1) : Prop := (b1g_owners u) = (b1g_owners S) ∧ (b1g_lows u) = (b1g_lows S) ∧ (b1g_highs u) = (b1g_highs S) ∧ (b1g_hashBits u) = (b1g_hashBits S) ∧ (b1g_realBits u) = (b1g_realBits S) ∧ (b1g_salt u) = (b1g_salt S)
set_option maxRecDepth 20000 in
set_option maxHeartbeats 8000000 in
theorem sf_X1_cut {S : bT1} (hJ : J1 S) {a1 : Int32} {Q : (bT1) → Prop} (hp0 : 0 ≤ a1.toInt) (hp1 : a1.toInt < 64) (hq : ∀ u : bT1, (J1 u) → F_X1_cut S u → Q u) : wp_X1_cut S a1 Q := by
  unfold wp_X1_cut
  have hFS : F_X1_cut S S := ⟨rfl, rfl, rfl, rfl, rfl, rfl⟩
  have rga1 := pt_rg a1
  refine sf_X0_bytesAt (J1g_owners hJ) (fun r1  => ?_)
  refine sf_X0_lengthAt (J1g_owners hJ) (fun r3  => ?_)
  have rgr3 := pt_rg r3
  refine sf_X0_bytesAt (J1g_owners hJ) (fun r5  => ?_)
  refine sf_X0_lengthAt (J1g_owners hJ) (fun r7  => ?_)
  have rgr7 := pt_rg r7
  refine sf_X8_alike  (fun r9  => ?_)
  have rgr9 := pt_rg r9
  refine sf_X0_bytesAt (J1g_owners hJ) (fun r11  => ?_)
  refine sf_X0_lengthAt (J1g_owners hJ) (fun r13  => ?_)
  have rgr13 := pt_rg r13
  refine sf_X8_alike  (fun r15  => ?_)
  have rgr15 := pt_rg r15
  refine ⟨pt_in (by (try simp (disch := first | ((try simp (disch := first | ((try simp only [pn]) <;> omega) | fail) only [pn, pq]) <;> omega) | fail) only [pn, pq]) <;> (intros; (try simp (disch := first | ((try simp (disch := first | ((try simp only [pn]) <;> omega) | fail) only [pn, pq]) <;> omega) | fail) only [pn, pq]) <;> omega)) (by (try simp (disch := first | ((try simp (disch := first | ((try simp only [pn]) <;> omega) | fail) only [pn, pq]) <;> omega) | fail) only [pn, pq]) <;> (intros; (try simp (disch := first | ((try simp (disch := first | ((try simp only [pn]) <;> omega) | fail) only [pn, pq]) <;> omega) | fail) only [pn, pq]) <;> omega)), ?_⟩
  intro S17 eS17
  have hJS17 : J1 S17 := by rw [eS17]; exact (J1s_commons hJ)
  have hFS17 : F_X1_cut S S17 := by rw [eS17]; exact hFS
  have je2 : ((b1g_salt S17)).toInt = ((b1g_salt S)).toInt := congrArg (fun z => (z).toInt) hFS17.2.2.2.2.2
  intro v18 ev18
  have nv18 := congrArg Int32.toInt ev18
  try simp (disch := first | ((try simp (disch := first | ((try simp only [pn]) <;> omega) | fail) only [pn, pq]) <;> omega) | fail) only [pn, pq] at nv18
  refine ⟨pt_in (by (try simp (disch := first | ((try simp (disch := first | ((try simp only [pn]) <;> omega) | fail) only [pn, pq]) <;> omega) | fail) only [pn, pq]) <;> (intros; (try simp (disch := first | ((try simp (disch := first | ((try simp only [pn]) <;> omega) | fail) only [pn, pq]) <;> omega) | fail) only [pn, pq]) <;> omega)) (by (try simp (disch := first | ((try simp (disch := first | ((try simp only [pn]) <;> omega) | fail) only [pn, pq]) <;> omega) | fail) only [pn, pq]) <;> (intros; (try simp (disch := first | ((try simp (disch := first | ((try simp only [pn]) <;> omega) | fail) only [pn, pq]) <;> omega) | fail) only [pn, pq]) <;> omega)), ?_⟩
  intro S19 eS19
  have hJS19 : J1 S19 := by rw [eS19]; exact (J1s_lengths hJS17)
  have hFS19 : F_X1_cut S S19 := by rw [eS19]; exact hFS17
  have je4 : ((b1g_salt S19)).toInt = ((b1g_salt S)).toInt := congrArg (fun z => (z).toInt) hFS19.2.2.2.2.2
  have ja5 : ((b1g_lengths S19) (a1).toNatClampNeg).toInt = (v18).toInt := by rw [eS19]; exact pt_upds
  try simp (disch := first | ((try simp (disch := first | ((try simp only [pn]) <;> omega) | fail) only [pn, pq]) <;> omega) | fail) only [pn, pq] at ja5
  refine sf_X8_mixed  (fun r20  => ?_)
  have rgr20 := pt_rg r20
  refine ⟨pt_in (by (try simp (disch := first | ((try simp (disch := first | ((try simp only [pn]) <;> omega) | fail) only [pn, pq]) <;> omega) | fail) only [pn, pq]) <;> (intros; (try simp (disch := first | ((try simp (disch := first | ((try simp only [pn]) <;> omega) | fail) only [pn, pq]) <;> omega) | fail) only [pn, pq]) <;> omega)) (by (try simp (disch := first | ((try simp (disch := first | ((try simp only [pn]) <;> omega) | fail) only [pn, pq]) <;> omega) | fail) only [pn, pq]) <;> (intros; (try simp (disch := first | ((try simp (disch := first | ((try simp only [pn]) <;> omega) | fail) only [pn, pq]) <;> omega) | fail) only [pn, pq]) <;> omega)), ?_⟩
  intro S22 eS22
  have hJS22 : J1 S22 := by rw [eS22]; exact (J1s_hashes hJS19)
  have hFS22 : F_X1_cut S S22 := by rw [eS22]; exact hFS19
  have je7 : ((b1g_salt S22)).toInt = ((b1g_salt S)).toInt := congrArg (fun z => (z).toInt) hFS22.2.2.2.2.2
  refine ⟨pt_in (by (try simp (disch := first | ((try simp (disch := first | ((try simp only [pn]) <;> omega) | fail) only [pn, pq]) <;> omega) | fail) only [pn, pq]) <;> (intros; (try simp (disch := first | ((try simp (disch := first | ((try simp only [pn]) <;> omega) | fail) only [pn, pq]) <;> omega) | fail) only [pn, pq]) <;> omega)) (by (try simp (disch := first | ((try simp (disch := first | ((try simp only [pn]) <;> omega) | fail) only [pn, pq]) <;> omega) | fail) only [pn, pq]) <;> (intros; (try simp (disch := first | ((try simp (disch := first | ((try simp only [pn]) <;> omega) | fail) only [pn, pq]) <;> omega) | fail) only [pn, pq]) <;> omega)), ?_⟩
  refine sf_X8_octetAt  (fun r23  => ?_)
  have rgr23 := pt_rg r23
  refine ⟨pt_in (by (try simp (disch := first | ((try simp (disch := first | ((try simp only [pn]) <;> omega) | fail) only [pn, pq]) <;> omega) | fail) only [pn, pq]) <;> (intros; (try simp (disch := first | ((try simp (disch := first | ((try simp only [pn]) <;> omega) | fail) only [pn, pq]) <;> omega) | fail) only [pn, pq]) <;> omega)) (by (try simp (disch := first | ((try simp (disch := first | ((try simp only [pn]) <;> omega) | fail) only [pn, pq]) <;> omega) | fail) only [pn, pq]) <;> (intros; (try simp (disch := first | ((try simp (disch := first | ((try simp only [pn]) <;> omega) | fail) only [pn, pq]) <;> omega) | fail) only [pn, pq]) <;> omega)), ?_⟩
  intro S25 eS25
  have hJS25 : J1 S25 := by rw [eS25]; exact (J1s_nexts hJS22)
  have hFS25 : F_X1_cut S S25 := by rw [eS25]; exact hFS22
  have je10 : ((b1g_salt S25)).toInt = ((b1g_salt S)).toInt := congrArg (fun z => (z).toInt) hFS25.2.2.2.2.2
  exact hq _ hJS25 hFS25 
def F_X1_make (S u : bT1 × bT3) : Prop := u.2 = S.2
theorem sf_X1_make {S : bT1 × bT3} (hJ : J1 S.1 ∧ J3 S.2) {Q : (bT1 × bT3) → Prop} (hq : ∀ u : bT1 × bT3, (J1 u.1 ∧ J3 u.2) → F_X1_make S u → ((b0g_count (b1g_owners u.1)).toInt = (b0g_count (b3g_members S.2)).toInt) → (LVX u.1 S.2) → Q u) : wp_X1_make S Q := by
  exact fx_make hJ (fun u hJ1 h2 hR a b c d => hq u ⟨hJ1, by rw [h2]; exact hJ.2⟩ h2 (by rw [hR.1]) ⟨hR, a, b, c, d⟩)
set_option maxRecDepth 20000 in
set_option maxHeartbeats 8000000 in
theorem sf_X1_count {S : bT1} (hJ : J1 S) {Q : Int32 → Prop} (hq : ∀ r : Int32, (r.toInt = (b0g_count (b1g_owners S)).toInt) → Q r) : wp_X1_count S Q := by
  unfold wp_X1_count
  have jf1 := J0g_count (J1g_owners hJ)
  exact hq _ (by (try simp (disch := first | ((try simp (disch := first | ((try simp only [pn]) <;> omega) | fail) only [pn, pq]) <;> omega) | fail) only [pn, pq]) <;> (intros; (try simp (disch := first | ((try simp (disch := first | ((try simp only [pn]) <;> omega) | fail) only [pn, pq]) <;> omega) | fail) only [pn, pq]) <;> omega))
set_option maxRecDepth 20000 in
set_option maxHeartbeats 8000000 in
theorem sf_X8_lowest {a0 : Int32} {a1 : Int32} {Q : Int32 → Prop} (hq : ∀ r : Int32, Q r) : wp_X8_lowest a0 a1 Q := by
  unfold wp_X8_lowest
  have rga0 := pt_rg a0
  have rga1 := pt_rg a1
  exact hq _ 
set_option maxRecDepth 20000 in
set_option maxHeartbeats 8000000 in
theorem sf_X1_hashAt {S : bT1} (hJ : J1 S) {a1 : Int32} {Q : Int32 → Prop} (hq : ∀ r : Int32, Q r) : wp_X1_hashAt S a1 Q := by
  unfold wp_X1_hashAt
  have rga1 := pt_rg a1
  refine sf_X8_at (by decide) (fun r1 hr1_0 => ?_)
  have rgr1 := pt_rg r1
  try simp (disch := first | ((try simp (disch := first | ((try simp only [pn]) <;> omega) | fail) only [pn, pq]) <;> omega) | fail) only [pn, pq] at hr1_0
  refine sf_X8_lowest  (fun r3  => ?_)
  have rgr3 := pt_rg r3
  exact hq _ 
theorem sf_X1_possibleAt {S : bT1} (hJ : J1 S) {a1 : Int64} {a3 : Int32} {Q : Int32 → Prop} (hq : ∀ r : Int32, (LVO S → 1 ≤ a3.toInt → a3.toInt ≤ 8 → LFA (b0g_bytes (b1g_owners S)) (b0g_lengths (b1g_owners S)) (b0g_count (b1g_owners S)).toInt (b1g_realBits S) a1 a3 r.toInt) → Q r) : wp_X1_possibleAt S a1 a3 Q := by
  exact fx_possibleAt hJ (fun r h => hq r (fun o => h o.1 o.2.1 o.2.2.1 o.2.2.2.1 o.2.2.2.2))
theorem sf_X1_verdictOf {S : bT1} (hJ : J1 S) {a1 : Int64} {a3 : Int32} {Q : Int32 → Prop} (hq : ∀ r : Int32, (0 ≤ r.toInt) → (r.toInt ≤ 2) → (LVO S → 1 ≤ a3.toInt → a3.toInt ≤ 8 → VRD (b0g_bytes (b1g_owners S)) (b0g_lengths (b1g_owners S)) (b0g_count (b1g_owners S)).toInt (b1g_realBits S) (b1g_salt S) (b1g_hashBits S) a1 a3 r.toInt) → Q r) : wp_X1_verdictOf S a1 a3 Q := by
  exact fx_verdictOf hJ (fun r r0 r2 h => hq r r0 r2 (fun o => h o.1 o.2.1 o.2.2.1 o.2.2.2.1 o.2.2.2.2))
theorem sf_X1_met {S : bT1} (hJ : J1 S) {a1 : Int64} {a3 : Int32} {a4 : Int64} {a6 : Int32} {Q : Int32 → Prop} (hq : ∀ r : Int32, (LVO S → 1 ≤ a3.toInt → a3.toInt ≤ 8 → 1 ≤ a6.toInt → a6.toInt ≤ 8 → r.toInt = CTP (MET (b0g_bytes (b1g_owners S)) (b0g_lengths (b1g_owners S)) (b0g_count (b1g_owners S)).toInt (b1g_realBits S) a1 a3 a4 a6) (b0g_count (b1g_owners S)).toInt.toNat) → Q r) : wp_X1_met S a1 a3 a4 a6 Q := by
  exact fx_met hJ hq
theorem sf_X1_held {S : bT1} (hJ : J1 S) {a1 : Int64} {a3 : Int32} {a4 : Int64} {a6 : Int32} {Q : Int32 → Prop} (hq : ∀ r : Int32, (LVO S → 1 ≤ a3.toInt → a3.toInt ≤ 8 → 1 ≤ a6.toInt → a6.toInt ≤ 8 → r.toInt = CTP (SUR (b0g_bytes (b1g_owners S)) (b0g_lengths (b1g_owners S)) (b0g_count (b1g_owners S)).toInt (b1g_realBits S) a1 a3 a4 a6) (b0g_count (b1g_owners S)).toInt.toNat) → Q r) : wp_X1_held S a1 a3 a4 a6 Q := by
  exact fx_held hJ hq
set_option maxRecDepth 20000 in
set_option maxHeartbeats 8000000 in
theorem sf_X8_countAhead {a0 : Int64} {a2 : Int32} {a3 : Int32} {Q : Int64 → Prop} (hq : ∀ r : Int64, Q r) : wp_X8_countAhead a0 a2 a3 Q := by
  unfold wp_X8_countAhead
  have rga2 := pt_rg a2
  have rga3 := pt_rg a3
  refine ⟨fun c1 => ?_, fun c1 => ?_⟩
  · try simp (disch := first | ((try simp (disch := first | ((try simp only [pn]) <;> omega) | fail) only [pn, pq]) <;> omega) | fail) only [pn, pq] at c1
    exact hq _ 
  · try simp (disch := first | ((try simp (disch := first | ((try simp only [pn]) <;> omega) | fail) only [pn, pq]) <;> omega) | fail) only [pn, pq] at c1
    exact hq _ 
set_option maxRecDepth 20000 in
set_option maxHeartbeats 8000000 in
theorem sf_X8_countUpTo {a0 : Int64} {a2 : Int32} {a3 : Int32} {Q : Int64 → Prop} (hq : ∀ r : Int64, Q r) : wp_X8_countUpTo a0 a2 a3 Q := by
  unfold wp_X8_countUpTo
  have rga2 := pt_rg a2
  have rga3 := pt_rg a3
  refine ⟨fun c1 => ?_, fun c1 => ?_⟩
  · try simp (disch := first | ((try simp (disch := first | ((try simp only [pn]) <;> omega) | fail) only [pn, pq]) <;> omega) | fail) only [pn, pq] at c1
    exact hq _ 
  · try simp (disch := first | ((try simp (disch := first | ((try simp only [pn]) <;> omega) | fail) only [pn, pq]) <;> omega) | fail) only [pn, pq] at c1
    exact hq _ 
theorem sf_X1_covered {S : bT1} (hJ : J1 S) {a1 : Int32} {Q : Int64 → Prop} (hq : ∀ r : Int64, (LVO S → r = COV (b0g_bytes (b1g_owners S)) (b0g_lengths (b1g_owners S)) (b0g_count (b1g_owners S)).toInt (b1g_realBits S) a1 (b0g_count (b1g_owners S)).toInt.toNat) → Q r) : wp_X1_covered S a1 Q := by
  have jo := J0g_count (J1g_owners hJ)
  unfold wp_X1_covered wp_X1_covered_5
  refine ⟨fun n x1 x2 x4 => x1 = a1 ∧ 0 ≤ x4.toInt ∧ x4.toInt ≤ (b0g_count (b1g_owners S)).toInt ∧ (LVO S → x2 = (COV (b0g_bytes (b1g_owners S)) (b0g_lengths (b1g_owners S)) (b0g_count (b1g_owners S)).toInt (b1g_realBits S) a1 x4.toInt.toNat)) ∧ n = (64 - x4.toInt).toNat, ⟨_, rfl, by decide, by rw [pl_0]; exact jo.1, fun _ => rfl, rfl⟩, ?_⟩
  rintro n x1 x2 x4 ⟨e1, h0, h1, hI, hn⟩
  unfold wp_X1_covered_5b
  rw [e1]
  refine ⟨fun c => hq _ (fun o => ?_), fun c => ?_⟩
  · simp only [pn] at c
    rw [hI o, show x4.toInt.toNat = (b0g_count (b1g_owners S)).toInt.toNat by omega]
  simp only [pn] at c
  have x4' : (x4 + 1).toInt = x4.toInt + 1 := by rw [pt_add (by rw [pl_1]; omega) (by rw [pl_1]; omega), pl_1]
  refine fx_bytesAt (J1g_highs hJ) (fun r1 p1 _ => fx_lengthAt (J1g_highs hJ) (fun r3 p3 _ => fx_countUpTo (fx_bytesAt (J1g_lows hJ) (fun r7 p7 _ => fx_lengthAt (J1g_lows hJ) (fun r9 p9 _ => fx_countAhead ⟨_, ?_, rfl, by omega, by omega, fun o => ?_, rfl⟩)))))
  · omega
  · have q := (o.1.2.2 x4.toInt.toNat (by omega)).2
    have l1 := o.1.1
    have l2 := o.1.2.1
    rw [x4', show (x4.toInt + 1).toNat = x4.toInt.toNat + 1 by omega]
    rw [p1 x4.toInt.toNat (by omega) (by omega), p3 x4.toInt.toNat (by omega) (by omega), p7 x4.toInt.toNat (by omega) (by omega), p9 x4.toInt.toNat (by omega) (by omega)]
    exact COV_s q.1 q.2.1 q.2.2.1 q.2.2.2 (hI o)
set_option maxRecDepth 20000 in
set_option maxHeartbeats 8000000 in
theorem sf_X1_beginningOf {S : bT1} (hJ : J1 S) {a1 : Int64} {a3 : Int32} {Q : Int32 → Prop} (hq : ∀ r : Int32, Q r) : wp_X1_beginningOf S a1 a3 Q := by
  unfold wp_X1_beginningOf
  have jf1 := J0g_count (J1g_owners hJ)
  have rga3 := pt_rg a3
  refine ⟨fun n x1q1 x3q1 x4q1 => (x1q1 = a1) ∧ (x3q1 = a3) ∧ (0 ≤ (x4q1).toInt) ∧ n = (((b0g_count (b1g_owners S))).toInt + 1 - (x4q1).toInt).toNat, ⟨_, rfl, rfl, (by (try simp (disch := first | ((try simp (disch := first | ((try simp only [pn]) <;> omega) | fail) only [pn, pq]) <;> omega) | fail) only [pn, pq]) <;> (intros; (try simp (disch := first | ((try simp (disch := first | ((try simp only [pn]) <;> omega) | fail) only [pn, pq]) <;> omega) | fail) only [pn, pq]) <;> omega)), rfl⟩, ?_⟩
  rintro n2 x1q1 x3q1 x4q1 ⟨hkq1_0, hkq1_1, hiq1_0, hn2⟩
  subst hkq1_0
  subst hkq1_1
  have rgx3q1 := pt_rg x3q1
  have rgx4q1 := pt_rg x4q1
  unfold wp_X1_beginningOf_3b
  refine ⟨fun c3 => ?_, fun c3 => ?_⟩
  · try simp (disch := first | ((try simp (disch := first | ((try simp only [pn]) <;> omega) | fail) only [pn, pq]) <;> omega) | fail) only [pn, pq] at c3
    exact hq _ 
  · try simp (disch := first | ((try simp (disch := first | ((try simp only [pn]) <;> omega) | fail) only [pn, pq]) <;> omega) | fail) only [pn, pq] at c3
    refine sf_X1_lengthAt hJ (fun r4 hr4_0 => ?_)
    have rgr4 := pt_rg r4
    try simp (disch := first | ((try simp (disch := first | ((try simp only [pn]) <;> omega) | fail) only [pn, pq]) <;> omega) | fail) only [pn, pq] at hr4_0
    refine ⟨fun c6 => ?_, fun c6 => ?_⟩
    · try simp (disch := first | ((try simp (disch := first | ((try simp only [pn]) <;> omega) | fail) only [pn, pq]) <;> omega) | fail) only [pn, pq] at c6
      unfold wp_X1_beginningOf_55
      unfold wp_X1_beginningOf_56
      refine ⟨fun c7 => ?_, fun c7 => ?_⟩
      · skip
        unfold wp_X1_beginningOf_75
        refine ⟨_, ?_, ?_, ?_, ?_, rfl⟩
        · (try simp (disch := first | ((try simp (disch := first | ((try simp only [pn]) <;> omega) | fail) only [pn, pq]) <;> omega) | fail) only [pn, pq]) <;> (intros; (try simp (disch := first | ((try simp (disch := first | ((try simp only [pn]) <;> omega) | fail) only [pn, pq]) <;> omega) | fail) only [pn, pq]) <;> omega)
        · first | rfl | assumption
        · first | rfl | assumption
        · (try simp (disch := first | ((try simp (disch := first | ((try simp only [pn]) <;> omega) | fail) only [pn, pq]) <;> omega) | fail) only [pn, pq]) <;> (intros; (try simp (disch := first | ((try simp (disch := first | ((try simp only [pn]) <;> omega) | fail) only [pn, pq]) <;> omega) | fail) only [pn, pq]) <;> omega)
      · exact absurd c7 (by decide)
    · try simp (disch := first | ((try simp (disch := first | ((try simp only [pn]) <;> omega) | fail) only [pn, pq]) <;> omega) | fail) only [pn, pq] at c6
      refine sf_X0_bytesAt (J1g_owners hJ) (fun r8  => ?_)
      refine sf_X1_lengthAt hJ (fun r10 hr10_0 => ?_)
      have rgr10 := pt_rg r10
      try simp (disch := first | ((try simp (disch := first | ((try simp only [pn]) <;> omega) | fail) only [pn, pq]) <;> omega) | fail) only [pn, pq] at hr10_0
      refine sf_X8_front  (fun r12 hr12_0 => ?_)
      refine ⟨fun c14 => ?_, fun c14 => ?_⟩
      · try simp (disch := first | ((try simp (disch := first | ((try simp only [pn]) <;> omega) | fail) only [pn, pq]) <;> omega) | fail) only [pn, pq] at c14
        unfold wp_X1_beginningOf_55
        unfold wp_X1_beginningOf_56
        refine ⟨fun c15 => ?_, fun c15 => ?_⟩
        · skip
          unfold wp_X1_beginningOf_75
          refine ⟨_, ?_, ?_, ?_, ?_, rfl⟩
          · (try simp (disch := first | ((try simp (disch := first | ((try simp only [pn]) <;> omega) | fail) only [pn, pq]) <;> omega) | fail) only [pn, pq]) <;> (intros; (try simp (disch := first | ((try simp (disch := first | ((try simp only [pn]) <;> omega) | fail) only [pn, pq]) <;> omega) | fail) only [pn, pq]) <;> omega)
          · first | rfl | assumption
          · first | rfl | assumption
          · (try simp (disch := first | ((try simp (disch := first | ((try simp only [pn]) <;> omega) | fail) only [pn, pq]) <;> omega) | fail) only [pn, pq]) <;> (intros; (try simp (disch := first | ((try simp (disch := first | ((try simp only [pn]) <;> omega) | fail) only [pn, pq]) <;> omega) | fail) only [pn, pq]) <;> omega)
        · exact absurd c15 (by decide)
      · try simp (disch := first | ((try simp (disch := first | ((try simp only [pn]) <;> omega) | fail) only [pn, pq]) <;> omega) | fail) only [pn, pq] at c14
        unfold wp_X1_beginningOf_56
        refine ⟨fun c16 => ?_, fun c16 => ?_⟩
        · exact absurd c16 (by decide)
        · skip
          refine sf_X1_isEnded hJ (fun r17 hzr17  => ?_)
          refine ⟨fun c19 => ?_, fun c19 => ?_⟩
          · try simp (disch := first | ((try simp (disch := first | ((try simp only [pn]) <;> omega) | fail) only [pn, pq]) <;> omega) | fail) only [pn, pq] at c19
            unfold wp_X1_beginningOf_75
            refine ⟨_, ?_, ?_, ?_, ?_, rfl⟩
            · (try simp (disch := first | ((try simp (disch := first | ((try simp only [pn]) <;> omega) | fail) only [pn, pq]) <;> omega) | fail) only [pn, pq]) <;> (intros; (try simp (disch := first | ((try simp (disch := first | ((try simp only [pn]) <;> omega) | fail) only [pn, pq]) <;> omega) | fail) only [pn, pq]) <;> omega)
            · first | rfl | assumption
            · first | rfl | assumption
            · (try simp (disch := first | ((try simp (disch := first | ((try simp only [pn]) <;> omega) | fail) only [pn, pq]) <;> omega) | fail) only [pn, pq]) <;> (intros; (try simp (disch := first | ((try simp (disch := first | ((try simp only [pn]) <;> omega) | fail) only [pn, pq]) <;> omega) | fail) only [pn, pq]) <;> omega)
          · try simp (disch := first | ((try simp (disch := first | ((try simp only [pn]) <;> omega) | fail) only [pn, pq]) <;> omega) | fail) only [pn, pq] at c19
            exact hq _ 
set_option maxRecDepth 20000 in
set_option maxHeartbeats 8000000 in
theorem sf_X1_ofLevel {S : bT1} (hJ : J1 S) {a1 : Int32} {Q : Int32 → Prop} (hq : ∀ r : Int32, Q r) : wp_X1_ofLevel S a1 Q := by
  unfold wp_X1_ofLevel
  have jf1 := J0g_count (J1g_owners hJ)
  have rga1 := pt_rg a1
  refine ⟨fun n x1q1 x2q1 x3q1 => (x1q1 = a1) ∧ (0 ≤ (x3q1).toInt) ∧ n = (((b0g_count (b1g_owners S))).toInt + 1 - (x3q1).toInt).toNat, ⟨_, rfl, (by (try simp (disch := first | ((try simp (disch := first | ((try simp only [pn]) <;> omega) | fail) only [pn, pq]) <;> omega) | fail) only [pn, pq]) <;> (intros; (try simp (disch := first | ((try simp (disch := first | ((try simp only [pn]) <;> omega) | fail) only [pn, pq]) <;> omega) | fail) only [pn, pq]) <;> omega)), rfl⟩, ?_⟩
  rintro n2 x1q1 x2q1 x3q1 ⟨hkq1_0, hiq1_0, hn2⟩
  subst hkq1_0
  have rgx1q1 := pt_rg x1q1
  have rgx2q1 := pt_rg x2q1
  have rgx3q1 := pt_rg x3q1
  unfold wp_X1_ofLevel_4b
  refine ⟨fun c3 => ?_, fun c3 => ?_⟩
  · try simp (disch := first | ((try simp (disch := first | ((try simp only [pn]) <;> omega) | fail) only [pn, pq]) <;> omega) | fail) only [pn, pq] at c3
    exact hq _ 
  · try simp (disch := first | ((try simp (disch := first | ((try simp only [pn]) <;> omega) | fail) only [pn, pq]) <;> omega) | fail) only [pn, pq] at c3
    refine sf_X1_lengthAt hJ (fun r4 hr4_0 => ?_)
    have rgr4 := pt_rg r4
    try simp (disch := first | ((try simp (disch := first | ((try simp only [pn]) <;> omega) | fail) only [pn, pq]) <;> omega) | fail) only [pn, pq] at hr4_0
    refine ⟨fun c6 => ?_, fun c6 => ?_⟩
    · try simp (disch := first | ((try simp (disch := first | ((try simp only [pn]) <;> omega) | fail) only [pn, pq]) <;> omega) | fail) only [pn, pq] at c6
      unfold wp_X1_ofLevel_43
      unfold wp_X1_ofLevel_46
      refine ⟨_, ?_, ?_, ?_, rfl⟩
      · (try simp (disch := first | ((try simp (disch := first | ((try simp only [pn]) <;> omega) | fail) only [pn, pq]) <;> omega) | fail) only [pn, pq]) <;> (intros; (try simp (disch := first | ((try simp (disch := first | ((try simp only [pn]) <;> omega) | fail) only [pn, pq]) <;> omega) | fail) only [pn, pq]) <;> omega)
      · first | rfl | assumption
      · (try simp (disch := first | ((try simp (disch := first | ((try simp only [pn]) <;> omega) | fail) only [pn, pq]) <;> omega) | fail) only [pn, pq]) <;> (intros; (try simp (disch := first | ((try simp (disch := first | ((try simp only [pn]) <;> omega) | fail) only [pn, pq]) <;> omega) | fail) only [pn, pq]) <;> omega)
    · try simp (disch := first | ((try simp (disch := first | ((try simp only [pn]) <;> omega) | fail) only [pn, pq]) <;> omega) | fail) only [pn, pq] at c6
      refine sf_X1_isEnded hJ (fun r7 hzr7  => ?_)
      refine ⟨fun c9 => ?_, fun c9 => ?_⟩
      · try simp (disch := first | ((try simp (disch := first | ((try simp only [pn]) <;> omega) | fail) only [pn, pq]) <;> omega) | fail) only [pn, pq] at c9
        unfold wp_X1_ofLevel_46
        refine ⟨_, ?_, ?_, ?_, rfl⟩
        · (try simp (disch := first | ((try simp (disch := first | ((try simp only [pn]) <;> omega) | fail) only [pn, pq]) <;> omega) | fail) only [pn, pq]) <;> (intros; (try simp (disch := first | ((try simp (disch := first | ((try simp only [pn]) <;> omega) | fail) only [pn, pq]) <;> omega) | fail) only [pn, pq]) <;> omega)
        · first | rfl | assumption
        · (try simp (disch := first | ((try simp (disch := first | ((try simp only [pn]) <;> omega) | fail) only [pn, pq]) <;> omega) | fail) only [pn, pq]) <;> (intros; (try simp (disch := first | ((try simp (disch := first | ((try simp only [pn]) <;> omega) | fail) only [pn, pq]) <;> omega) | fail) only [pn, pq]) <;> omega)
      · try simp (disch := first | ((try simp (disch := first | ((try simp only [pn]) <;> omega) | fail) only [pn, pq]) <;> omega) | fail) only [pn, pq] at c9
        refine sf_X1_lengthAt hJ (fun r10 hr10_0 => ?_)
        have rgr10 := pt_rg r10
        try simp (disch := first | ((try simp (disch := first | ((try simp only [pn]) <;> omega) | fail) only [pn, pq]) <;> omega) | fail) only [pn, pq] at hr10_0
        refine ⟨fun c12 => ?_, fun c12 => ?_⟩
        · try simp (disch := first | ((try simp (disch := first | ((try simp only [pn]) <;> omega) | fail) only [pn, pq]) <;> omega) | fail) only [pn, pq] at c12
          unfold wp_X1_ofLevel_46
          refine ⟨_, ?_, ?_, ?_, rfl⟩
          · (try simp (disch := first | ((try simp (disch := first | ((try simp only [pn]) <;> omega) | fail) only [pn, pq]) <;> omega) | fail) only [pn, pq]) <;> (intros; (try simp (disch := first | ((try simp (disch := first | ((try simp only [pn]) <;> omega) | fail) only [pn, pq]) <;> omega) | fail) only [pn, pq]) <;> omega)
          · first | rfl | assumption
          · (try simp (disch := first | ((try simp (disch := first | ((try simp only [pn]) <;> omega) | fail) only [pn, pq]) <;> omega) | fail) only [pn, pq]) <;> (intros; (try simp (disch := first | ((try simp (disch := first | ((try simp only [pn]) <;> omega) | fail) only [pn, pq]) <;> omega) | fail) only [pn, pq]) <;> omega)
        · try simp (disch := first | ((try simp (disch := first | ((try simp only [pn]) <;> omega) | fail) only [pn, pq]) <;> omega) | fail) only [pn, pq] at c12
          unfold wp_X1_ofLevel_43
          unfold wp_X1_ofLevel_46
          refine ⟨_, ?_, ?_, ?_, rfl⟩
          · (try simp (disch := first | ((try simp (disch := first | ((try simp only [pn]) <;> omega) | fail) only [pn, pq]) <;> omega) | fail) only [pn, pq]) <;> (intros; (try simp (disch := first | ((try simp (disch := first | ((try simp only [pn]) <;> omega) | fail) only [pn, pq]) <;> omega) | fail) only [pn, pq]) <;> omega)
          · first | rfl | assumption
          · (try simp (disch := first | ((try simp (disch := first | ((try simp only [pn]) <;> omega) | fail) only [pn, pq]) <;> omega) | fail) only [pn, pq]) <;> (intros; (try simp (disch := first | ((try simp (disch := first | ((try simp only [pn]) <;> omega) | fail) only [pn, pq]) <;> omega) | fail) only [pn, pq]) <;> omega)
set_option maxRecDepth 20000 in
set_option maxHeartbeats 8000000 in
theorem sf_X1_allEnded {S : bT1} (hJ : J1 S) {Q : Int32 → Prop} (hq : ∀ r : Int32, Q r) : wp_X1_allEnded S Q := by
  unfold wp_X1_allEnded
  have jf1 := J0g_count (J1g_owners hJ)
  refine ⟨fun n x1q1 x2q1 => (0 ≤ (x2q1).toInt) ∧ n = (((b0g_count (b1g_owners S))).toInt + 1 - (x2q1).toInt).toNat, ⟨_, (by (try simp (disch := first | ((try simp (disch := first | ((try simp only [pn]) <;> omega) | fail) only [pn, pq]) <;> omega) | fail) only [pn, pq]) <;> (intros; (try simp (disch := first | ((try simp (disch := first | ((try simp only [pn]) <;> omega) | fail) only [pn, pq]) <;> omega) | fail) only [pn, pq]) <;> omega)), rfl⟩, ?_⟩
  rintro n2 x1q1 x2q1 ⟨hiq1_0, hn2⟩
  have rgx1q1 := pt_rg x1q1
  have rgx2q1 := pt_rg x2q1
  unfold wp_X1_allEnded_4b
  refine ⟨fun c3 => ?_, fun c3 => ?_⟩
  · try simp (disch := first | ((try simp (disch := first | ((try simp only [pn]) <;> omega) | fail) only [pn, pq]) <;> omega) | fail) only [pn, pq] at c3
    exact hq _ 
  · try simp (disch := first | ((try simp (disch := first | ((try simp only [pn]) <;> omega) | fail) only [pn, pq]) <;> omega) | fail) only [pn, pq] at c3
    refine sf_X1_isEnded hJ (fun r4 hzr4  => ?_)
    refine ⟨fun c6 => ?_, fun c6 => ?_⟩
    · try simp (disch := first | ((try simp (disch := first | ((try simp only [pn]) <;> omega) | fail) only [pn, pq]) <;> omega) | fail) only [pn, pq] at c6
      unfold wp_X1_allEnded_29
      refine ⟨_, ?_, ?_, rfl⟩
      · (try simp (disch := first | ((try simp (disch := first | ((try simp only [pn]) <;> omega) | fail) only [pn, pq]) <;> omega) | fail) only [pn, pq]) <;> (intros; (try simp (disch := first | ((try simp (disch := first | ((try simp only [pn]) <;> omega) | fail) only [pn, pq]) <;> omega) | fail) only [pn, pq]) <;> omega)
      · (try simp (disch := first | ((try simp (disch := first | ((try simp only [pn]) <;> omega) | fail) only [pn, pq]) <;> omega) | fail) only [pn, pq]) <;> (intros; (try simp (disch := first | ((try simp (disch := first | ((try simp only [pn]) <;> omega) | fail) only [pn, pq]) <;> omega) | fail) only [pn, pq]) <;> omega)
    · try simp (disch := first | ((try simp (disch := first | ((try simp only [pn]) <;> omega) | fail) only [pn, pq]) <;> omega) | fail) only [pn, pq] at c6
      unfold wp_X1_allEnded_29
      refine ⟨_, ?_, ?_, rfl⟩
      · (try simp (disch := first | ((try simp (disch := first | ((try simp only [pn]) <;> omega) | fail) only [pn, pq]) <;> omega) | fail) only [pn, pq]) <;> (intros; (try simp (disch := first | ((try simp (disch := first | ((try simp only [pn]) <;> omega) | fail) only [pn, pq]) <;> omega) | fail) only [pn, pq]) <;> omega)
      · (try simp (disch := first | ((try simp (disch := first | ((try simp only [pn]) <;> omega) | fail) only [pn, pq]) <;> omega) | fail) only [pn, pq]) <;> (intros; (try simp (disch := first | ((try simp (disch := first | ((try simp only [pn]) <;> omega) | fail) only [pn, pq]) <;> omega) | fail) only [pn, pq]) <;> omega)
set_option maxRecDepth 20000 in
set_option maxHeartbeats 8000000 in
theorem sf_X1_allBytes {S : bT1} (hJ : J1 S) {Q : Int32 → Prop} (hq : ∀ r : Int32, Q r) : wp_X1_allBytes S Q := by
  unfold wp_X1_allBytes
  have jf1 := J0g_count (J1g_owners hJ)
  refine ⟨fun n x1q1 x2q1 => (0 ≤ (x2q1).toInt) ∧ n = (((b0g_count (b1g_owners S))).toInt + 1 - (x2q1).toInt).toNat, ⟨_, (by (try simp (disch := first | ((try simp (disch := first | ((try simp only [pn]) <;> omega) | fail) only [pn, pq]) <;> omega) | fail) only [pn, pq]) <;> (intros; (try simp (disch := first | ((try simp (disch := first | ((try simp only [pn]) <;> omega) | fail) only [pn, pq]) <;> omega) | fail) only [pn, pq]) <;> omega)), rfl⟩, ?_⟩
  rintro n2 x1q1 x2q1 ⟨hiq1_0, hn2⟩
  have rgx1q1 := pt_rg x1q1
  have rgx2q1 := pt_rg x2q1
  unfold wp_X1_allBytes_4b
  refine ⟨fun c3 => ?_, fun c3 => ?_⟩
  · try simp (disch := first | ((try simp (disch := first | ((try simp only [pn]) <;> omega) | fail) only [pn, pq]) <;> omega) | fail) only [pn, pq] at c3
    exact hq _ 
  · try simp (disch := first | ((try simp (disch := first | ((try simp only [pn]) <;> omega) | fail) only [pn, pq]) <;> omega) | fail) only [pn, pq] at c3
    refine sf_X1_lengthAt hJ (fun r4 hr4_0 => ?_)
    have rgr4 := pt_rg r4
    try simp (disch := first | ((try simp (disch := first | ((try simp only [pn]) <;> omega) | fail) only [pn, pq]) <;> omega) | fail) only [pn, pq] at hr4_0
    refine ⟨_, ?_, ?_, rfl⟩
    · (try simp (disch := first | ((try simp (disch := first | ((try simp only [pn]) <;> omega) | fail) only [pn, pq]) <;> omega) | fail) only [pn, pq]) <;> (intros; (try simp (disch := first | ((try simp (disch := first | ((try simp only [pn]) <;> omega) | fail) only [pn, pq]) <;> omega) | fail) only [pn, pq]) <;> omega)
    · (try simp (disch := first | ((try simp (disch := first | ((try simp only [pn]) <;> omega) | fail) only [pn, pq]) <;> omega) | fail) only [pn, pq]) <;> (intros; (try simp (disch := first | ((try simp (disch := first | ((try simp only [pn]) <;> omega) | fail) only [pn, pq]) <;> omega) | fail) only [pn, pq]) <;> omega)
set_option maxRecDepth 20000 in
set_option maxHeartbeats 8000000 in
theorem sf_X1_tailBits {S : bT1} (hJ : J1 S) {Q : Int32 → Prop} (hq : ∀ r : Int32, Q r) : wp_X1_tailBits S Q := by
  unfold wp_X1_tailBits
  have jf1 := J0g_count (J1g_owners hJ)
  exact hq _ 
def F_X3_copyFrom (S u : bT3 × bT3) : Prop := u.2 = S.2
theorem sf_X3_copyFrom {S : bT3 × bT3} (hJ : J3 S.1 ∧ J3 S.2) {Q : (bT3 × bT3) → Prop} (hq : ∀ u : bT3 × bT3, (J3 u.1 ∧ J3 u.2) → F_X3_copyFrom S u → ((b0g_count (b3g_members u.1)).toInt = (b0g_count (b3g_members S.2)).toInt) → (PEQ u.1 S.2) → Q u) : wp_X3_copyFrom S Q := by
  unfold wp_X3_copyFrom
  refine sf_X0_copyFrom (S := ((b3g_members S.1), (b3g_members S.2))) ⟨J3g_members hJ.1, J3g_members hJ.2⟩ (fun u2 hJ2 hf2 c2 q2 => ?_)
  intro S3 e3 S4 e4 S5 e5
  have em : b3g_members S5.1 = u2.1 := by rw [e5, e4, e3]
  have ev : b3g_values S5.1 = va_cpy (b3g_values S.2) (b3g_values S.1) ((0 : Int32)).toNatClampNeg ((0 : Int32)).toNatClampNeg ((6 : Int32)).toNatClampNeg := by rw [e5, e4, e3]
  have eo : b3g_mode S5.1 = b3g_mode S.2 := by rw [e5, e4, e3]
  have e2' : S5.2 = S.2 := by
    have : S5.2 = b3s_members S.2 u2.2 := by rw [e5, e4, e3]
    rw [this, show u2.2 = b3g_members S.2 from hf2]
  refine hq _ ⟨?_, ?_⟩ e2' (by rw [em]; exact c2) ⟨?_, fun j hj => ?_, eo⟩
  · unfold J3
    rw [em]
    exact hJ2.1
  · rw [e2']
    exact hJ.2
  · rw [em]
    exact q2
  · rw [ev, cpy_at (k := 6) (by decide) hj]
def F_X2_copyFrom (S u : bT2 × bT2) : Prop := u.2 = S.2
theorem sf_X2_copyFrom {S : bT2 × bT2} (hJ : J2 S.1 ∧ J2 S.2) {Q : (bT2 × bT2) → Prop} (hq : ∀ u : bT2 × bT2, (J2 u.1 ∧ J2 u.2) → F_X2_copyFrom S u → ((b0g_count (b2g_questions u.1)).toInt = (b0g_count (b2g_questions S.2)).toInt) → ((b2g_draws u.1).toInt = (b2g_draws S.2).toInt) → (MEQ u.1 S.2) → Q u) : wp_X2_copyFrom S Q := by
  unfold wp_X2_copyFrom
  refine sf_X3_copyFrom (S := ((b2g_told S.1), (b2g_told S.2))) ⟨J2g_told hJ.1, J2g_told hJ.2⟩ (fun u2 hJ2 hf2 _ q2 => ?_)
  intro S3 e3
  have f2 : u2.2 = b2g_told S.2 := hf2
  have a1 : b2g_told S3.1 = u2.1 := by rw [e3]
  have a2 : b2g_built S3.1 = b2g_built S.1 := by rw [e3]
  have a3 : b2g_questions S3.1 = b2g_questions S.1 := by rw [e3]
  have a4 : S3.2 = S.2 := by
    have : S3.2 = b2s_told S.2 u2.2 := by rw [e3]
    rw [this, f2]
  rw [a2, a4]
  refine sf_X3_copyFrom (S := ((b2g_built S.1), (b2g_built S.2))) ⟨J2g_built hJ.1, J2g_built hJ.2⟩ (fun u5 hJ5 hf5 _ q5 => ?_)
  intro S6 e6
  have f5 : u5.2 = b2g_built S.2 := hf5
  have b1 : b2g_told S6.1 = u2.1 := by rw [e6]; exact a1
  have b2 : b2g_built S6.1 = u5.1 := by rw [e6]
  have b3 : b2g_questions S6.1 = b2g_questions S.1 := by rw [e6]; exact a3
  have b4 : S6.2 = S.2 := by
    have : S6.2 = b2s_built S3.2 u5.2 := by rw [e6, a4]
    rw [this, f5, a4]
  rw [b3, b4]
  refine sf_X0_copyFrom (S := ((b2g_questions S.1), (b2g_questions S.2))) ⟨J2g_questions hJ.1, J2g_questions hJ.2⟩ (fun u8 hJ8 hf8 c8 q8 => ?_)
  intro S9 e9 S10 e10 S11 e11
  have f8 : u8.2 = b2g_questions S.2 := hf8
  have d4 : S9.2 = S.2 := by
    have : S9.2 = b2s_questions S6.2 u8.2 := by rw [e9, b4]
    rw [this, f8, b4]
  have c1 : b2g_told S11.1 = u2.1 := by rw [e11, e10, e9]; exact b1
  have c2 : b2g_built S11.1 = u5.1 := by rw [e11, e10, e9]; exact b2
  have c3 : b2g_questions S11.1 = u8.1 := by rw [e11, e10, e9]
  have c5 : b2g_answers S11.1 = va_cpy (b2g_answers S9.2) (b2g_answers S9.1) ((0 : Int32)).toNatClampNeg ((0 : Int32)).toNatClampNeg ((6 : Int32)).toNatClampNeg := by rw [e11, e10]
  have c6 : b2g_draws S11.1 = b2g_draws S.2 := by
    have : b2g_draws S11.1 = b2g_draws S9.2 := by rw [e11, e10]
    rw [this, d4]
  have c7 : S11.2 = S.2 := by
    have : S11.2 = S9.2 := by rw [e11, e10]
    rw [this, d4]
  refine hq _ ⟨?_, ?_⟩ c7 (by rw [c3]; exact c8) (by rw [c6]) ⟨by rw [c1]; exact q2, by rw [c2]; exact q5, by rw [c3]; exact q8, fun j hj => ?_, c6⟩
  · exact ⟨by rw [c1]; exact hJ2.1, by rw [c2]; exact hJ5.1, by rw [c3]; exact hJ8.1⟩
  · rw [c7]
    exact hJ.2
  · rw [c5, cpy_at (k := 6) (by decide) hj, d4]
def F_X2_draw (S u : bT2) : Prop := (b2g_told u) = (b2g_told S) ∧ (b2g_built u) = (b2g_built S) ∧ (b2g_questions u) = (b2g_questions S) ∧ (b2g_answers u) = (b2g_answers S)
set_option maxRecDepth 20000 in
set_option maxHeartbeats 8000000 in
theorem sf_X2_draw {S : bT2} (hJ : J2 S) {a1 : Int32} {Q : Int32 → (bT2) → Prop} (hq : ∀ (r : Int32) (u : bT2), (J2 u) → F_X2_draw S u → (b2g_draws u = lcg (b2g_draws S)) → (r = drw (b2g_draws u) a1) → Q r u) : wp_X2_draw S a1 Q := by
  unfold wp_X2_draw
  have hFS : F_X2_draw S S := ⟨rfl, rfl, rfl, rfl⟩
  have rga1 := pt_rg a1
  intro v1 ev1
  have nv1 := congrArg Int32.toInt ev1
  try simp (disch := first | ((try simp (disch := first | ((try simp only [pn]) <;> omega) | fail) only [pn, pq]) <;> omega) | fail) only [pn, pq] at nv1
  intro S2 eS2
  have hJS2 : J2 S2 := by rw [eS2]; exact (J2s_draws hJ)
  have hFS2 : F_X2_draw S S2 := by rw [eS2]; exact hFS
  have je1 : ((b2g_draws S2)).toInt = (v1).toInt := by rw [eS2]
  have jE1 := Int32.toInt_inj.mp je1
  try simp (disch := first | ((try simp (disch := first | ((try simp only [pn]) <;> omega) | fail) only [pn, pq]) <;> omega) | fail) only [pn, pq] at je1
  refine ⟨fun c3 => ?_, fun c3 => ?_⟩
  · try simp (disch := first | ((try simp (disch := first | ((try simp only [pn]) <;> omega) | fail) only [pn, pq]) <;> omega) | fail) only [pn, pq] at c3
    exact hq _ _ hJS2 hFS2 (by ((try simp only [ev1, jE1]) <;> (unfold lcg; rfl))) (by (first | exact (drw_0 (by omega)).symm | exact (drw_1 (by omega)).symm))
  · try simp (disch := first | ((try simp (disch := first | ((try simp only [pn]) <;> omega) | fail) only [pn, pq]) <;> omega) | fail) only [pn, pq] at c3
    refine ⟨(by (try simp (disch := first | ((try simp (disch := first | ((try simp only [pn]) <;> omega) | fail) only [pn, pq]) <;> omega) | fail) only [pn, pq]) <;> (intros; (try simp (disch := first | ((try simp (disch := first | ((try simp only [pn]) <;> omega) | fail) only [pn, pq]) <;> omega) | fail) only [pn, pq]) <;> omega)), ?_⟩
    exact hq _ _ hJS2 hFS2 (by ((try simp only [ev1, jE1]) <;> (unfold lcg; rfl))) (by (first | exact (drw_0 (by omega)).symm | exact (drw_1 (by omega)).symm))
def F_X2_drawBytes (S u : bT2) : Prop := (b2g_told u) = (b2g_told S) ∧ (b2g_built u) = (b2g_built S) ∧ (b2g_questions u) = (b2g_questions S) ∧ (b2g_answers u) = (b2g_answers S)
theorem sf_X2_drawBytes {S : bT2} (hJ : J2 S) {a1 : Int32} {Q : Int64 → (bT2) → Prop} (hq : ∀ (r : Int64) (u : bT2), (J2 u) → F_X2_drawBytes S u → (b2g_draws u = lcgN a1.toInt.toNat (b2g_draws S)) → (0 ≤ a1.toInt → a1.toInt ≤ 8 → r = DKY (b3g_values (b2g_told S) 4) (b2g_draws S) a1.toInt.toNat) → Q r u) : wp_X2_drawBytes S a1 Q := by
  unfold wp_X2_drawBytes wp_X2_drawBytes_5
  refine ⟨fun n x1 x2 x4 V => x1 = a1 ∧ 0 ≤ x4.toInt ∧ (x4.toInt = 0 ∨ x4.toInt ≤ a1.toInt) ∧ J2 V ∧ F_X2_drawBytes S V ∧ b2g_draws V = lcgN x4.toInt.toNat (b2g_draws S) ∧ (x4.toInt ≤ 8 → x2 = DKY (b3g_values (b2g_told S) 4) (b2g_draws S) x4.toInt.toNat) ∧ n = (a1.toInt + 1 - x4.toInt).toNat, ⟨_, rfl, by decide, Or.inl rfl, hJ, ⟨rfl, rfl, rfl, rfl⟩, by rw [z0, lcgN0], fun _ => by rw [z0]; rfl, rfl⟩, ?_⟩
  rintro n x1 x2 x4 V ⟨e1, h0, h1, hJV, hFV, hd, hk, hn⟩
  have et : b2g_told V = b2g_told S := hFV.1
  have rg := pt_rg a1
  unfold wp_X2_drawBytes_5b
  rw [e1]
  refine ⟨fun c => ?_, fun c => ?_⟩
  · simp only [pn] at c
    have ek : x4.toInt.toNat = a1.toInt.toNat := by omega
    rw [ek] at hd hk
    exact hq _ _ hJV hFV hd (fun a b => hk (by omega))
  simp only [pn] at c
  rw [et]
  refine sf_X8_at (by decide) (fun r1 g1 => sf_X2_draw hJV (fun r3 u4 hJ4 hf4 d4 q4 => sf_X8_octetTo (fun r5 g5 => ?_)))
  have x4' : (x4 + 1).toInt = x4.toInt + 1 := by rw [pt_add (by rw [pl_1]; omega) (by rw [pl_1]; omega), pl_1]
  refine ⟨_, ?_, rfl, by omega, Or.inr (by omega), hJ4, ⟨(hf4.1).trans (hFV.1), (hf4.2.1).trans (hFV.2.1), (hf4.2.2.1).trans (hFV.2.2.1), (hf4.2.2.2).trans (hFV.2.2.2)⟩, ?_, fun h8 => ?_, rfl⟩
  · omega
  · rw [d4, hd, lcgN_s h0 (by omega)]
  · rw [DKY_s h0 (by omega), hk (by omega), g5 h0 (by omega), q4, d4, hd, g1, at4]
def F_X2_note (S u : bT2) : Prop := (b2g_told u) = (b2g_told S) ∧ (b2g_built u) = (b2g_built S) ∧ (b2g_questions u) = (b2g_questions S) ∧ (b2g_draws u) = (b2g_draws S)
theorem sf_X2_note {S : bT2} (hJ : J2 S) {a1 : Int32} {a2 : Int32} {Q : (bT2) → Prop} (hp0 : 0 ≤ a1.toInt) (hp1 : a1.toInt ≤ 3) (hq : ∀ u : bT2, (J2 u) → F_X2_note S u → (b2g_answers u = NTE (b2g_answers S) a1.toNatClampNeg (YN a2) (IS2 a2)) → Q u) : wp_X2_note S a1 a2 Q := by
  have c1 := pt_clamp hp0
  have e1 : (a1 + 1).toInt = a1.toInt + 1 := by rw [pt_add (by rw [pl_1]; omega) (by rw [pl_1]; omega), pl_1]
  have e2 : (a1 + 2).toInt = a1.toInt + 2 := by rw [pt_add (by rw [pl_2]; omega) (by rw [pl_2]; omega), pl_2]
  have i1 : (a1 + 1).toNatClampNeg = a1.toNatClampNeg + 1 := by have := pt_clamp (i := a1 + 1) (by omega); omega
  have i2 : (a1 + 2).toNatClampNeg = a1.toNatClampNeg + 2 := by have := pt_clamp (i := a1 + 2) (by omega); omega
  have v0 : vp_in a1 6 := pt_in hp0 (by omega)
  have v1 : vp_in (a1 + 1) 6 := pt_in (by omega) (by omega)
  have v2 : vp_in (a1 + 2) 6 := pt_in (by omega) (by omega)
  obtain ⟨A, hA⟩ : ∃ A : Nat → Int32, b2g_answers S = A := ⟨_, rfl⟩
  obtain ⟨f, hf⟩ : ∃ f : Nat, a1.toNatClampNeg = f := ⟨_, rfl⟩
  unfold wp_X2_note
  refine ⟨fun c => ?_, fun c => ⟨fun d => ?_, fun d => ⟨v0, v0, fun S6 e6 => ⟨v1, ?_⟩⟩⟩⟩
  · simp only [pn] at c; omega
  · simp only [pn, e2] at d; omega
  have a6 : b2g_answers S6 = upd A f (A f + 1) := by rw [e6, hA, hf]
  have hF6 : F_X2_note S S6 := by rw [e6]; exact ⟨rfl, rfl, rfl, rfl⟩
  have hJ6 : J2 S6 := by rw [e6]; exact J2s_answers hJ
  have tail : ∀ t3 : Int32, t3 = YN a2 → wp_X2_note_40 S6 a1 a2 (a1 + 1) (b2g_answers S6 (a1 + 1).toNatClampNeg) t3 Q := by
    intro t3 ht
    unfold wp_X2_note_40
    refine ⟨v1, fun S1 e1' => ⟨v2, ?_⟩⟩
    have a1' : b2g_answers S1 = upd (upd A f (A f + 1)) (f + 1) (upd A f (A f + 1) (f + 1) + t3) := by rw [e1', a6, i1, hf]
    have hF1 : F_X2_note S S1 := by rw [e1']; exact hF6
    have hJ1 : J2 S1 := by rw [e1']; exact J2s_answers hJ6
    refine ⟨fun c => ?_, fun c => ?_⟩
    · intro v2' ev
      refine ⟨v2, fun S3 e3 => hq _ (by rw [e3]; exact J2s_answers hJ1) (by rw [e3]; exact hF1) ?_⟩
      have : b2g_answers S3 = upd (b2g_answers S1) (f + 2) (b2g_answers S1 (f + 2) + 0) := by rw [e3, ev, i2, hf]
      rw [this, a1', NTE_upd, ht, hA, hf]
      unfold IS2
      rw [if_neg c]
    · intro v4 ev
      refine ⟨v2, fun S5 e5 => hq _ (by rw [e5]; exact J2s_answers hJ1) (by rw [e5]; exact hF1) ?_⟩
      have : b2g_answers S5 = upd (b2g_answers S1) (f + 2) (b2g_answers S1 (f + 2) + 1) := by rw [e5, ev, i2, hf]
      rw [this, a1', NTE_upd, ht, hA, hf]
      unfold IS2
      rw [if_pos c]
  exact ⟨fun c => tail 1 (YN_y c).symm, fun c => tail 0 (YN_n c).symm⟩
def F_X4_putFour (S u : bT4) : Prop := True
theorem sf_X4_putFour {S : bT4} (hJ : J4 S) {a1 : Int32} {Q : (bT4) → Prop} (hq : ∀ u : bT4, (J4 u) → F_X4_putFour S u → ((b4g_count S).toInt ≤ 156 → (b4g_count u).toInt = (b4g_count S).toInt + 4) → ((b4g_count S).toInt ≤ 156 → PF (b4g_octets S) (b4g_count S).toInt a1 4 (b4g_octets u)) → Q u) : wp_X4_putFour S a1 Q := by
  have jc := J4g_count hJ
  unfold wp_X4_putFour wp_X4_putFour_3
  refine ⟨fun n x1 x2 V => x1 = a1 ∧ J4 V ∧ ∃ i : Nat, i ≤ 4 ∧ x2.toInt = 24 - 8 * (i : Int) ∧ n = 4 - i ∧ ((b4g_count S).toInt ≤ 156 → (b4g_count V).toInt = (b4g_count S).toInt + i ∧ PF (b4g_octets S) (b4g_count S).toInt a1 i (b4g_octets V)), ⟨_, rfl, hJ, 0, by decide, rfl, rfl, fun _ => ⟨by omega, PF_0⟩⟩, ?_⟩
  rintro n x1 x2 V ⟨ex, hJV, i, hi, h2, hn, hP⟩
  have jV := J4g_count hJV
  unfold wp_X4_putFour_3b
  rw [ex]
  refine ⟨fun c => ?_, fun c => ?_⟩
  · simp only [pn] at c
    have i4 : i = 4 := by omega
    subst i4
    exact hq _ hJV trivial (fun h => (hP h).1) (fun h => (hP h).2)
  simp only [pn] at c
  have x8 : (x2 + (-8 : Int32)).toInt = x2.toInt - 8 := by
    have : (-8 : Int32).toInt = -8 := rfl
    rw [pt_add (by omega) (by omega)]
    omega
  obtain ⟨y, hy⟩ : ∃ y : Int32, x2 + (-8 : Int32) = y := ⟨_, rfl⟩
  rw [hy] at x8
  refine ⟨fun d => ?_, fun d => ?_⟩
  · simp only [pn] at d
    unfold wp_X4_putFour_43
    rw [hy]
    refine ⟨_, ?_, rfl, hJV, i + 1, by omega, by omega, rfl, fun h => ?_⟩
    · omega
    · have := (hP h).1
      exfalso
      omega
  simp only [pn] at d
  intro v1 e1
  refine ⟨pt_in (by omega) (by omega), fun S2 e2 S3 e3 => ?_⟩
  unfold wp_X4_putFour_43
  rw [hy]
  have c1 : (b4g_count V + 1).toInt = (b4g_count V).toInt + 1 := by rw [pt_add (by rw [pl_1]; omega) (by rw [pl_1]; omega), pl_1]
  have ec : (b4g_count S3).toInt = (b4g_count V).toInt + 1 := by rw [e3, e2]; exact c1
  have eo : b4g_octets S3 = upd (b4g_octets V) (b4g_count V).toNatClampNeg v1 := by rw [e3, e2]
  refine ⟨_, ?_, rfl, ?_, i + 1, by omega, by omega, rfl, fun h => ?_⟩
  · omega
  · exact ⟨by rw [ec]; omega, by rw [ec]; omega⟩
  · have p := hP h
    have x2' : x2 = nI (24 - 8 * i) := Int32.toInt_inj.mp (by rw [nI_toInt (by omega)]; omega)
    refine ⟨by rw [ec]; omega, ?_⟩
    rw [eo]
    exact PF_s p.2 p.1 jc.1 (by rw [e1, x2']; rfl)
theorem sf_X4_keyAt {S : bT4} (hJ : J4 S) {a1 : Int32} {a2 : Int32} {Q : Int64 → Prop} (hq : ∀ r : Int64, (0 ≤ a1.toInt → 0 ≤ a2.toInt → a2.toInt ≤ 8 → a1.toInt + a2.toInt ≤ 160 → r = TKf (b4g_octets S) a1.toNatClampNeg a2.toInt.toNat) → Q r) : wp_X4_keyAt S a1 a2 Q := by
  unfold wp_X4_keyAt wp_X4_keyAt_5
  refine ⟨fun n x1 x2 x3 x5 => x1 = a1 ∧ x2 = a2 ∧ 0 ≤ x5.toInt ∧ (x5.toInt = 0 ∨ x5.toInt ≤ a2.toInt) ∧ (0 ≤ a1.toInt → a2.toInt ≤ 8 → a1.toInt + a2.toInt ≤ 160 → x3 = TKf (b4g_octets S) a1.toNatClampNeg x5.toInt.toNat) ∧ n = (a2.toInt + 1 - x5.toInt).toNat, ⟨_, rfl, rfl, by decide, Or.inl rfl, fun _ _ _ => by rw [z0]; rfl, rfl⟩, ?_⟩
  rintro n x1 x2 x3 x5 ⟨e1, e2, h0, h2, hk, hn⟩
  have rg2 := pt_rg a2
  unfold wp_X4_keyAt_5b
  rw [e1, e2]
  refine ⟨fun c => ?_, fun c => ?_⟩
  · simp only [pn] at c
    refine hq _ (fun g0 g1 g2 g3 => ?_)
    rw [hk g0 g2 g3, show x5.toInt = a2.toInt by omega]
  simp only [pn] at c
  have x5' : (x5 + 1).toInt = x5.toInt + 1 := by rw [pt_add (by rw [pl_1]; omega) (by rw [pl_1]; omega), pl_1]
  refine sf_X8_at (by decide) (fun r1 g1 => sf_X8_octetTo (fun r3 g3 => ⟨_, ?_, rfl, rfl, by omega, Or.inr (by omega), fun k0 k1 k2 => ?_, rfl⟩))
  · omega
  · have ea : (a1 + x5).toInt = a1.toInt + x5.toInt := pt_add (by omega) (by omega)
    have ca := pt_clamp (i := a1 + x5) (by omega)
    have c1 := pt_clamp k0
    rw [hk k0 k1 k2, TKf_s h0 (by omega), g3 h0 (by omega), g1, atf_in (by omega) (by omega), show (a1 + x5).toNatClampNeg = a1.toNatClampNeg + x5.toInt.toNat by omega]
set_option maxRecDepth 20000 in
set_option maxHeartbeats 8000000 in
theorem sf_X8_isLength {a0 : Int32} {Q : Int32 → Prop} (hq : ∀ r : Int32, bf_bool r → ((r.toInt = 1 ∧ 1 ≤ a0.toInt ∧ a0.toInt ≤ 8) ∨ (r.toInt = 0 ∧ (a0.toInt < 1 ∨ 8 < a0.toInt))) → Q r) : wp_X8_isLength a0 Q := by
  unfold wp_X8_isLength
  have rga0 := pt_rg a0
  refine ⟨fun c1 => ?_, fun c1 => ?_⟩
  · try simp (disch := first | ((try simp (disch := first | ((try simp only [pn]) <;> omega) | fail) only [pn, pq]) <;> omega) | fail) only [pn, pq] at c1
    exact ⟨by first | rfl | assumption, hq _ (by first | rfl | assumption) (by (try simp (disch := first | ((try simp (disch := first | ((try simp only [pn]) <;> omega) | fail) only [pn, pq]) <;> omega) | fail) only [pn, pq]) <;> (intros; (try simp (disch := first | ((try simp (disch := first | ((try simp only [pn]) <;> omega) | fail) only [pn, pq]) <;> omega) | fail) only [pn, pq]) <;> omega))⟩
  · try simp (disch := first | ((try simp (disch := first | ((try simp only [pn]) <;> omega) | fail) only [pn, pq]) <;> omega) | fail) only [pn, pq] at c1
    refine ⟨fun c2 => ?_, fun c2 => ?_⟩
    · try simp (disch := first | ((try simp (disch := first | ((try simp only [pn]) <;> omega) | fail) only [pn, pq]) <;> omega) | fail) only [pn, pq] at c2
      exact ⟨by first | rfl | assumption, hq _ (by first | rfl | assumption) (by (try simp (disch := first | ((try simp (disch := first | ((try simp only [pn]) <;> omega) | fail) only [pn, pq]) <;> omega) | fail) only [pn, pq]) <;> (intros; (try simp (disch := first | ((try simp (disch := first | ((try simp only [pn]) <;> omega) | fail) only [pn, pq]) <;> omega) | fail) only [pn, pq]) <;> omega))⟩
    · try simp (disch := first | ((try simp (disch := first | ((try simp only [pn]) <;> omega) | fail) only [pn, pq]) <;> omega) | fail) only [pn, pq] at c2
      exact ⟨by first | rfl | assumption, hq _ (by first | rfl | assumption) (by (try simp (disch := first | ((try simp (disch := first | ((try simp only [pn]) <;> omega) | fail) only [pn, pq]) <;> omega) | fail) only [pn, pq]) <;> (intros; (try simp (disch := first | ((try simp (disch := first | ((try simp only [pn]) <;> omega) | fail) only [pn, pq]) <;> omega) | fail) only [pn, pq]) <;> omega))⟩
def F_X4_readInto (S u : bT4 × bT0) : Prop := u.1 = S.1
theorem sf_X4_readInto {S : bT4 × bT0} (hJ : J4 S.1 ∧ J0 S.2) {Q : Int32 → (bT4 × bT0) → Prop} (hq : ∀ (r : Int32) (u : bT4 × bT0), (J4 u.1 ∧ J0 u.2) → F_X4_readInto S u → bf_bool r → (SRT (b0g_bytes S.2) (b0g_lengths S.2) (b0g_count S.2).toInt → RDI (b4g_octets S.1) (b4g_count S.1).toInt (b0g_bytes S.2) (b0g_lengths S.2) (b0g_count S.2).toInt r.toInt (b0g_bytes u.2) (b0g_lengths u.2) (b0g_count u.2).toInt) → Q r u) : wp_X4_readInto S Q := by
  have jc := J4g_count hJ.1
  unfold wp_X4_readInto wp_X4_readInto_2
  refine ⟨fun n x2 V => V.1 = S.1 ∧ J0 V.2 ∧ (∃ i : Nat, x2.toInt = (POS (b4g_octets S.1) i : Int) ∧ (POS (b4g_octets S.1) i : Int) ≤ (b4g_count S.1).toInt ∧ (∀ q : Nat, q < i → 1 ≤ (b4g_octets S.1 (POS (b4g_octets S.1) q)).toInt ∧ (b4g_octets S.1 (POS (b4g_octets S.1) q)).toInt ≤ 8) ∧ (SRT (b0g_bytes S.2) (b0g_lengths S.2) (b0g_count S.2).toInt → (b0g_count S.2).toInt + NWC (b0g_bytes S.2) (b0g_lengths S.2) (b0g_count S.2).toInt (TKY (b4g_octets S.1)) (TNY (b4g_octets S.1)) i ≤ 64 ∧ ∃ w : Int, CHN (TKY (b4g_octets S.1)) (TNY (b4g_octets S.1)) i (b0g_bytes S.2) (b0g_lengths S.2) (b0g_count S.2).toInt (b0g_bytes V.2) (b0g_lengths V.2) (b0g_count V.2).toInt w)) ∧ n = (400 - x2.toInt).toNat, ⟨_, rfl, hJ.2, ⟨0, rfl, by have z0p : POS (b4g_octets S.1) 0 = 0 := rfl; omega, fun q hq => by omega, fun hs => ⟨by have := (J0g_count hJ.2).2; have z : NWC (b0g_bytes S.2) (b0g_lengths S.2) (b0g_count S.2).toInt (TKY (b4g_octets S.1)) (TNY (b4g_octets S.1)) 0 = 0 := rfl; omega, 0, rfl, fun j hj => ⟨rfl, rfl⟩, rfl⟩⟩, rfl⟩, ?_⟩
  rintro n x2 V ⟨eV, hJV, ⟨i, hx, hle, hq8, hC⟩, hn⟩
  obtain ⟨T, hT⟩ : ∃ T : Nat → Int32, b4g_octets S.1 = T := ⟨_, rfl⟩
  have cx := pt_clamp (i := x2) (by omega)
  have ex : x2.toNatClampNeg = POS T i := by rw [← hT]; omega
  unfold wp_X4_readInto_2b
  rw [eV]
  rw [hT] at hx hle hq8 hC hq ⊢
  refine ⟨fun c => ⟨rfl, ?_⟩, fun c => ?_⟩
  · simp only [pn] at c
    refine hq _ _ ⟨by rw [eV]; exact hJ.1, hJV⟩ eV rfl (fun hs => Or.inl ⟨rfl, i, ?_⟩)
    obtain ⟨a, w, b⟩ := hC hs
    exact ⟨w, ⟨by omega, hq8⟩, a, b⟩
  simp only [pn] at c
  refine sf_X8_at (by decide) (fun r1 g1 => ?_)
  rw [atf_in (by omega) (by omega), ex] at g1
  have fail : (∀ p : Nat, WFP T (b4g_count S.1).toInt p → i < p → False) → Q 0 V := by
    intro hf
    refine hq _ _ ⟨by rw [eV]; exact hJ.1, hJV⟩ eV rfl (fun hs => Or.inr ⟨rfl, fun p hp => ?_⟩)
    exact (hf p hp (POS_in hp (by omega))).elim
  refine sf_X8_isLength (fun r3 hz h3 => ⟨fun d => ⟨rfl, fail (fun p hp hi => ?_)⟩, fun d => ?_⟩)
  · simp only [pn] at d
    have := hp.2 i hi
    rw [← g1] at this
    omega
  simp only [pn] at d
  have l18 : 1 ≤ r1.toInt ∧ r1.toInt ≤ 8 := by omega
  have ea : (x2 + r1).toInt = x2.toInt + r1.toInt := pt_add (by omega) (by omega)
  have e1 : (x2 + 1).toInt = x2.toInt + 1 := by rw [pt_add (by rw [pl_1]; omega) (by rw [pl_1]; omega), pl_1]
  have ps : (POS T (i + 1) : Int) = (POS T i : Int) + 1 + r1.toInt := by
    rw [POS_s, ← g1]
    omega
  refine ⟨fun e => ?_, fun e => ⟨rfl, fail (fun p hp hi => ?_)⟩⟩
  rotate_left
  · simp only [pn, ea] at e
    have := POS_le (T := T) (show i + 1 ≤ p by omega)
    have := hp.1
    omega
  simp only [pn, ea] at e
  refine sf_X4_keyAt hJ.1 (fun r5 h5 => ?_)
  have ek : r5 = TKY T i := by
    rw [h5 (by omega) (by omega) (by omega) (by omega), hT]
    unfold TKY
    have c2 := pt_clamp (i := x2 + 1) (by omega)
    rw [show (x2 + 1).toNatClampNeg = POS T i + 1 by omega, g1]
  have eN : r1 = TNY T i := g1
  have step : ∀ (U : bT4 × bT0), U.1 = S.1 → J0 U.2 → (SRT (b0g_bytes S.2) (b0g_lengths S.2) (b0g_count S.2).toInt → (b0g_count S.2).toInt + NWC (b0g_bytes S.2) (b0g_lengths S.2) (b0g_count S.2).toInt (TKY T) (TNY T) (i + 1) ≤ 64 ∧ ∃ w : Int, CHN (TKY T) (TNY T) (i + 1) (b0g_bytes S.2) (b0g_lengths S.2) (b0g_count S.2).toInt (b0g_bytes U.2) (b0g_lengths U.2) (b0g_count U.2).toInt w) → wp_X4_readInto_72 U x2 r1 Q (fun x2 V => ∃ n2 : Nat, n2 < n ∧ V.1 = S.1 ∧ J0 V.2 ∧ (∃ i : Nat, x2.toInt = (POS T i : Int) ∧ (POS T i : Int) ≤ (b4g_count S.1).toInt ∧ (∀ q : Nat, q < i → 1 ≤ (T (POS T q)).toInt ∧ (T (POS T q)).toInt ≤ 8) ∧ (SRT (b0g_bytes S.2) (b0g_lengths S.2) (b0g_count S.2).toInt → (b0g_count S.2).toInt + NWC (b0g_bytes S.2) (b0g_lengths S.2) (b0g_count S.2).toInt (TKY T) (TNY T) i ≤ 64 ∧ ∃ w : Int, CHN (TKY T) (TNY T) i (b0g_bytes S.2) (b0g_lengths S.2) (b0g_count S.2).toInt (b0g_bytes V.2) (b0g_lengths V.2) (b0g_count V.2).toInt w)) ∧ n2 = (400 - x2.toInt).toNat) := by
    intro U hU1 hU2 hU3
    unfold wp_X4_readInto_72
    have e2 : (r1 + 1).toInt = r1.toInt + 1 := by rw [pt_add (by rw [pl_1]; omega) (by rw [pl_1]; omega), pl_1]
    have e3 : (x2 + (r1 + 1)).toInt = x2.toInt + r1.toInt + 1 := by rw [pt_add (by omega) (by omega), e2]; omega
    refine ⟨_, ?_, hU1, hU2, ⟨i + 1, by omega, by omega, fun q hq2 => ?_, hU3⟩, rfl⟩
    · omega
    · by_cases h : q = i
      · rw [h, ← g1]; exact l18
      · exact hq8 q (by omega)
  refine fx_numberOf hJV (fun r7 h7 h7' hN => ⟨fun f => step V eV hJV (fun hs => ?_), fun f => ?_⟩)
  · obtain ⟨a, w, b⟩ := hC hs
    have hsV := CHN_srt hs i (fun q hq2 => hq8 q hq2) b
    obtain ⟨m1, m2, m3⟩ := CHN_new i a b
    have nu := hN hsV l18
    rcases nu with ⟨n0, n1, n2⟩ | ⟨n0, n1⟩
    · have dup : ∃ j : Nat, (j : Int) < (b0g_count V.2).toInt ∧ b0g_bytes V.2 j = TKY T i ∧ b0g_lengths V.2 j = TNY T i := ⟨r7.toInt.toNat, by omega, by rw [← ek]; exact (n2 _ (by omega)).1, by rw [← eN]; exact (n2 _ (by omega)).2⟩
      have old := (m3 _ _).mp dup
      rw [NWC_o old]
      exact ⟨a, w, _, _, _, -1, w, b, Or.inl ⟨rfl, rfl, fun j hj => ⟨rfl, rfl⟩, Or.inr dup⟩, by rw [if_pos rfl]; omega⟩
    · exact absurd (Int32.toInt_inj.mp (n0.trans pl_m1.symm)) f
  · refine sf_X0_insert hJV (fun r9 u10 hJ10 hf10 hI => ?_)
    intro S11 e11
    have s1 : S11.1 = S.1 := by rw [e11]
    have s2 : S11.2 = u10 := by rw [e11]
    refine ⟨fun g => step S11 s1 (by rw [s2]; exact hJ10) (fun hs => ?_), fun g => ⟨rfl, ?_⟩⟩
    · obtain ⟨a, w, b⟩ := hC hs
      have hsV := CHN_srt hs i (fun q hq2 => hq8 q hq2) b
      obtain ⟨m1, m2, m3⟩ := CHN_new i a b
      have ins := hI hsV l18
      rw [ek, eN] at ins
      have st := NWC_s (f := b0g_bytes S.2) (g := b0g_lengths S.2) (c := (b0g_count S.2).toInt) (K := TKY T) (N := TNY T) i
      have lt : (b0g_count V.2).toInt < 64 := by
        rcases ins with ⟨b1, _⟩ | ⟨b1, _⟩
        · exact absurd (Int32.toInt_inj.mp (b1.trans pl_m1.symm)) g
        · exact b1
      rw [s2]
      exact ⟨by omega, _, _, _, _, r9.toInt, w, b, ins, rfl⟩
    · refine hq _ _ ⟨by rw [s1]; exact hJ.1, by rw [s2]; exact hJ10⟩ s1 rfl (fun hs => Or.inr ⟨rfl, fun p hp => ?_⟩)
      obtain ⟨a, w, b⟩ := hC hs
      have hsV := CHN_srt hs i (fun q hq2 => hq8 q hq2) b
      obtain ⟨m1, m2, m3⟩ := CHN_new i a b
      have ins := hI hsV l18
      rw [ek, eN, g, pl_m1] at ins
      have nu := hN hsV l18
      rw [ek, eN, f, pl_m1] at nu
      have nodup : ∀ j : Nat, (j : Int) < (b0g_count V.2).toInt → ¬ (b0g_bytes V.2 j = TKY T i ∧ b0g_lengths V.2 j = TNY T i) := by
        rcases nu with ⟨n0, _⟩ | ⟨_, n1⟩
        · omega
        · exact n1
      have full : 64 ≤ (b0g_count V.2).toInt := by
        rcases ins with ⟨_, _, _, b4⟩ | ⟨_, _, b3, _⟩
        · rcases b4 with b4 | ⟨j, x, y, z⟩
          · exact b4
          · exact absurd ⟨y, z⟩ (nodup j x)
        · have := b3.1
          omega
      have no : ¬ OLD (b0g_bytes S.2) (b0g_lengths S.2) (b0g_count S.2).toInt (TKY T) (TNY T) i (TKY T i) (TNY T i) := by
        intro ho
        obtain ⟨j, x, y, z⟩ := (m3 _ _).mpr ho
        exact nodup j x ⟨y, z⟩
      have e1 := NWC_n no
      have e2 := NWC_le (f := b0g_bytes S.2) (g := b0g_lengths S.2) (c := (b0g_count S.2).toInt) (K := TKY T) (N := TNY T) (show i + 1 ≤ p from POS_in hp (by omega))
      omega
def F_X5_put (S u : bT5) : Prop := True
set_option maxRecDepth 20000 in
set_option maxHeartbeats 8000000 in
theorem sf_X5_put {S : bT5} (hJ : J5 S) {a1 : Int32} {Q : (bT5) → Prop} (hq : ∀ u : bT5, (J5 u) → F_X5_put S u → Q u) : wp_X5_put S a1 Q := by
  unfold wp_X5_put
  have hFS : F_X5_put S S := trivial
  have jf1 := J5g_length hJ
  have rga1 := pt_rg a1
  refine ⟨fun c1 => ?_, fun c1 => ?_⟩
  · try simp (disch := first | ((try simp (disch := first | ((try simp only [pn]) <;> omega) | fail) only [pn, pq]) <;> omega) | fail) only [pn, pq] at c1
    exact hq _ hJ hFS 
  · try simp (disch := first | ((try simp (disch := first | ((try simp only [pn]) <;> omega) | fail) only [pn, pq]) <;> omega) | fail) only [pn, pq] at c1
    refine ⟨pt_in (by (try simp (disch := first | ((try simp (disch := first | ((try simp only [pn]) <;> omega) | fail) only [pn, pq]) <;> omega) | fail) only [pn, pq]) <;> (intros; (try simp (disch := first | ((try simp (disch := first | ((try simp only [pn]) <;> omega) | fail) only [pn, pq]) <;> omega) | fail) only [pn, pq]) <;> omega)) (by (try simp (disch := first | ((try simp (disch := first | ((try simp only [pn]) <;> omega) | fail) only [pn, pq]) <;> omega) | fail) only [pn, pq]) <;> (intros; (try simp (disch := first | ((try simp (disch := first | ((try simp only [pn]) <;> omega) | fail) only [pn, pq]) <;> omega) | fail) only [pn, pq]) <;> omega)), ?_⟩
    intro S2 eS2
    have hJS2 : J5 S2 := by rw [eS2]; exact (J5s_signs hJ)
    have hFS2 : F_X5_put S S2 := by rw [eS2]; exact hFS
    have je2 : ((b5g_length S2)).toInt = ((b5g_length S)).toInt := by rw [eS2]
    have jf3 := J5g_length hJS2
    intro S3 eS3
    have hJS3 : J5 S3 := by rw [eS3]; exact (J5s_length hJS2 ⟨(by (try simp (disch := first | ((try simp (disch := first | ((try simp only [pn]) <;> omega) | fail) only [pn, pq]) <;> omega) | fail) only [pn, pq]) <;> (intros; (try simp (disch := first | ((try simp (disch := first | ((try simp only [pn]) <;> omega) | fail) only [pn, pq]) <;> omega) | fail) only [pn, pq]) <;> omega)), (by (try simp (disch := first | ((try simp (disch := first | ((try simp only [pn]) <;> omega) | fail) only [pn, pq]) <;> omega) | fail) only [pn, pq]) <;> (intros; (try simp (disch := first | ((try simp (disch := first | ((try simp only [pn]) <;> omega) | fail) only [pn, pq]) <;> omega) | fail) only [pn, pq]) <;> omega))⟩)
    have hFS3 : F_X5_put S S3 := by rw [eS3]; exact hFS2
    have je4 : ((b5g_length S3)).toInt = (((b5g_length S2) + (1 : Int32))).toInt := by rw [eS3]
    try simp (disch := first | ((try simp (disch := first | ((try simp only [pn]) <;> omega) | fail) only [pn, pq]) <;> omega) | fail) only [pn, pq] at je4
    have jf5 := J5g_length hJS3
    exact hq _ hJS3 hFS3 
def F_X5_putNumber (S u : bT5) : Prop := True
set_option maxRecDepth 20000 in
set_option maxHeartbeats 8000000 in
theorem sf_X5_putNumber {S : bT5} (hJ : J5 S) {a1 : Int32} {Q : (bT5) → Prop} (hq : ∀ u : bT5, (J5 u) → F_X5_putNumber S u → Q u) : wp_X5_putNumber S a1 Q := by
  unfold wp_X5_putNumber
  have hFS : F_X5_putNumber S S := trivial
  have rga1 := pt_rg a1
  intro v1 ev1
  have nv1 := congrArg Int32.toInt ev1
  try simp (disch := first | ((try simp (disch := first | ((try simp only [pn]) <;> omega) | fail) only [pn, pq]) <;> omega) | fail) only [pn, pq] at nv1
  refine ⟨fun n x1q2 x2q2 Sq2 => (J5 Sq2) ∧ (F_X5_putNumber S Sq2) ∧ (x1q2 = a1) ∧ (0 ≤ (x2q2).toInt) ∧ n = (x2q2).toInt.toNat, ⟨_, hJ, hFS, rfl, (by (try simp (disch := first | ((try simp (disch := first | ((try simp only [pn]) <;> omega) | fail) only [pn, pq]) <;> omega) | fail) only [pn, pq]) <;> (intros; (try simp (disch := first | ((try simp (disch := first | ((try simp only [pn]) <;> omega) | fail) only [pn, pq]) <;> omega) | fail) only [pn, pq]) <;> omega)), rfl⟩, ?_⟩
  rintro n3 x1q2 x2q2 Sq2 ⟨hJSq2, hFSq2, hkq2_0, hiq2_0, hn3⟩
  subst hkq2_0
  have rgx1q2 := pt_rg x1q2
  have rgx2q2 := pt_rg x2q2
  unfold wp_X5_putNumber_3b
  refine ⟨fun c4 => ?_, fun c4 => ?_⟩
  · try simp (disch := first | ((try simp (disch := first | ((try simp only [pn]) <;> omega) | fail) only [pn, pq]) <;> omega) | fail) only [pn, pq] at c4
    exact hq _ hJSq2 hFSq2 
  · try simp (disch := first | ((try simp (disch := first | ((try simp only [pn]) <;> omega) | fail) only [pn, pq]) <;> omega) | fail) only [pn, pq] at c4
    refine ⟨fun c5 => ?_, fun c5 => ?_⟩
    · try simp (disch := first | ((try simp (disch := first | ((try simp only [pn]) <;> omega) | fail) only [pn, pq]) <;> omega) | fail) only [pn, pq] at c5
      unfold wp_X5_putNumber_17
      refine ⟨(by (try simp (disch := first | ((try simp (disch := first | ((try simp only [pn]) <;> omega) | fail) only [pn, pq]) <;> omega) | fail) only [pn, pq]) <;> (intros; (try simp (disch := first | ((try simp (disch := first | ((try simp only [pn]) <;> omega) | fail) only [pn, pq]) <;> omega) | fail) only [pn, pq]) <;> omega)), ?_⟩
      refine ⟨(by (try simp (disch := first | ((try simp (disch := first | ((try simp only [pn]) <;> omega) | fail) only [pn, pq]) <;> omega) | fail) only [pn, pq]) <;> (intros; (try simp (disch := first | ((try simp (disch := first | ((try simp only [pn]) <;> omega) | fail) only [pn, pq]) <;> omega) | fail) only [pn, pq]) <;> omega)), ?_⟩
      refine sf_X5_put hJSq2 (fun u7 hJu7 hfu7  => ?_)
      have hFu7 : F_X5_putNumber S u7 := trivial
      unfold wp_X5_putNumber_31
      refine ⟨(by (try simp (disch := first | ((try simp (disch := first | ((try simp only [pn]) <;> omega) | fail) only [pn, pq]) <;> omega) | fail) only [pn, pq]) <;> (intros; (try simp (disch := first | ((try simp (disch := first | ((try simp only [pn]) <;> omega) | fail) only [pn, pq]) <;> omega) | fail) only [pn, pq]) <;> omega)), ?_⟩
      refine ⟨_, ?_, ?_, ?_, ?_, ?_, rfl⟩
      · (try simp (disch := first | ((try simp (disch := first | ((try simp only [pn]) <;> omega) | fail) only [pn, pq]) <;> omega) | fail) only [pn, pq]) <;> (intros; (try simp (disch := first | ((try simp (disch := first | ((try simp only [pn]) <;> omega) | fail) only [pn, pq]) <;> omega) | fail) only [pn, pq]) <;> omega)
      · exact hJu7
      · exact hFu7
      · first | rfl | assumption
      · (try simp (disch := first | ((try simp (disch := first | ((try simp only [pn]) <;> omega) | fail) only [pn, pq]) <;> omega) | fail) only [pn, pq]) <;> (intros; (try simp (disch := first | ((try simp (disch := first | ((try simp only [pn]) <;> omega) | fail) only [pn, pq]) <;> omega) | fail) only [pn, pq]) <;> omega)
    · try simp (disch := first | ((try simp (disch := first | ((try simp only [pn]) <;> omega) | fail) only [pn, pq]) <;> omega) | fail) only [pn, pq] at c5
      refine ⟨fun c8 => ?_, fun c8 => ?_⟩
      · try simp (disch := first | ((try simp (disch := first | ((try simp only [pn]) <;> omega) | fail) only [pn, pq]) <;> omega) | fail) only [pn, pq] at c8
        unfold wp_X5_putNumber_31
        refine ⟨(by (try simp (disch := first | ((try simp (disch := first | ((try simp only [pn]) <;> omega) | fail) only [pn, pq]) <;> omega) | fail) only [pn, pq]) <;> (intros; (try simp (disch := first | ((try simp (disch := first | ((try simp only [pn]) <;> omega) | fail) only [pn, pq]) <;> omega) | fail) only [pn, pq]) <;> omega)), ?_⟩
        refine ⟨_, ?_, ?_, ?_, ?_, ?_, rfl⟩
        · (try simp (disch := first | ((try simp (disch := first | ((try simp only [pn]) <;> omega) | fail) only [pn, pq]) <;> omega) | fail) only [pn, pq]) <;> (intros; (try simp (disch := first | ((try simp (disch := first | ((try simp only [pn]) <;> omega) | fail) only [pn, pq]) <;> omega) | fail) only [pn, pq]) <;> omega)
        · exact hJSq2
        · exact hFSq2
        · first | rfl | assumption
        · (try simp (disch := first | ((try simp (disch := first | ((try simp only [pn]) <;> omega) | fail) only [pn, pq]) <;> omega) | fail) only [pn, pq]) <;> (intros; (try simp (disch := first | ((try simp (disch := first | ((try simp only [pn]) <;> omega) | fail) only [pn, pq]) <;> omega) | fail) only [pn, pq]) <;> omega)
      · try simp (disch := first | ((try simp (disch := first | ((try simp only [pn]) <;> omega) | fail) only [pn, pq]) <;> omega) | fail) only [pn, pq] at c8
        unfold wp_X5_putNumber_17
        refine ⟨(by (try simp (disch := first | ((try simp (disch := first | ((try simp only [pn]) <;> omega) | fail) only [pn, pq]) <;> omega) | fail) only [pn, pq]) <;> (intros; (try simp (disch := first | ((try simp (disch := first | ((try simp only [pn]) <;> omega) | fail) only [pn, pq]) <;> omega) | fail) only [pn, pq]) <;> omega)), ?_⟩
        refine ⟨(by (try simp (disch := first | ((try simp (disch := first | ((try simp only [pn]) <;> omega) | fail) only [pn, pq]) <;> omega) | fail) only [pn, pq]) <;> (intros; (try simp (disch := first | ((try simp (disch := first | ((try simp only [pn]) <;> omega) | fail) only [pn, pq]) <;> omega) | fail) only [pn, pq]) <;> omega)), ?_⟩
        refine sf_X5_put hJSq2 (fun u10 hJu10 hfu10  => ?_)
        have hFu10 : F_X5_putNumber S u10 := trivial
        unfold wp_X5_putNumber_31
        refine ⟨(by (try simp (disch := first | ((try simp (disch := first | ((try simp only [pn]) <;> omega) | fail) only [pn, pq]) <;> omega) | fail) only [pn, pq]) <;> (intros; (try simp (disch := first | ((try simp (disch := first | ((try simp only [pn]) <;> omega) | fail) only [pn, pq]) <;> omega) | fail) only [pn, pq]) <;> omega)), ?_⟩
        refine ⟨_, ?_, ?_, ?_, ?_, ?_, rfl⟩
        · (try simp (disch := first | ((try simp (disch := first | ((try simp only [pn]) <;> omega) | fail) only [pn, pq]) <;> omega) | fail) only [pn, pq]) <;> (intros; (try simp (disch := first | ((try simp (disch := first | ((try simp only [pn]) <;> omega) | fail) only [pn, pq]) <;> omega) | fail) only [pn, pq]) <;> omega)
        · exact hJu10
        · exact hFu10
        · first | rfl | assumption
        · (try simp (disch := first | ((try simp (disch := first | ((try simp only [pn]) <;> omega) | fail) only [pn, pq]) <;> omega) | fail) only [pn, pq]) <;> (intros; (try simp (disch := first | ((try simp (disch := first | ((try simp only [pn]) <;> omega) | fail) only [pn, pq]) <;> omega) | fail) only [pn, pq]) <;> omega)
def F_X5_putHalf (S u : bT5) : Prop := True
set_option maxRecDepth 20000 in
set_option maxHeartbeats 8000000 in
theorem sf_X5_putHalf {S : bT5} (hJ : J5 S) {a1 : Int32} {Q : (bT5) → Prop} (hq : ∀ u : bT5, (J5 u) → F_X5_putHalf S u → Q u) : wp_X5_putHalf S a1 Q := by
  unfold wp_X5_putHalf
  have hFS : F_X5_putHalf S S := trivial
  have rga1 := pt_rg a1
  refine ⟨fun c1 => ?_, fun c1 => ?_⟩
  · try simp (disch := first | ((try simp (disch := first | ((try simp only [pn]) <;> omega) | fail) only [pn, pq]) <;> omega) | fail) only [pn, pq] at c1
    unfold wp_X5_putHalf_21
    refine sf_X5_put hJ (fun u3 hJu3 hfu3  => ?_)
    have hFu3 : F_X5_putHalf S u3 := trivial
    exact hq _ hJu3 hFu3 
  · try simp (disch := first | ((try simp (disch := first | ((try simp only [pn]) <;> omega) | fail) only [pn, pq]) <;> omega) | fail) only [pn, pq] at c1
    unfold wp_X5_putHalf_21
    refine sf_X5_put hJ (fun u5 hJu5 hfu5  => ?_)
    have hFu5 : F_X5_putHalf S u5 := trivial
    exact hq _ hJu5 hFu5 
def F_X5_putOctet (S u : bT5) : Prop := True
set_option maxRecDepth 20000 in
set_option maxHeartbeats 8000000 in
theorem sf_X5_putOctet {S : bT5} (hJ : J5 S) {a1 : Int32} {Q : (bT5) → Prop} (hq : ∀ u : bT5, (J5 u) → F_X5_putOctet S u → Q u) : wp_X5_putOctet S a1 Q := by
  unfold wp_X5_putOctet
  have hFS : F_X5_putOctet S S := trivial
  have rga1 := pt_rg a1
  refine sf_X5_putHalf hJ (fun u2 hJu2 hfu2  => ?_)
  have hFu2 : F_X5_putOctet S u2 := trivial
  refine sf_X5_putHalf hJu2 (fun u4 hJu4 hfu4  => ?_)
  have hFu4 : F_X5_putOctet S u4 := trivial
  exact hq _ hJu4 hFu4 
set_option maxRecDepth 20000 in
set_option maxHeartbeats 8000000 in
theorem sf_X5_signAt {S : bT5} (hJ : J5 S) {a1 : Int32} {Q : Int32 → Prop} (hq : ∀ r : Int32, Q r) : wp_X5_signAt S a1 Q := by
  unfold wp_X5_signAt
  have jf1 := J5g_length hJ
  have rga1 := pt_rg a1
  refine ⟨fun c1 => ?_, fun c1 => ?_⟩
  · try simp (disch := first | ((try simp (disch := first | ((try simp only [pn]) <;> omega) | fail) only [pn, pq]) <;> omega) | fail) only [pn, pq] at c1
    exact hq _ 
  · try simp (disch := first | ((try simp (disch := first | ((try simp only [pn]) <;> omega) | fail) only [pn, pq]) <;> omega) | fail) only [pn, pq] at c1
    refine ⟨fun c2 => ?_, fun c2 => ?_⟩
    · try simp (disch := first | ((try simp (disch := first | ((try simp only [pn]) <;> omega) | fail) only [pn, pq]) <;> omega) | fail) only [pn, pq] at c2
      exact hq _ 
    · try simp (disch := first | ((try simp (disch := first | ((try simp only [pn]) <;> omega) | fail) only [pn, pq]) <;> omega) | fail) only [pn, pq] at c2
      refine ⟨pt_in (by (try simp (disch := first | ((try simp (disch := first | ((try simp only [pn]) <;> omega) | fail) only [pn, pq]) <;> omega) | fail) only [pn, pq]) <;> (intros; (try simp (disch := first | ((try simp (disch := first | ((try simp only [pn]) <;> omega) | fail) only [pn, pq]) <;> omega) | fail) only [pn, pq]) <;> omega)) (by (try simp (disch := first | ((try simp (disch := first | ((try simp only [pn]) <;> omega) | fail) only [pn, pq]) <;> omega) | fail) only [pn, pq]) <;> (intros; (try simp (disch := first | ((try simp (disch := first | ((try simp only [pn]) <;> omega) | fail) only [pn, pq]) <;> omega) | fail) only [pn, pq]) <;> omega)), ?_⟩
      exact hq _ 
def F_X6_addEdge (S u : bT6) : Prop := (b6g_nodeLevels u) = (b6g_nodeLevels S) ∧ (b6g_firstLeaves u) = (b6g_firstLeaves S) ∧ (b6g_leafCounts u) = (b6g_leafCounts S) ∧ (b6g_edgeStarts u) = (b6g_edgeStarts S) ∧ (b6g_levelStarts u) = (b6g_levelStarts S) ∧ (b6g_places u) = (b6g_places S) ∧ (b6g_leavesByPlace u) = (b6g_leavesByPlace S) ∧ (b6g_leafNodes u) = (b6g_leafNodes S) ∧ (b6g_nodes u) = (b6g_nodes S) ∧ (b6g_levels u) = (b6g_levels S) ∧ (b6g_upper u) = (b6g_upper S) ∧ (b6g_upperNodes u) = (b6g_upperNodes S) ∧ (b6g_itemStart u) = (b6g_itemStart S)
set_option maxRecDepth 20000 in
set_option maxHeartbeats 8000000 in
theorem sf_X6_addEdge {S : bT6} (hJ : J6 S) {a1 : Int32} {a2 : Int32} {a3 : Int32} {Q : (bT6) → Prop} (hq : ∀ u : bT6, (J6 u) → F_X6_addEdge S u → Q u) : wp_X6_addEdge S a1 a2 a3 Q := by
  unfold wp_X6_addEdge
  have hFS : F_X6_addEdge S S := ⟨rfl, rfl, rfl, rfl, rfl, rfl, rfl, rfl, rfl, rfl, rfl, rfl, rfl⟩
  have jf1 := J6g_edges hJ
  have rga1 := pt_rg a1
  have rga2 := pt_rg a2
  have rga3 := pt_rg a3
  refine ⟨fun c1 => ?_, fun c1 => ?_⟩
  · try simp (disch := first | ((try simp (disch := first | ((try simp only [pn]) <;> omega) | fail) only [pn, pq]) <;> omega) | fail) only [pn, pq] at c1
    exact hq _ hJ hFS 
  · try simp (disch := first | ((try simp (disch := first | ((try simp only [pn]) <;> omega) | fail) only [pn, pq]) <;> omega) | fail) only [pn, pq] at c1
    refine ⟨fun c2 => ?_, fun c2 => ?_⟩
    · try simp (disch := first | ((try simp (disch := first | ((try simp only [pn]) <;> omega) | fail) only [pn, pq]) <;> omega) | fail) only [pn, pq] at c2
      unfold wp_X6_addEdge_25
      intro S3 eS3
      have hJS3 : J6 S3 := by rw [eS3]; exact (J6s_children hJ)
      have hFS3 : F_X6_addEdge S S3 := by rw [eS3]; exact hFS
      have je2 : ((b6g_children S3)).toInt = (((b6g_children S) + (0 : Int32))).toInt := by rw [eS3]
      try simp (disch := first | ((try simp (disch := first | ((try simp only [pn]) <;> omega) | fail) only [pn, pq]) <;> omega) | fail) only [pn, pq] at je2
      have je3 : ((b6g_edges S3)).toInt = ((b6g_edges S)).toInt := by rw [eS3]
      have jf4 := J6g_edges hJS3
      refine ⟨pt_in (by (try simp (disch := first | ((try simp (disch := first | ((try simp only [pn]) <;> omega) | fail) only [pn, pq]) <;> omega) | fail) only [pn, pq]) <;> (intros; (try simp (disch := first | ((try simp (disch := first | ((try simp only [pn]) <;> omega) | fail) only [pn, pq]) <;> omega) | fail) only [pn, pq]) <;> omega)) (by (try simp (disch := first | ((try simp (disch := first | ((try simp only [pn]) <;> omega) | fail) only [pn, pq]) <;> omega) | fail) only [pn, pq]) <;> (intros; (try simp (disch := first | ((try simp (disch := first | ((try simp only [pn]) <;> omega) | fail) only [pn, pq]) <;> omega) | fail) only [pn, pq]) <;> omega)), ?_⟩
      intro S4 eS4
      have hJS4 : J6 S4 := by rw [eS4]; exact (J6s_edgeNodes hJS3)
      have hFS4 : F_X6_addEdge S S4 := by rw [eS4]; exact hFS3
      have je5 : ((b6g_children S4)).toInt = ((b6g_children S3)).toInt := by rw [eS4]
      have je6 : ((b6g_edges S4)).toInt = ((b6g_edges S3)).toInt := by rw [eS4]
      have jf7 := J6g_edges hJS4
      refine ⟨pt_in (by (try simp (disch := first | ((try simp (disch := first | ((try simp only [pn]) <;> omega) | fail) only [pn, pq]) <;> omega) | fail) only [pn, pq]) <;> (intros; (try simp (disch := first | ((try simp (disch := first | ((try simp only [pn]) <;> omega) | fail) only [pn, pq]) <;> omega) | fail) only [pn, pq]) <;> omega)) (by (try simp (disch := first | ((try simp (disch := first | ((try simp only [pn]) <;> omega) | fail) only [pn, pq]) <;> omega) | fail) only [pn, pq]) <;> (intros; (try simp (disch := first | ((try simp (disch := first | ((try simp only [pn]) <;> omega) | fail) only [pn, pq]) <;> omega) | fail) only [pn, pq]) <;> omega)), ?_⟩
      intro S5 eS5
      have hJS5 : J6 S5 := by rw [eS5]; exact (J6s_edgeOctets hJS4)
      have hFS5 : F_X6_addEdge S S5 := by rw [eS5]; exact hFS4
      have je8 : ((b6g_children S5)).toInt = ((b6g_children S4)).toInt := by rw [eS5]
      have je9 : ((b6g_edges S5)).toInt = ((b6g_edges S4)).toInt := by rw [eS5]
      have jf10 := J6g_edges hJS5
      refine ⟨pt_in (by (try simp (disch := first | ((try simp (disch := first | ((try simp only [pn]) <;> omega) | fail) only [pn, pq]) <;> omega) | fail) only [pn, pq]) <;> (intros; (try simp (disch := first | ((try simp (disch := first | ((try simp only [pn]) <;> omega) | fail) only [pn, pq]) <;> omega) | fail) only [pn, pq]) <;> omega)) (by (try simp (disch := first | ((try simp (disch := first | ((try simp only [pn]) <;> omega) | fail) only [pn, pq]) <;> omega) | fail) only [pn, pq]) <;> (intros; (try simp (disch := first | ((try simp (disch := first | ((try simp only [pn]) <;> omega) | fail) only [pn, pq]) <;> omega) | fail) only [pn, pq]) <;> omega)), ?_⟩
      intro S6 eS6
      have hJS6 : J6 S6 := by rw [eS6]; exact (J6s_edgeLeaves hJS5)
      have hFS6 : F_X6_addEdge S S6 := by rw [eS6]; exact hFS5
      have je11 : ((b6g_children S6)).toInt = ((b6g_children S5)).toInt := by rw [eS6]
      have je12 : ((b6g_edges S6)).toInt = ((b6g_edges S5)).toInt := by rw [eS6]
      have jf13 := J6g_edges hJS6
      refine ⟨fun c7 => ?_, fun c7 => ?_⟩
      · try simp (disch := first | ((try simp (disch := first | ((try simp only [pn]) <;> omega) | fail) only [pn, pq]) <;> omega) | fail) only [pn, pq] at c7
        unfold wp_X6_addEdge_80
        refine ⟨pt_in (by (try simp (disch := first | ((try simp (disch := first | ((try simp only [pn]) <;> omega) | fail) only [pn, pq]) <;> omega) | fail) only [pn, pq]) <;> (intros; (try simp (disch := first | ((try simp (disch := first | ((try simp only [pn]) <;> omega) | fail) only [pn, pq]) <;> omega) | fail) only [pn, pq]) <;> omega)) (by (try simp (disch := first | ((try simp (disch := first | ((try simp only [pn]) <;> omega) | fail) only [pn, pq]) <;> omega) | fail) only [pn, pq]) <;> (intros; (try simp (disch := first | ((try simp (disch := first | ((try simp only [pn]) <;> omega) | fail) only [pn, pq]) <;> omega) | fail) only [pn, pq]) <;> omega)), ?_⟩
        intro S8 eS8
        have hJS8 : J6 S8 := by rw [eS8]; exact (J6s_edgeChildren hJS6)
        have hFS8 : F_X6_addEdge S S8 := by rw [eS8]; exact hFS6
        have je14 : ((b6g_children S8)).toInt = ((b6g_children S6)).toInt := by rw [eS8]
        have je15 : ((b6g_edges S8)).toInt = ((b6g_edges S6)).toInt := by rw [eS8]
        have jf16 := J6g_edges hJS8
        intro S9 eS9
        have hJS9 : J6 S9 := by rw [eS9]; exact (J6s_edges hJS8 ⟨(by (try simp (disch := first | ((try simp (disch := first | ((try simp only [pn]) <;> omega) | fail) only [pn, pq]) <;> omega) | fail) only [pn, pq]) <;> (intros; (try simp (disch := first | ((try simp (disch := first | ((try simp only [pn]) <;> omega) | fail) only [pn, pq]) <;> omega) | fail) only [pn, pq]) <;> omega)), (by (try simp (disch := first | ((try simp (disch := first | ((try simp only [pn]) <;> omega) | fail) only [pn, pq]) <;> omega) | fail) only [pn, pq]) <;> (intros; (try simp (disch := first | ((try simp (disch := first | ((try simp only [pn]) <;> omega) | fail) only [pn, pq]) <;> omega) | fail) only [pn, pq]) <;> omega))⟩)
        have hFS9 : F_X6_addEdge S S9 := by rw [eS9]; exact hFS8
        have je17 : ((b6g_children S9)).toInt = ((b6g_children S8)).toInt := by rw [eS9]
        have je18 : ((b6g_edges S9)).toInt = (((b6g_edges S8) + (1 : Int32))).toInt := by rw [eS9]
        try simp (disch := first | ((try simp (disch := first | ((try simp only [pn]) <;> omega) | fail) only [pn, pq]) <;> omega) | fail) only [pn, pq] at je18
        have jf19 := J6g_edges hJS9
        exact hq _ hJS9 hFS9 
      · try simp (disch := first | ((try simp (disch := first | ((try simp only [pn]) <;> omega) | fail) only [pn, pq]) <;> omega) | fail) only [pn, pq] at c7
        unfold wp_X6_addEdge_80
        refine ⟨pt_in (by (try simp (disch := first | ((try simp (disch := first | ((try simp only [pn]) <;> omega) | fail) only [pn, pq]) <;> omega) | fail) only [pn, pq]) <;> (intros; (try simp (disch := first | ((try simp (disch := first | ((try simp only [pn]) <;> omega) | fail) only [pn, pq]) <;> omega) | fail) only [pn, pq]) <;> omega)) (by (try simp (disch := first | ((try simp (disch := first | ((try simp only [pn]) <;> omega) | fail) only [pn, pq]) <;> omega) | fail) only [pn, pq]) <;> (intros; (try simp (disch := first | ((try simp (disch := first | ((try simp only [pn]) <;> omega) | fail) only [pn, pq]) <;> omega) | fail) only [pn, pq]) <;> omega)), ?_⟩
        intro S10 eS10
        have hJS10 : J6 S10 := by rw [eS10]; exact (J6s_edgeChildren hJS6)
        have hFS10 : F_X6_addEdge S S10 := by rw [eS10]; exact hFS6
        have je20 : ((b6g_children S10)).toInt = ((b6g_children S6)).toInt := by rw [eS10]
        have je21 : ((b6g_edges S10)).toInt = ((b6g_edges S6)).toInt := by rw [eS10]
        have jf22 := J6g_edges hJS10
        intro S11 eS11
        have hJS11 : J6 S11 := by rw [eS11]; exact (J6s_edges hJS10 ⟨(by (try simp (disch := first | ((try simp (disch := first | ((try simp only [pn]) <;> omega) | fail) only [pn, pq]) <;> omega) | fail) only [pn, pq]) <;> (intros; (try simp (disch := first | ((try simp (disch := first | ((try simp only [pn]) <;> omega) | fail) only [pn, pq]) <;> omega) | fail) only [pn, pq]) <;> omega)), (by (try simp (disch := first | ((try simp (disch := first | ((try simp only [pn]) <;> omega) | fail) only [pn, pq]) <;> omega) | fail) only [pn, pq]) <;> (intros; (try simp (disch := first | ((try simp (disch := first | ((try simp only [pn]) <;> omega) | fail) only [pn, pq]) <;> omega) | fail) only [pn, pq]) <;> omega))⟩)
        have hFS11 : F_X6_addEdge S S11 := by rw [eS11]; exact hFS10
        have je23 : ((b6g_children S11)).toInt = ((b6g_children S10)).toInt := by rw [eS11]
        have je24 : ((b6g_edges S11)).toInt = (((b6g_edges S10) + (1 : Int32))).toInt := by rw [eS11]
        try simp (disch := first | ((try simp (disch := first | ((try simp only [pn]) <;> omega) | fail) only [pn, pq]) <;> omega) | fail) only [pn, pq] at je24
        have jf25 := J6g_edges hJS11
        exact hq _ hJS11 hFS11 
    · try simp (disch := first | ((try simp (disch := first | ((try simp only [pn]) <;> omega) | fail) only [pn, pq]) <;> omega) | fail) only [pn, pq] at c2
      unfold wp_X6_addEdge_25
      intro S12 eS12
      have hJS12 : J6 S12 := by rw [eS12]; exact (J6s_children hJ)
      have hFS12 : F_X6_addEdge S S12 := by rw [eS12]; exact hFS
      have je26 : ((b6g_children S12)).toInt = (((b6g_children S) + (1 : Int32))).toInt := by rw [eS12]
      try simp (disch := first | ((try simp (disch := first | ((try simp only [pn]) <;> omega) | fail) only [pn, pq]) <;> omega) | fail) only [pn, pq] at je26
      have je27 : ((b6g_edges S12)).toInt = ((b6g_edges S)).toInt := by rw [eS12]
      have jf28 := J6g_edges hJS12
      refine ⟨pt_in (by (try simp (disch := first | ((try simp (disch := first | ((try simp only [pn]) <;> omega) | fail) only [pn, pq]) <;> omega) | fail) only [pn, pq]) <;> (intros; (try simp (disch := first | ((try simp (disch := first | ((try simp only [pn]) <;> omega) | fail) only [pn, pq]) <;> omega) | fail) only [pn, pq]) <;> omega)) (by (try simp (disch := first | ((try simp (disch := first | ((try simp only [pn]) <;> omega) | fail) only [pn, pq]) <;> omega) | fail) only [pn, pq]) <;> (intros; (try simp (disch := first | ((try simp (disch := first | ((try simp only [pn]) <;> omega) | fail) only [pn, pq]) <;> omega) | fail) only [pn, pq]) <;> omega)), ?_⟩
      intro S13 eS13
      have hJS13 : J6 S13 := by rw [eS13]; exact (J6s_edgeNodes hJS12)
      have hFS13 : F_X6_addEdge S S13 := by rw [eS13]; exact hFS12
      have je29 : ((b6g_children S13)).toInt = ((b6g_children S12)).toInt := by rw [eS13]
      have je30 : ((b6g_edges S13)).toInt = ((b6g_edges S12)).toInt := by rw [eS13]
      have jf31 := J6g_edges hJS13
      refine ⟨pt_in (by (try simp (disch := first | ((try simp (disch := first | ((try simp only [pn]) <;> omega) | fail) only [pn, pq]) <;> omega) | fail) only [pn, pq]) <;> (intros; (try simp (disch := first | ((try simp (disch := first | ((try simp only [pn]) <;> omega) | fail) only [pn, pq]) <;> omega) | fail) only [pn, pq]) <;> omega)) (by (try simp (disch := first | ((try simp (disch := first | ((try simp only [pn]) <;> omega) | fail) only [pn, pq]) <;> omega) | fail) only [pn, pq]) <;> (intros; (try simp (disch := first | ((try simp (disch := first | ((try simp only [pn]) <;> omega) | fail) only [pn, pq]) <;> omega) | fail) only [pn, pq]) <;> omega)), ?_⟩
      intro S14 eS14
      have hJS14 : J6 S14 := by rw [eS14]; exact (J6s_edgeOctets hJS13)
      have hFS14 : F_X6_addEdge S S14 := by rw [eS14]; exact hFS13
      have je32 : ((b6g_children S14)).toInt = ((b6g_children S13)).toInt := by rw [eS14]
      have je33 : ((b6g_edges S14)).toInt = ((b6g_edges S13)).toInt := by rw [eS14]
      have jf34 := J6g_edges hJS14
      refine ⟨pt_in (by (try simp (disch := first | ((try simp (disch := first | ((try simp only [pn]) <;> omega) | fail) only [pn, pq]) <;> omega) | fail) only [pn, pq]) <;> (intros; (try simp (disch := first | ((try simp (disch := first | ((try simp only [pn]) <;> omega) | fail) only [pn, pq]) <;> omega) | fail) only [pn, pq]) <;> omega)) (by (try simp (disch := first | ((try simp (disch := first | ((try simp only [pn]) <;> omega) | fail) only [pn, pq]) <;> omega) | fail) only [pn, pq]) <;> (intros; (try simp (disch := first | ((try simp (disch := first | ((try simp only [pn]) <;> omega) | fail) only [pn, pq]) <;> omega) | fail) only [pn, pq]) <;> omega)), ?_⟩
      intro S15 eS15
      have hJS15 : J6 S15 := by rw [eS15]; exact (J6s_edgeLeaves hJS14)
      have hFS15 : F_X6_addEdge S S15 := by rw [eS15]; exact hFS14
      have je35 : ((b6g_children S15)).toInt = ((b6g_children S14)).toInt := by rw [eS15]
      have je36 : ((b6g_edges S15)).toInt = ((b6g_edges S14)).toInt := by rw [eS15]
      have jf37 := J6g_edges hJS15
      refine ⟨fun c16 => ?_, fun c16 => ?_⟩
      · try simp (disch := first | ((try simp (disch := first | ((try simp only [pn]) <;> omega) | fail) only [pn, pq]) <;> omega) | fail) only [pn, pq] at c16
        unfold wp_X6_addEdge_80
        refine ⟨pt_in (by (try simp (disch := first | ((try simp (disch := first | ((try simp only [pn]) <;> omega) | fail) only [pn, pq]) <;> omega) | fail) only [pn, pq]) <;> (intros; (try simp (disch := first | ((try simp (disch := first | ((try simp only [pn]) <;> omega) | fail) only [pn, pq]) <;> omega) | fail) only [pn, pq]) <;> omega)) (by (try simp (disch := first | ((try simp (disch := first | ((try simp only [pn]) <;> omega) | fail) only [pn, pq]) <;> omega) | fail) only [pn, pq]) <;> (intros; (try simp (disch := first | ((try simp (disch := first | ((try simp only [pn]) <;> omega) | fail) only [pn, pq]) <;> omega) | fail) only [pn, pq]) <;> omega)), ?_⟩
        intro S17 eS17
        have hJS17 : J6 S17 := by rw [eS17]; exact (J6s_edgeChildren hJS15)
        have hFS17 : F_X6_addEdge S S17 := by rw [eS17]; exact hFS15
        have je38 : ((b6g_children S17)).toInt = ((b6g_children S15)).toInt := by rw [eS17]
        have je39 : ((b6g_edges S17)).toInt = ((b6g_edges S15)).toInt := by rw [eS17]
        have jf40 := J6g_edges hJS17
        intro S18 eS18
        have hJS18 : J6 S18 := by rw [eS18]; exact (J6s_edges hJS17 ⟨(by (try simp (disch := first | ((try simp (disch := first | ((try simp only [pn]) <;> omega) | fail) only [pn, pq]) <;> omega) | fail) only [pn, pq]) <;> (intros; (try simp (disch := first | ((try simp (disch := first | ((try simp only [pn]) <;> omega) | fail) only [pn, pq]) <;> omega) | fail) only [pn, pq]) <;> omega)), (by (try simp (disch := first | ((try simp (disch := first | ((try simp only [pn]) <;> omega) | fail) only [pn, pq]) <;> omega) | fail) only [pn, pq]) <;> (intros; (try simp (disch := first | ((try simp (disch := first | ((try simp only [pn]) <;> omega) | fail) only [pn, pq]) <;> omega) | fail) only [pn, pq]) <;> omega))⟩)
        have hFS18 : F_X6_addEdge S S18 := by rw [eS18]; exact hFS17
        have je41 : ((b6g_children S18)).toInt = ((b6g_children S17)).toInt := by rw [eS18]
        have je42 : ((b6g_edges S18)).toInt = (((b6g_edges S17) + (1 : Int32))).toInt := by rw [eS18]
        try simp (disch := first | ((try simp (disch := first | ((try simp only [pn]) <;> omega) | fail) only [pn, pq]) <;> omega) | fail) only [pn, pq] at je42
        have jf43 := J6g_edges hJS18
        exact hq _ hJS18 hFS18 
      · try simp (disch := first | ((try simp (disch := first | ((try simp only [pn]) <;> omega) | fail) only [pn, pq]) <;> omega) | fail) only [pn, pq] at c16
        unfold wp_X6_addEdge_80
        refine ⟨pt_in (by (try simp (disch := first | ((try simp (disch := first | ((try simp only [pn]) <;> omega) | fail) only [pn, pq]) <;> omega) | fail) only [pn, pq]) <;> (intros; (try simp (disch := first | ((try simp (disch := first | ((try simp only [pn]) <;> omega) | fail) only [pn, pq]) <;> omega) | fail) only [pn, pq]) <;> omega)) (by (try simp (disch := first | ((try simp (disch := first | ((try simp only [pn]) <;> omega) | fail) only [pn, pq]) <;> omega) | fail) only [pn, pq]) <;> (intros; (try simp (disch := first | ((try simp (disch := first | ((try simp only [pn]) <;> omega) | fail) only [pn, pq]) <;> omega) | fail) only [pn, pq]) <;> omega)), ?_⟩
        intro S19 eS19
        have hJS19 : J6 S19 := by rw [eS19]; exact (J6s_edgeChildren hJS15)
        have hFS19 : F_X6_addEdge S S19 := by rw [eS19]; exact hFS15
        have je44 : ((b6g_children S19)).toInt = ((b6g_children S15)).toInt := by rw [eS19]
        have je45 : ((b6g_edges S19)).toInt = ((b6g_edges S15)).toInt := by rw [eS19]
        have jf46 := J6g_edges hJS19
        intro S20 eS20
        have hJS20 : J6 S20 := by rw [eS20]; exact (J6s_edges hJS19 ⟨(by (try simp (disch := first | ((try simp (disch := first | ((try simp only [pn]) <;> omega) | fail) only [pn, pq]) <;> omega) | fail) only [pn, pq]) <;> (intros; (try simp (disch := first | ((try simp (disch := first | ((try simp only [pn]) <;> omega) | fail) only [pn, pq]) <;> omega) | fail) only [pn, pq]) <;> omega)), (by (try simp (disch := first | ((try simp (disch := first | ((try simp only [pn]) <;> omega) | fail) only [pn, pq]) <;> omega) | fail) only [pn, pq]) <;> (intros; (try simp (disch := first | ((try simp (disch := first | ((try simp only [pn]) <;> omega) | fail) only [pn, pq]) <;> omega) | fail) only [pn, pq]) <;> omega))⟩)
        have hFS20 : F_X6_addEdge S S20 := by rw [eS20]; exact hFS19
        have je47 : ((b6g_children S20)).toInt = ((b6g_children S19)).toInt := by rw [eS20]
        have je48 : ((b6g_edges S20)).toInt = (((b6g_edges S19) + (1 : Int32))).toInt := by rw [eS20]
        try simp (disch := first | ((try simp (disch := first | ((try simp only [pn]) <;> omega) | fail) only [pn, pq]) <;> omega) | fail) only [pn, pq] at je48
        have jf49 := J6g_edges hJS20
        exact hq _ hJS20 hFS20 
def F_X6_findEdgesOf (S u : bT6 × bT1) : Prop := (b6g_nodeLevels u.1) = (b6g_nodeLevels S.1) ∧ (b6g_firstLeaves u.1) = (b6g_firstLeaves S.1) ∧ (b6g_leafCounts u.1) = (b6g_leafCounts S.1) ∧ (b6g_edgeStarts u.1) = (b6g_edgeStarts S.1) ∧ (b6g_levelStarts u.1) = (b6g_levelStarts S.1) ∧ (b6g_places u.1) = (b6g_places S.1) ∧ (b6g_leavesByPlace u.1) = (b6g_leavesByPlace S.1) ∧ (b6g_leafNodes u.1) = (b6g_leafNodes S.1) ∧ (b6g_nodes u.1) = (b6g_nodes S.1) ∧ (b6g_levels u.1) = (b6g_levels S.1) ∧ (b6g_upper u.1) = (b6g_upper S.1) ∧ (b6g_upperNodes u.1) = (b6g_upperNodes S.1) ∧ (b6g_itemStart u.1) = (b6g_itemStart S.1) ∧ u.2 = S.2
set_option maxRecDepth 20000 in
set_option maxHeartbeats 8000000 in
theorem sf_X6_findEdgesOf {S : bT6 × bT1} (hJ : J6 S.1 ∧ J1 S.2) {a1 : Int32} {Q : (bT6 × bT1) → Prop} (hq : ∀ u : bT6 × bT1, (J6 u.1 ∧ J1 u.2) → F_X6_findEdgesOf S u → Q u) : wp_X6_findEdgesOf S a1 Q := by
  unfold wp_X6_findEdgesOf
  have hFS : F_X6_findEdgesOf S S := ⟨rfl, rfl, rfl, rfl, rfl, rfl, rfl, rfl, rfl, rfl, rfl, rfl, rfl, rfl⟩
  have rga1 := pt_rg a1
  refine sf_X8_at (by decide) (fun r1 hr1_0 => ?_)
  have rgr1 := pt_rg r1
  try simp (disch := first | ((try simp (disch := first | ((try simp only [pn]) <;> omega) | fail) only [pn, pq]) <;> omega) | fail) only [pn, pq] at hr1_0
  refine sf_X8_at (by decide) (fun r3 hr3_0 => ?_)
  have rgr3 := pt_rg r3
  try simp (disch := first | ((try simp (disch := first | ((try simp only [pn]) <;> omega) | fail) only [pn, pq]) <;> omega) | fail) only [pn, pq] at hr3_0
  refine sf_X8_at (by decide) (fun r5 hr5_0 => ?_)
  have rgr5 := pt_rg r5
  try simp (disch := first | ((try simp (disch := first | ((try simp only [pn]) <;> omega) | fail) only [pn, pq]) <;> omega) | fail) only [pn, pq] at hr5_0
  refine ⟨fun n x1q7 x3q7 x5q7 x6q7 x7q7 Sq7 => (J6 Sq7.1 ∧ J1 Sq7.2) ∧ (F_X6_findEdgesOf S Sq7) ∧ (x1q7 = a1) ∧ (x3q7 = r1) ∧ (x5q7 = (r3 + r5)) ∧ n = ((x5q7).toInt - (x7q7).toInt).toNat, ⟨_, hJ, hFS, rfl, rfl, rfl, rfl⟩, ?_⟩
  rintro n8 x1q7 x3q7 x5q7 x6q7 x7q7 Sq7 ⟨hJSq7, hFSq7, hkq7_0, hkq7_1, hkq7_2, hn8⟩
  subst hkq7_0
  subst hkq7_1
  have hcq7_2 := congrArg Int32.toInt hkq7_2
  try simp (disch := first | ((try simp (disch := first | ((try simp only [pn]) <;> omega) | fail) only [pn, pq]) <;> omega) | fail) only [pn, pq] at hcq7_2
  have rgx1q7 := pt_rg x1q7
  have rgx3q7 := pt_rg x3q7
  have rgx5q7 := pt_rg x5q7
  have rgx6q7 := pt_rg x6q7
  have rgx7q7 := pt_rg x7q7
  unfold wp_X6_findEdgesOf_39b
  refine ⟨fun c9 => ?_, fun c9 => ?_⟩
  · try simp (disch := first | ((try simp (disch := first | ((try simp only [pn]) <;> omega) | fail) only [pn, pq]) <;> omega) | fail) only [pn, pq] at c9
    exact hq _ hJSq7 hFSq7 
  · try simp (disch := first | ((try simp (disch := first | ((try simp only [pn]) <;> omega) | fail) only [pn, pq]) <;> omega) | fail) only [pn, pq] at c9
    refine sf_X1_lengthAt hJSq7.2 (fun r10 hr10_0 => ?_)
    have rgr10 := pt_rg r10
    try simp (disch := first | ((try simp (disch := first | ((try simp only [pn]) <;> omega) | fail) only [pn, pq]) <;> omega) | fail) only [pn, pq] at hr10_0
    refine ⟨fun c12 => ?_, fun c12 => ?_⟩
    · try simp (disch := first | ((try simp (disch := first | ((try simp only [pn]) <;> omega) | fail) only [pn, pq]) <;> omega) | fail) only [pn, pq] at c12
      refine sf_X0_bytesAt (J1g_owners hJSq7.2) (fun r13  => ?_)
      refine sf_X8_octetAt  (fun r15  => ?_)
      have rgr15 := pt_rg r15
      refine ⟨fun c17 => ?_, fun c17 => ?_⟩
      · try simp (disch := first | ((try simp (disch := first | ((try simp only [pn]) <;> omega) | fail) only [pn, pq]) <;> omega) | fail) only [pn, pq] at c17
        unfold wp_X6_findEdgesOf_135
        unfold wp_X6_findEdgesOf_139
        refine ⟨_, ?_, ?_, ?_, ?_, ?_, ?_, rfl⟩
        · (try simp (disch := first | ((try simp (disch := first | ((try simp only [pn]) <;> omega) | fail) only [pn, pq]) <;> omega) | fail) only [pn, pq]) <;> (intros; (try simp (disch := first | ((try simp (disch := first | ((try simp only [pn]) <;> omega) | fail) only [pn, pq]) <;> omega) | fail) only [pn, pq]) <;> omega)
        · exact hJSq7
        · exact hFSq7
        · first | rfl | assumption
        · first | rfl | assumption
        · first | rfl | assumption
      · try simp (disch := first | ((try simp (disch := first | ((try simp only [pn]) <;> omega) | fail) only [pn, pq]) <;> omega) | fail) only [pn, pq] at c17
        refine sf_X1_lengthAt hJSq7.2 (fun r18 hr18_0 => ?_)
        have rgr18 := pt_rg r18
        try simp (disch := first | ((try simp (disch := first | ((try simp only [pn]) <;> omega) | fail) only [pn, pq]) <;> omega) | fail) only [pn, pq] at hr18_0
        refine ⟨fun c20 => ?_, fun c20 => ?_⟩
        · try simp (disch := first | ((try simp (disch := first | ((try simp only [pn]) <;> omega) | fail) only [pn, pq]) <;> omega) | fail) only [pn, pq] at c20
          unfold wp_X6_findEdgesOf_114
          unfold wp_X6_findEdgesOf_115
          refine ⟨fun c21 => ?_, fun c21 => ?_⟩
          · skip
            unfold wp_X6_findEdgesOf_132
            refine sf_X6_addEdge hJSq7.1 (fun u23 hJu23 hfu23  => ?_)
            intro S24 eS24
            have hGS24 : F_X6_findEdgesOf S S24 := by
              rw [eS24]
              exact ⟨(congrArg (fun z => z) hfu23.1).trans hFSq7.1, (congrArg (fun z => z) hfu23.2.1).trans hFSq7.2.1, (congrArg (fun z => z) hfu23.2.2.1).trans hFSq7.2.2.1, (congrArg (fun z => z) hfu23.2.2.2.1).trans hFSq7.2.2.2.1, (congrArg (fun z => z) hfu23.2.2.2.2.1).trans hFSq7.2.2.2.2.1, (congrArg (fun z => z) hfu23.2.2.2.2.2.1).trans hFSq7.2.2.2.2.2.1, (congrArg (fun z => z) hfu23.2.2.2.2.2.2.1).trans hFSq7.2.2.2.2.2.2.1, (congrArg (fun z => z) hfu23.2.2.2.2.2.2.2.1).trans hFSq7.2.2.2.2.2.2.2.1, (congrArg (fun z => z) hfu23.2.2.2.2.2.2.2.2.1).trans hFSq7.2.2.2.2.2.2.2.2.1, (congrArg (fun z => z) hfu23.2.2.2.2.2.2.2.2.2.1).trans hFSq7.2.2.2.2.2.2.2.2.2.1, (congrArg (fun z => z) hfu23.2.2.2.2.2.2.2.2.2.2.1).trans hFSq7.2.2.2.2.2.2.2.2.2.2.1, (congrArg (fun z => z) hfu23.2.2.2.2.2.2.2.2.2.2.2.1).trans hFSq7.2.2.2.2.2.2.2.2.2.2.2.1, (congrArg (fun z => z) hfu23.2.2.2.2.2.2.2.2.2.2.2.2).trans hFSq7.2.2.2.2.2.2.2.2.2.2.2.2.1, hFSq7.2.2.2.2.2.2.2.2.2.2.2.2.2⟩
            have hJS24 : J6 S24.1 ∧ J1 S24.2 := by rw [eS24]; exact ⟨hJu23, hJSq7.2⟩
            have hFS24 : F_X6_findEdgesOf S S24 := hGS24
            unfold wp_X6_findEdgesOf_135
            unfold wp_X6_findEdgesOf_139
            refine ⟨_, ?_, ?_, ?_, ?_, ?_, ?_, rfl⟩
            · (try simp (disch := first | ((try simp (disch := first | ((try simp only [pn]) <;> omega) | fail) only [pn, pq]) <;> omega) | fail) only [pn, pq]) <;> (intros; (try simp (disch := first | ((try simp (disch := first | ((try simp only [pn]) <;> omega) | fail) only [pn, pq]) <;> omega) | fail) only [pn, pq]) <;> omega)
            · exact hJS24
            · exact hFS24
            · first | rfl | assumption
            · first | rfl | assumption
            · first | rfl | assumption
          · exact absurd c21 (by decide)
        · try simp (disch := first | ((try simp (disch := first | ((try simp only [pn]) <;> omega) | fail) only [pn, pq]) <;> omega) | fail) only [pn, pq] at c20
          refine sf_X1_isEnded hJSq7.2 (fun r25 hzr25  => ?_)
          refine ⟨fun c27 => ?_, fun c27 => ?_⟩
          · try simp (disch := first | ((try simp (disch := first | ((try simp only [pn]) <;> omega) | fail) only [pn, pq]) <;> omega) | fail) only [pn, pq] at c27
            unfold wp_X6_findEdgesOf_114
            unfold wp_X6_findEdgesOf_115
            refine ⟨fun c28 => ?_, fun c28 => ?_⟩
            · skip
              unfold wp_X6_findEdgesOf_132
              refine sf_X6_addEdge hJSq7.1 (fun u30 hJu30 hfu30  => ?_)
              intro S31 eS31
              have hGS31 : F_X6_findEdgesOf S S31 := by
                rw [eS31]
                exact ⟨(congrArg (fun z => z) hfu30.1).trans hFSq7.1, (congrArg (fun z => z) hfu30.2.1).trans hFSq7.2.1, (congrArg (fun z => z) hfu30.2.2.1).trans hFSq7.2.2.1, (congrArg (fun z => z) hfu30.2.2.2.1).trans hFSq7.2.2.2.1, (congrArg (fun z => z) hfu30.2.2.2.2.1).trans hFSq7.2.2.2.2.1, (congrArg (fun z => z) hfu30.2.2.2.2.2.1).trans hFSq7.2.2.2.2.2.1, (congrArg (fun z => z) hfu30.2.2.2.2.2.2.1).trans hFSq7.2.2.2.2.2.2.1, (congrArg (fun z => z) hfu30.2.2.2.2.2.2.2.1).trans hFSq7.2.2.2.2.2.2.2.1, (congrArg (fun z => z) hfu30.2.2.2.2.2.2.2.2.1).trans hFSq7.2.2.2.2.2.2.2.2.1, (congrArg (fun z => z) hfu30.2.2.2.2.2.2.2.2.2.1).trans hFSq7.2.2.2.2.2.2.2.2.2.1, (congrArg (fun z => z) hfu30.2.2.2.2.2.2.2.2.2.2.1).trans hFSq7.2.2.2.2.2.2.2.2.2.2.1, (congrArg (fun z => z) hfu30.2.2.2.2.2.2.2.2.2.2.2.1).trans hFSq7.2.2.2.2.2.2.2.2.2.2.2.1, (congrArg (fun z => z) hfu30.2.2.2.2.2.2.2.2.2.2.2.2).trans hFSq7.2.2.2.2.2.2.2.2.2.2.2.2.1, hFSq7.2.2.2.2.2.2.2.2.2.2.2.2.2⟩
              have hJS31 : J6 S31.1 ∧ J1 S31.2 := by rw [eS31]; exact ⟨hJu30, hJSq7.2⟩
              have hFS31 : F_X6_findEdgesOf S S31 := hGS31
              unfold wp_X6_findEdgesOf_135
              unfold wp_X6_findEdgesOf_139
              refine ⟨_, ?_, ?_, ?_, ?_, ?_, ?_, rfl⟩
              · (try simp (disch := first | ((try simp (disch := first | ((try simp only [pn]) <;> omega) | fail) only [pn, pq]) <;> omega) | fail) only [pn, pq]) <;> (intros; (try simp (disch := first | ((try simp (disch := first | ((try simp only [pn]) <;> omega) | fail) only [pn, pq]) <;> omega) | fail) only [pn, pq]) <;> omega)
              · exact hJS31
              · exact hFS31
              · first | rfl | assumption
              · first | rfl | assumption
              · first | rfl | assumption
            · exact absurd c28 (by decide)
          · try simp (disch := first | ((try simp (disch := first | ((try simp only [pn]) <;> omega) | fail) only [pn, pq]) <;> omega) | fail) only [pn, pq] at c27
            unfold wp_X6_findEdgesOf_115
            refine ⟨fun c32 => ?_, fun c32 => ?_⟩
            · exact absurd c32 (by decide)
            · skip
              unfold wp_X6_findEdgesOf_132
              refine sf_X6_addEdge hJSq7.1 (fun u34 hJu34 hfu34  => ?_)
              intro S35 eS35
              have hGS35 : F_X6_findEdgesOf S S35 := by
                rw [eS35]
                exact ⟨(congrArg (fun z => z) hfu34.1).trans hFSq7.1, (congrArg (fun z => z) hfu34.2.1).trans hFSq7.2.1, (congrArg (fun z => z) hfu34.2.2.1).trans hFSq7.2.2.1, (congrArg (fun z => z) hfu34.2.2.2.1).trans hFSq7.2.2.2.1, (congrArg (fun z => z) hfu34.2.2.2.2.1).trans hFSq7.2.2.2.2.1, (congrArg (fun z => z) hfu34.2.2.2.2.2.1).trans hFSq7.2.2.2.2.2.1, (congrArg (fun z => z) hfu34.2.2.2.2.2.2.1).trans hFSq7.2.2.2.2.2.2.1, (congrArg (fun z => z) hfu34.2.2.2.2.2.2.2.1).trans hFSq7.2.2.2.2.2.2.2.1, (congrArg (fun z => z) hfu34.2.2.2.2.2.2.2.2.1).trans hFSq7.2.2.2.2.2.2.2.2.1, (congrArg (fun z => z) hfu34.2.2.2.2.2.2.2.2.2.1).trans hFSq7.2.2.2.2.2.2.2.2.2.1, (congrArg (fun z => z) hfu34.2.2.2.2.2.2.2.2.2.2.1).trans hFSq7.2.2.2.2.2.2.2.2.2.2.1, (congrArg (fun z => z) hfu34.2.2.2.2.2.2.2.2.2.2.2.1).trans hFSq7.2.2.2.2.2.2.2.2.2.2.2.1, (congrArg (fun z => z) hfu34.2.2.2.2.2.2.2.2.2.2.2.2).trans hFSq7.2.2.2.2.2.2.2.2.2.2.2.2.1, hFSq7.2.2.2.2.2.2.2.2.2.2.2.2.2⟩
              have hJS35 : J6 S35.1 ∧ J1 S35.2 := by rw [eS35]; exact ⟨hJu34, hJSq7.2⟩
              have hFS35 : F_X6_findEdgesOf S S35 := hGS35
              unfold wp_X6_findEdgesOf_135
              unfold wp_X6_findEdgesOf_139
              refine ⟨_, ?_, ?_, ?_, ?_, ?_, ?_, rfl⟩
              · (try simp (disch := first | ((try simp (disch := first | ((try simp only [pn]) <;> omega) | fail) only [pn, pq]) <;> omega) | fail) only [pn, pq]) <;> (intros; (try simp (disch := first | ((try simp (disch := first | ((try simp only [pn]) <;> omega) | fail) only [pn, pq]) <;> omega) | fail) only [pn, pq]) <;> omega)
              · exact hJS35
              · exact hFS35
              · first | rfl | assumption
              · first | rfl | assumption
              · first | rfl | assumption
    · try simp (disch := first | ((try simp (disch := first | ((try simp only [pn]) <;> omega) | fail) only [pn, pq]) <;> omega) | fail) only [pn, pq] at c12
      refine sf_X6_addEdge hJSq7.1 (fun u37 hJu37 hfu37  => ?_)
      intro S38 eS38
      have hGS38 : F_X6_findEdgesOf S S38 := by
        rw [eS38]
        exact ⟨(congrArg (fun z => z) hfu37.1).trans hFSq7.1, (congrArg (fun z => z) hfu37.2.1).trans hFSq7.2.1, (congrArg (fun z => z) hfu37.2.2.1).trans hFSq7.2.2.1, (congrArg (fun z => z) hfu37.2.2.2.1).trans hFSq7.2.2.2.1, (congrArg (fun z => z) hfu37.2.2.2.2.1).trans hFSq7.2.2.2.2.1, (congrArg (fun z => z) hfu37.2.2.2.2.2.1).trans hFSq7.2.2.2.2.2.1, (congrArg (fun z => z) hfu37.2.2.2.2.2.2.1).trans hFSq7.2.2.2.2.2.2.1, (congrArg (fun z => z) hfu37.2.2.2.2.2.2.2.1).trans hFSq7.2.2.2.2.2.2.2.1, (congrArg (fun z => z) hfu37.2.2.2.2.2.2.2.2.1).trans hFSq7.2.2.2.2.2.2.2.2.1, (congrArg (fun z => z) hfu37.2.2.2.2.2.2.2.2.2.1).trans hFSq7.2.2.2.2.2.2.2.2.2.1, (congrArg (fun z => z) hfu37.2.2.2.2.2.2.2.2.2.2.1).trans hFSq7.2.2.2.2.2.2.2.2.2.2.1, (congrArg (fun z => z) hfu37.2.2.2.2.2.2.2.2.2.2.2.1).trans hFSq7.2.2.2.2.2.2.2.2.2.2.2.1, (congrArg (fun z => z) hfu37.2.2.2.2.2.2.2.2.2.2.2.2).trans hFSq7.2.2.2.2.2.2.2.2.2.2.2.2.1, hFSq7.2.2.2.2.2.2.2.2.2.2.2.2.2⟩
      have hJS38 : J6 S38.1 ∧ J1 S38.2 := by rw [eS38]; exact ⟨hJu37, hJSq7.2⟩
      have hFS38 : F_X6_findEdgesOf S S38 := hGS38
      unfold wp_X6_findEdgesOf_139
      refine ⟨_, ?_, ?_, ?_, ?_, ?_, ?_, rfl⟩
      · (try simp (disch := first | ((try simp (disch := first | ((try simp only [pn]) <;> omega) | fail) only [pn, pq]) <;> omega) | fail) only [pn, pq]) <;> (intros; (try simp (disch := first | ((try simp (disch := first | ((try simp only [pn]) <;> omega) | fail) only [pn, pq]) <;> omega) | fail) only [pn, pq]) <;> omega)
      · exact hJS38
      · exact hFS38
      · first | rfl | assumption
      · first | rfl | assumption
      · first | rfl | assumption
def F_X6_findEdges (S u : bT6 × bT1) : Prop := (b6g_nodeLevels u.1) = (b6g_nodeLevels S.1) ∧ (b6g_firstLeaves u.1) = (b6g_firstLeaves S.1) ∧ (b6g_leafCounts u.1) = (b6g_leafCounts S.1) ∧ (b6g_levelStarts u.1) = (b6g_levelStarts S.1) ∧ (b6g_places u.1) = (b6g_places S.1) ∧ (b6g_leavesByPlace u.1) = (b6g_leavesByPlace S.1) ∧ (b6g_leafNodes u.1) = (b6g_leafNodes S.1) ∧ (b6g_nodes u.1) = (b6g_nodes S.1) ∧ (b6g_levels u.1) = (b6g_levels S.1) ∧ (b6g_upper u.1) = (b6g_upper S.1) ∧ (b6g_upperNodes u.1) = (b6g_upperNodes S.1) ∧ (b6g_itemStart u.1) = (b6g_itemStart S.1) ∧ u.2 = S.2
set_option maxRecDepth 20000 in
set_option maxHeartbeats 8000000 in
theorem sf_X6_findEdges {S : bT6 × bT1} (hJ : J6 S.1 ∧ J1 S.2) {Q : (bT6 × bT1) → Prop} (hq : ∀ u : bT6 × bT1, (J6 u.1 ∧ J1 u.2) → F_X6_findEdges S u → Q u) : wp_X6_findEdges S Q := by
  unfold wp_X6_findEdges
  have hFS : F_X6_findEdges S S := ⟨rfl, rfl, rfl, rfl, rfl, rfl, rfl, rfl, rfl, rfl, rfl, rfl, rfl⟩
  have jf1 := J6g_edges hJ.1
  have jf2 := J6g_nodes hJ.1
  intro S1 eS1
  have hJS1 : J6 S1.1 ∧ J1 S1.2 := by rw [eS1]; exact ⟨(J6s_edges hJ.1 ⟨(by (try simp (disch := first | ((try simp (disch := first | ((try simp only [pn]) <;> omega) | fail) only [pn, pq]) <;> omega) | fail) only [pn, pq]) <;> (intros; (try simp (disch := first | ((try simp (disch := first | ((try simp only [pn]) <;> omega) | fail) only [pn, pq]) <;> omega) | fail) only [pn, pq]) <;> omega)), (by (try simp (disch := first | ((try simp (disch := first | ((try simp only [pn]) <;> omega) | fail) only [pn, pq]) <;> omega) | fail) only [pn, pq]) <;> (intros; (try simp (disch := first | ((try simp (disch := first | ((try simp only [pn]) <;> omega) | fail) only [pn, pq]) <;> omega) | fail) only [pn, pq]) <;> omega))⟩), hJ.2⟩
  have hFS1 : F_X6_findEdges S S1 := by rw [eS1]; exact hFS
  have je3 : ((b6g_edges S1.1)).toInt = ((0 : Int32)).toInt := by rw [eS1]
  try simp (disch := first | ((try simp (disch := first | ((try simp only [pn]) <;> omega) | fail) only [pn, pq]) <;> omega) | fail) only [pn, pq] at je3
  have jf4 := J6g_edges hJS1.1
  have je6 : ((b6g_nodes S1.1)).toInt = ((b6g_nodes S.1)).toInt := congrArg (fun z => (z).toInt) hFS1.2.2.2.2.2.2.2.1
  intro S2 eS2
  have hJS2 : J6 S2.1 ∧ J1 S2.2 := by rw [eS2]; exact ⟨(J6s_children hJS1.1), hJS1.2⟩
  have hFS2 : F_X6_findEdges S S2 := by rw [eS2]; exact hFS1
  have je7 : ((b6g_edges S2.1)).toInt = ((b6g_edges S1.1)).toInt := by rw [eS2]
  have jf8 := J6g_edges hJS2.1
  have je10 : ((b6g_nodes S2.1)).toInt = ((b6g_nodes S.1)).toInt := congrArg (fun z => (z).toInt) hFS2.2.2.2.2.2.2.2.1
  refine ⟨fun n x2q3 Sq3 => (J6 Sq3.1 ∧ J1 Sq3.2) ∧ (F_X6_findEdges S Sq3) ∧ (0 ≤ (x2q3).toInt) ∧ n = (((b6g_nodes Sq3.1)).toInt + 1 - (x2q3).toInt).toNat, ⟨_, hJS2, hFS2, (by (try simp (disch := first | ((try simp (disch := first | ((try simp only [pn]) <;> omega) | fail) only [pn, pq]) <;> omega) | fail) only [pn, pq]) <;> (intros; (try simp (disch := first | ((try simp (disch := first | ((try simp only [pn]) <;> omega) | fail) only [pn, pq]) <;> omega) | fail) only [pn, pq]) <;> omega)), rfl⟩, ?_⟩
  rintro n4 x2q3 Sq3 ⟨hJSq3, hFSq3, hiq3_0, hn4⟩
  have rgx2q3 := pt_rg x2q3
  unfold wp_X6_findEdges_12b
  have jf11 := J6g_edges hJSq3.1
  have je13 : ((b6g_nodes Sq3.1)).toInt = ((b6g_nodes S.1)).toInt := congrArg (fun z => (z).toInt) hFSq3.2.2.2.2.2.2.2.1
  refine ⟨fun c5 => ?_, fun c5 => ?_⟩
  · try simp (disch := first | ((try simp (disch := first | ((try simp only [pn]) <;> omega) | fail) only [pn, pq]) <;> omega) | fail) only [pn, pq] at c5
    refine ⟨pt_in (by (try simp (disch := first | ((try simp (disch := first | ((try simp only [pn]) <;> omega) | fail) only [pn, pq]) <;> omega) | fail) only [pn, pq]) <;> (intros; (try simp (disch := first | ((try simp (disch := first | ((try simp only [pn]) <;> omega) | fail) only [pn, pq]) <;> omega) | fail) only [pn, pq]) <;> omega)) (by (try simp (disch := first | ((try simp (disch := first | ((try simp only [pn]) <;> omega) | fail) only [pn, pq]) <;> omega) | fail) only [pn, pq]) <;> (intros; (try simp (disch := first | ((try simp (disch := first | ((try simp only [pn]) <;> omega) | fail) only [pn, pq]) <;> omega) | fail) only [pn, pq]) <;> omega)), ?_⟩
    intro S6 eS6
    have hJS6 : J6 S6.1 ∧ J1 S6.2 := by rw [eS6]; exact ⟨(J6s_edgeStarts hJSq3.1 (pt_updr (J6g_edgeStarts hJSq3.1) ⟨(by (try simp (disch := first | ((try simp (disch := first | ((try simp only [pn]) <;> omega) | fail) only [pn, pq]) <;> omega) | fail) only [pn, pq]) <;> (intros; (try simp (disch := first | ((try simp (disch := first | ((try simp only [pn]) <;> omega) | fail) only [pn, pq]) <;> omega) | fail) only [pn, pq]) <;> omega)), (by (try simp (disch := first | ((try simp (disch := first | ((try simp only [pn]) <;> omega) | fail) only [pn, pq]) <;> omega) | fail) only [pn, pq]) <;> (intros; (try simp (disch := first | ((try simp (disch := first | ((try simp only [pn]) <;> omega) | fail) only [pn, pq]) <;> omega) | fail) only [pn, pq]) <;> omega))⟩)), hJSq3.2⟩
    have hFS6 : F_X6_findEdges S S6 := by rw [eS6]; exact hFSq3
    have je14 : ((b6g_edges S6.1)).toInt = ((b6g_edges Sq3.1)).toInt := by rw [eS6]
    have jf15 := J6g_edges hJS6.1
    have je17 : ((b6g_nodes S6.1)).toInt = ((b6g_nodes S.1)).toInt := congrArg (fun z => (z).toInt) hFS6.2.2.2.2.2.2.2.1
    exact hq _ hJS6 hFS6 
  · try simp (disch := first | ((try simp (disch := first | ((try simp only [pn]) <;> omega) | fail) only [pn, pq]) <;> omega) | fail) only [pn, pq] at c5
    refine ⟨pt_in (by (try simp (disch := first | ((try simp (disch := first | ((try simp only [pn]) <;> omega) | fail) only [pn, pq]) <;> omega) | fail) only [pn, pq]) <;> (intros; (try simp (disch := first | ((try simp (disch := first | ((try simp only [pn]) <;> omega) | fail) only [pn, pq]) <;> omega) | fail) only [pn, pq]) <;> omega)) (by (try simp (disch := first | ((try simp (disch := first | ((try simp only [pn]) <;> omega) | fail) only [pn, pq]) <;> omega) | fail) only [pn, pq]) <;> (intros; (try simp (disch := first | ((try simp (disch := first | ((try simp only [pn]) <;> omega) | fail) only [pn, pq]) <;> omega) | fail) only [pn, pq]) <;> omega)), ?_⟩
    intro S7 eS7
    have hJS7 : J6 S7.1 ∧ J1 S7.2 := by rw [eS7]; exact ⟨(J6s_edgeStarts hJSq3.1 (pt_updr (J6g_edgeStarts hJSq3.1) ⟨(by (try simp (disch := first | ((try simp (disch := first | ((try simp only [pn]) <;> omega) | fail) only [pn, pq]) <;> omega) | fail) only [pn, pq]) <;> (intros; (try simp (disch := first | ((try simp (disch := first | ((try simp only [pn]) <;> omega) | fail) only [pn, pq]) <;> omega) | fail) only [pn, pq]) <;> omega)), (by (try simp (disch := first | ((try simp (disch := first | ((try simp only [pn]) <;> omega) | fail) only [pn, pq]) <;> omega) | fail) only [pn, pq]) <;> (intros; (try simp (disch := first | ((try simp (disch := first | ((try simp only [pn]) <;> omega) | fail) only [pn, pq]) <;> omega) | fail) only [pn, pq]) <;> omega))⟩)), hJSq3.2⟩
    have hFS7 : F_X6_findEdges S S7 := by rw [eS7]; exact hFSq3
    have je18 : ((b6g_edges S7.1)).toInt = ((b6g_edges Sq3.1)).toInt := by rw [eS7]
    have jf19 := J6g_edges hJS7.1
    have je21 : ((b6g_nodes S7.1)).toInt = ((b6g_nodes S.1)).toInt := congrArg (fun z => (z).toInt) hFS7.2.2.2.2.2.2.2.1
    refine sf_X6_findEdgesOf (S := S7) ⟨hJS7.1, hJS7.2⟩ (fun u9 hJu9 hfu9  => ?_)
    have hFu9 : F_X6_findEdges S u9 := ⟨(congrArg (fun z => z) hfu9.1).trans hFS7.1, (congrArg (fun z => z) hfu9.2.1).trans hFS7.2.1, (congrArg (fun z => z) hfu9.2.2.1).trans hFS7.2.2.1, (congrArg (fun z => z) hfu9.2.2.2.2.1).trans hFS7.2.2.2.1, (congrArg (fun z => z) hfu9.2.2.2.2.2.1).trans hFS7.2.2.2.2.1, (congrArg (fun z => z) hfu9.2.2.2.2.2.2.1).trans hFS7.2.2.2.2.2.1, (congrArg (fun z => z) hfu9.2.2.2.2.2.2.2.1).trans hFS7.2.2.2.2.2.2.1, (congrArg (fun z => z) hfu9.2.2.2.2.2.2.2.2.1).trans hFS7.2.2.2.2.2.2.2.1, (congrArg (fun z => z) hfu9.2.2.2.2.2.2.2.2.2.1).trans hFS7.2.2.2.2.2.2.2.2.1, (congrArg (fun z => z) hfu9.2.2.2.2.2.2.2.2.2.2.1).trans hFS7.2.2.2.2.2.2.2.2.2.1, (congrArg (fun z => z) hfu9.2.2.2.2.2.2.2.2.2.2.2.1).trans hFS7.2.2.2.2.2.2.2.2.2.2.1, (congrArg (fun z => z) hfu9.2.2.2.2.2.2.2.2.2.2.2.2.1).trans hFS7.2.2.2.2.2.2.2.2.2.2.2.1, (congrArg (fun z => z) hfu9.2.2.2.2.2.2.2.2.2.2.2.2.2).trans hFS7.2.2.2.2.2.2.2.2.2.2.2.2⟩
    have jf22 := J6g_edges hJu9.1
    have je24 : ((b6g_nodes u9.1)).toInt = ((b6g_nodes S.1)).toInt := congrArg (fun z => (z).toInt) hFu9.2.2.2.2.2.2.2.1
    refine ⟨_, ?_, ?_, ?_, ?_, rfl⟩
    · (try simp (disch := first | ((try simp (disch := first | ((try simp only [pn]) <;> omega) | fail) only [pn, pq]) <;> omega) | fail) only [pn, pq]) <;> (intros; (try simp (disch := first | ((try simp (disch := first | ((try simp only [pn]) <;> omega) | fail) only [pn, pq]) <;> omega) | fail) only [pn, pq]) <;> omega)
    · exact hJu9
    · exact hFu9
    · (try simp (disch := first | ((try simp (disch := first | ((try simp only [pn]) <;> omega) | fail) only [pn, pq]) <;> omega) | fail) only [pn, pq]) <;> (intros; (try simp (disch := first | ((try simp (disch := first | ((try simp only [pn]) <;> omega) | fail) only [pn, pq]) <;> omega) | fail) only [pn, pq]) <;> omega)
def F_X6_addNode (S u : bT6) : Prop := (b6g_edgeStarts u) = (b6g_edgeStarts S) ∧ (b6g_edgeNodes u) = (b6g_edgeNodes S) ∧ (b6g_edgeOctets u) = (b6g_edgeOctets S) ∧ (b6g_edgeLeaves u) = (b6g_edgeLeaves S) ∧ (b6g_edgeChildren u) = (b6g_edgeChildren S) ∧ (b6g_levelStarts u) = (b6g_levelStarts S) ∧ (b6g_places u) = (b6g_places S) ∧ (b6g_leavesByPlace u) = (b6g_leavesByPlace S) ∧ (b6g_leafNodes u) = (b6g_leafNodes S) ∧ (b6g_edges u) = (b6g_edges S) ∧ (b6g_children u) = (b6g_children S) ∧ (b6g_levels u) = (b6g_levels S) ∧ (b6g_upper u) = (b6g_upper S) ∧ (b6g_upperNodes u) = (b6g_upperNodes S) ∧ (b6g_itemStart u) = (b6g_itemStart S)
set_option maxRecDepth 20000 in
set_option maxHeartbeats 8000000 in
theorem sf_X6_addNode {S : bT6} (hJ : J6 S) {a1 : Int32} {a2 : Int32} {Q : (bT6) → Prop} (hq : ∀ u : bT6, (J6 u) → F_X6_addNode S u → Q u) : wp_X6_addNode S a1 a2 Q := by
  unfold wp_X6_addNode
  have hFS : F_X6_addNode S S := ⟨rfl, rfl, rfl, rfl, rfl, rfl, rfl, rfl, rfl, rfl, rfl, rfl, rfl, rfl, rfl⟩
  have jf1 := J6g_nodes hJ
  have rga1 := pt_rg a1
  have rga2 := pt_rg a2
  refine ⟨fun c1 => ?_, fun c1 => ?_⟩
  · try simp (disch := first | ((try simp (disch := first | ((try simp only [pn]) <;> omega) | fail) only [pn, pq]) <;> omega) | fail) only [pn, pq] at c1
    exact hq _ hJ hFS 
  · try simp (disch := first | ((try simp (disch := first | ((try simp only [pn]) <;> omega) | fail) only [pn, pq]) <;> omega) | fail) only [pn, pq] at c1
    refine ⟨pt_in (by (try simp (disch := first | ((try simp (disch := first | ((try simp only [pn]) <;> omega) | fail) only [pn, pq]) <;> omega) | fail) only [pn, pq]) <;> (intros; (try simp (disch := first | ((try simp (disch := first | ((try simp only [pn]) <;> omega) | fail) only [pn, pq]) <;> omega) | fail) only [pn, pq]) <;> omega)) (by (try simp (disch := first | ((try simp (disch := first | ((try simp only [pn]) <;> omega) | fail) only [pn, pq]) <;> omega) | fail) only [pn, pq]) <;> (intros; (try simp (disch := first | ((try simp (disch := first | ((try simp only [pn]) <;> omega) | fail) only [pn, pq]) <;> omega) | fail) only [pn, pq]) <;> omega)), ?_⟩
    intro S2 eS2
    have hJS2 : J6 S2 := by rw [eS2]; exact (J6s_nodeLevels hJ)
    have hFS2 : F_X6_addNode S S2 := by rw [eS2]; exact hFS
    have je2 : ((b6g_nodes S2)).toInt = ((b6g_nodes S)).toInt := by rw [eS2]
    have jf3 := J6g_nodes hJS2
    refine ⟨pt_in (by (try simp (disch := first | ((try simp (disch := first | ((try simp only [pn]) <;> omega) | fail) only [pn, pq]) <;> omega) | fail) only [pn, pq]) <;> (intros; (try simp (disch := first | ((try simp (disch := first | ((try simp only [pn]) <;> omega) | fail) only [pn, pq]) <;> omega) | fail) only [pn, pq]) <;> omega)) (by (try simp (disch := first | ((try simp (disch := first | ((try simp only [pn]) <;> omega) | fail) only [pn, pq]) <;> omega) | fail) only [pn, pq]) <;> (intros; (try simp (disch := first | ((try simp (disch := first | ((try simp only [pn]) <;> omega) | fail) only [pn, pq]) <;> omega) | fail) only [pn, pq]) <;> omega)), ?_⟩
    intro S3 eS3
    have hJS3 : J6 S3 := by rw [eS3]; exact (J6s_firstLeaves hJS2)
    have hFS3 : F_X6_addNode S S3 := by rw [eS3]; exact hFS2
    have je4 : ((b6g_nodes S3)).toInt = ((b6g_nodes S2)).toInt := by rw [eS3]
    have jf5 := J6g_nodes hJS3
    refine ⟨pt_in (by (try simp (disch := first | ((try simp (disch := first | ((try simp only [pn]) <;> omega) | fail) only [pn, pq]) <;> omega) | fail) only [pn, pq]) <;> (intros; (try simp (disch := first | ((try simp (disch := first | ((try simp only [pn]) <;> omega) | fail) only [pn, pq]) <;> omega) | fail) only [pn, pq]) <;> omega)) (by (try simp (disch := first | ((try simp (disch := first | ((try simp only [pn]) <;> omega) | fail) only [pn, pq]) <;> omega) | fail) only [pn, pq]) <;> (intros; (try simp (disch := first | ((try simp (disch := first | ((try simp only [pn]) <;> omega) | fail) only [pn, pq]) <;> omega) | fail) only [pn, pq]) <;> omega)), ?_⟩
    intro S4 eS4
    have hJS4 : J6 S4 := by rw [eS4]; exact (J6s_leafCounts hJS3)
    have hFS4 : F_X6_addNode S S4 := by rw [eS4]; exact hFS3
    have je6 : ((b6g_nodes S4)).toInt = ((b6g_nodes S3)).toInt := by rw [eS4]
    have jf7 := J6g_nodes hJS4
    intro S5 eS5
    have hJS5 : J6 S5 := by rw [eS5]; exact (J6s_nodes hJS4 ⟨(by (try simp (disch := first | ((try simp (disch := first | ((try simp only [pn]) <;> omega) | fail) only [pn, pq]) <;> omega) | fail) only [pn, pq]) <;> (intros; (try simp (disch := first | ((try simp (disch := first | ((try simp only [pn]) <;> omega) | fail) only [pn, pq]) <;> omega) | fail) only [pn, pq]) <;> omega)), (by (try simp (disch := first | ((try simp (disch := first | ((try simp only [pn]) <;> omega) | fail) only [pn, pq]) <;> omega) | fail) only [pn, pq]) <;> (intros; (try simp (disch := first | ((try simp (disch := first | ((try simp only [pn]) <;> omega) | fail) only [pn, pq]) <;> omega) | fail) only [pn, pq]) <;> omega))⟩)
    have hFS5 : F_X6_addNode S S5 := by rw [eS5]; exact hFS4
    have je8 : ((b6g_nodes S5)).toInt = (((b6g_nodes S4) + (1 : Int32))).toInt := by rw [eS5]
    try simp (disch := first | ((try simp (disch := first | ((try simp only [pn]) <;> omega) | fail) only [pn, pq]) <;> omega) | fail) only [pn, pq] at je8
    have jf9 := J6g_nodes hJS5
    exact hq _ hJS5 hFS5 
