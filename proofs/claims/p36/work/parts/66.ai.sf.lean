set_option maxRecDepth 20000 in
set_option maxHeartbeats 8000000 in
theorem sf_X9_leavesAt {S : bT9} (hJ : K9 S) {a1 : Int32} {Q : Int32 → Prop} (hq : ∀ r : Int32, Q r) : wp_X9_leavesAt S a1 Q := by
  unfold wp_X9_leavesAt
  have jf1 : (-4 ≤ ((b9g_now S) 1).toInt ∧ ((b9g_now S) 1).toInt ≤ 4) ∧ (-3 ≤ ((b9g_now S) 4).toInt ∧ ((b9g_now S) 4).toInt ≤ 252) ∧ (0 ≤ ((b9g_now S) 8).toInt ∧ ((b9g_now S) 8).toInt ≤ 64) ∧ (0 ≤ ((b9g_now S) 9).toInt ∧ ((b9g_now S) 9).toInt ≤ 64) ∧ (0 ≤ ((b9g_now S) 10).toInt ∧ ((b9g_now S) 10).toInt ≤ 16) ∧ (0 ≤ ((b9g_now S) 12).toInt ∧ ((b9g_now S) 12).toInt ≤ 8) := K9g_now hJ
  have rga1 := pt_rg a1
  refine ⟨fun n x1q1 x2q1 x3q1 => (x1q1 = a1) ∧ (0 ≤ (x3q1).toInt) ∧ n = ((((b9g_now S) 9)).toInt + 1 - (x3q1).toInt).toNat, ⟨_, rfl, (by (try simp (disch := first | ((try simp (disch := first | ((try simp only [pn]) <;> omega) | fail) only [pn, pq]) <;> omega) | fail) only [pn, pq]) <;> (intros; (try simp (disch := first | ((try simp (disch := first | ((try simp only [pn]) <;> omega) | fail) only [pn, pq]) <;> omega) | fail) only [pn, pq]) <;> omega)), rfl⟩, ?_⟩
  rintro n2 x1q1 x2q1 x3q1 ⟨hkq1_0, hiq1_0, hn2⟩
  subst hkq1_0
  have rgx1q1 := pt_rg x1q1
  have rgx2q1 := pt_rg x2q1
  have rgx3q1 := pt_rg x3q1
  unfold wp_X9_leavesAt_4b
  refine ⟨pt_in (by (try simp (disch := first | ((try simp (disch := first | ((try simp only [pn]) <;> omega) | fail) only [pn, pq]) <;> omega) | fail) only [pn, pq]) <;> (intros; (try simp (disch := first | ((try simp (disch := first | ((try simp only [pn]) <;> omega) | fail) only [pn, pq]) <;> omega) | fail) only [pn, pq]) <;> omega)) (by (try simp (disch := first | ((try simp (disch := first | ((try simp only [pn]) <;> omega) | fail) only [pn, pq]) <;> omega) | fail) only [pn, pq]) <;> (intros; (try simp (disch := first | ((try simp (disch := first | ((try simp only [pn]) <;> omega) | fail) only [pn, pq]) <;> omega) | fail) only [pn, pq]) <;> omega)), ?_⟩
  refine ⟨fun c3 => ?_, fun c3 => ?_⟩
  · try simp (disch := first | ((try simp (disch := first | ((try simp only [pn]) <;> omega) | fail) only [pn, pq]) <;> omega) | fail) only [pn, pq] at c3
    exact hq _ 
  · try simp (disch := first | ((try simp (disch := first | ((try simp only [pn]) <;> omega) | fail) only [pn, pq]) <;> omega) | fail) only [pn, pq] at c3
    refine ⟨pt_in (by (try simp (disch := first | ((try simp (disch := first | ((try simp only [pn]) <;> omega) | fail) only [pn, pq]) <;> omega) | fail) only [pn, pq]) <;> (intros; (try simp (disch := first | ((try simp (disch := first | ((try simp only [pn]) <;> omega) | fail) only [pn, pq]) <;> omega) | fail) only [pn, pq]) <;> omega)) (by (try simp (disch := first | ((try simp (disch := first | ((try simp only [pn]) <;> omega) | fail) only [pn, pq]) <;> omega) | fail) only [pn, pq]) <;> (intros; (try simp (disch := first | ((try simp (disch := first | ((try simp only [pn]) <;> omega) | fail) only [pn, pq]) <;> omega) | fail) only [pn, pq]) <;> omega)), ?_⟩
    have jr3 := K9g_beginning hJ (x3q1).toNatClampNeg
    try simp (disch := first | ((try simp (disch := first | ((try simp only [pn]) <;> omega) | fail) only [pn, pq]) <;> omega) | fail) only [pn, pq] at jr3
    refine sf_X9_isEnded hJ (by (try simp (disch := first | ((try simp (disch := first | ((try simp only [pn]) <;> omega) | fail) only [pn, pq]) <;> omega) | fail) only [pn, pq]) <;> (intros; (try simp (disch := first | ((try simp (disch := first | ((try simp only [pn]) <;> omega) | fail) only [pn, pq]) <;> omega) | fail) only [pn, pq]) <;> omega)) (by (try simp (disch := first | ((try simp (disch := first | ((try simp only [pn]) <;> omega) | fail) only [pn, pq]) <;> omega) | fail) only [pn, pq]) <;> (intros; (try simp (disch := first | ((try simp (disch := first | ((try simp only [pn]) <;> omega) | fail) only [pn, pq]) <;> omega) | fail) only [pn, pq]) <;> omega)) (fun r4 hzr4  => ?_)
    refine ⟨fun c6 => ?_, fun c6 => ?_⟩
    · try simp (disch := first | ((try simp (disch := first | ((try simp only [pn]) <;> omega) | fail) only [pn, pq]) <;> omega) | fail) only [pn, pq] at c6
      unfold wp_X9_leavesAt_36
      refine ⟨fun c7 => ?_, fun c7 => ?_⟩
      · try simp (disch := first | ((try simp (disch := first | ((try simp only [pn]) <;> omega) | fail) only [pn, pq]) <;> omega) | fail) only [pn, pq] at c7
        unfold wp_X9_leavesAt_43
        refine ⟨_, ?_, ?_, ?_, rfl⟩
        · (try simp (disch := first | ((try simp (disch := first | ((try simp only [pn]) <;> omega) | fail) only [pn, pq]) <;> omega) | fail) only [pn, pq]) <;> (intros; (try simp (disch := first | ((try simp (disch := first | ((try simp only [pn]) <;> omega) | fail) only [pn, pq]) <;> omega) | fail) only [pn, pq]) <;> omega)
        · first | rfl | assumption
        · (try simp (disch := first | ((try simp (disch := first | ((try simp only [pn]) <;> omega) | fail) only [pn, pq]) <;> omega) | fail) only [pn, pq]) <;> (intros; (try simp (disch := first | ((try simp (disch := first | ((try simp only [pn]) <;> omega) | fail) only [pn, pq]) <;> omega) | fail) only [pn, pq]) <;> omega)
      · try simp (disch := first | ((try simp (disch := first | ((try simp only [pn]) <;> omega) | fail) only [pn, pq]) <;> omega) | fail) only [pn, pq] at c7
        unfold wp_X9_leavesAt_43
        refine ⟨_, ?_, ?_, ?_, rfl⟩
        · (try simp (disch := first | ((try simp (disch := first | ((try simp only [pn]) <;> omega) | fail) only [pn, pq]) <;> omega) | fail) only [pn, pq]) <;> (intros; (try simp (disch := first | ((try simp (disch := first | ((try simp only [pn]) <;> omega) | fail) only [pn, pq]) <;> omega) | fail) only [pn, pq]) <;> omega)
        · first | rfl | assumption
        · (try simp (disch := first | ((try simp (disch := first | ((try simp only [pn]) <;> omega) | fail) only [pn, pq]) <;> omega) | fail) only [pn, pq]) <;> (intros; (try simp (disch := first | ((try simp (disch := first | ((try simp only [pn]) <;> omega) | fail) only [pn, pq]) <;> omega) | fail) only [pn, pq]) <;> omega)
    · try simp (disch := first | ((try simp (disch := first | ((try simp only [pn]) <;> omega) | fail) only [pn, pq]) <;> omega) | fail) only [pn, pq] at c6
      unfold wp_X9_leavesAt_36
      refine ⟨fun c8 => ?_, fun c8 => ?_⟩
      · try simp (disch := first | ((try simp (disch := first | ((try simp only [pn]) <;> omega) | fail) only [pn, pq]) <;> omega) | fail) only [pn, pq] at c8
        unfold wp_X9_leavesAt_43
        refine ⟨_, ?_, ?_, ?_, rfl⟩
        · (try simp (disch := first | ((try simp (disch := first | ((try simp only [pn]) <;> omega) | fail) only [pn, pq]) <;> omega) | fail) only [pn, pq]) <;> (intros; (try simp (disch := first | ((try simp (disch := first | ((try simp only [pn]) <;> omega) | fail) only [pn, pq]) <;> omega) | fail) only [pn, pq]) <;> omega)
        · first | rfl | assumption
        · (try simp (disch := first | ((try simp (disch := first | ((try simp only [pn]) <;> omega) | fail) only [pn, pq]) <;> omega) | fail) only [pn, pq]) <;> (intros; (try simp (disch := first | ((try simp (disch := first | ((try simp only [pn]) <;> omega) | fail) only [pn, pq]) <;> omega) | fail) only [pn, pq]) <;> omega)
      · try simp (disch := first | ((try simp (disch := first | ((try simp only [pn]) <;> omega) | fail) only [pn, pq]) <;> omega) | fail) only [pn, pq] at c8
        unfold wp_X9_leavesAt_43
        refine ⟨_, ?_, ?_, ?_, rfl⟩
        · (try simp (disch := first | ((try simp (disch := first | ((try simp only [pn]) <;> omega) | fail) only [pn, pq]) <;> omega) | fail) only [pn, pq]) <;> (intros; (try simp (disch := first | ((try simp (disch := first | ((try simp only [pn]) <;> omega) | fail) only [pn, pq]) <;> omega) | fail) only [pn, pq]) <;> omega)
        · first | rfl | assumption
        · (try simp (disch := first | ((try simp (disch := first | ((try simp only [pn]) <;> omega) | fail) only [pn, pq]) <;> omega) | fail) only [pn, pq]) <;> (intros; (try simp (disch := first | ((try simp (disch := first | ((try simp only [pn]) <;> omega) | fail) only [pn, pq]) <;> omega) | fail) only [pn, pq]) <;> omega)
def F_X9_level (S u : bT9) : Prop := (b9g_now u) = (b9g_now S) ∧ (b9g_keys u) = (b9g_keys S) ∧ (b9g_lengths u) = (b9g_lengths S) ∧ (b9g_drawn u) = (b9g_drawn S) ∧ (b9g_drawnLength u) = (b9g_drawnLength S) ∧ (b9g_tape u) = (b9g_tape S) ∧ (b9g_taped u) = (b9g_taped S) ∧ (b9g_names u) = (b9g_names S) ∧ (b9g_chosen u) = (b9g_chosen S) ∧ (b9g_lowKey u) = (b9g_lowKey S) ∧ (b9g_highKey u) = (b9g_highKey S) ∧ (b9g_lowLength u) = (b9g_lowLength S) ∧ (b9g_highLength u) = (b9g_highLength S) ∧ (b9g_fromKey u) = (b9g_fromKey S) ∧ (b9g_toKey u) = (b9g_toKey S) ∧ (b9g_fromLength u) = (b9g_fromLength S) ∧ (b9g_toLength u) = (b9g_toLength S) ∧ (b9g_ones u) = (b9g_ones S) ∧ (b9g_oneMany u) = (b9g_oneMany S) ∧ (b9g_rowLong u) = (b9g_rowLong S) ∧ (b9g_signs u) = (b9g_signs S) ∧ (b9g_signMany u) = (b9g_signMany S) ∧ (b9g_hasImage u) = (b9g_hasImage S) ∧ (b9g_images u) = (b9g_images S) ∧ (b9g_keyImages u) = (b9g_keyImages S) ∧ (b9g_lengthImages u) = (b9g_lengthImages S)
set_option maxRecDepth 20000 in
set_option maxHeartbeats 8000000 in
theorem sf_X9_level {S : bT9} (hJ : J9 S) {a1 : Int32} {a2 : Int32} {Q : Int32 → (bT9) → Prop} (hq : ∀ (r : Int32) (u : bT9), (J9 u) → F_X9_level S u → Q r u) : wp_X9_level S a1 a2 Q := by
  unfold wp_X9_level
  have hFS : F_X9_level S S := ⟨rfl, rfl, rfl, rfl, rfl, rfl, rfl, rfl, rfl, rfl, rfl, rfl, rfl, rfl, rfl, rfl, rfl, rfl, rfl, rfl, rfl, rfl, rfl, rfl, rfl, rfl⟩
  have jf1 := J9g_levelMany hJ
  have jf2 : (-4 ≤ ((b9g_now S) 1).toInt ∧ ((b9g_now S) 1).toInt ≤ 4) ∧ (-3 ≤ ((b9g_now S) 4).toInt ∧ ((b9g_now S) 4).toInt ≤ 252) ∧ (0 ≤ ((b9g_now S) 8).toInt ∧ ((b9g_now S) 8).toInt ≤ 64) ∧ (0 ≤ ((b9g_now S) 9).toInt ∧ ((b9g_now S) 9).toInt ≤ 64) ∧ (0 ≤ ((b9g_now S) 10).toInt ∧ ((b9g_now S) 10).toInt ≤ 16) ∧ (0 ≤ ((b9g_now S) 12).toInt ∧ ((b9g_now S) 12).toInt ≤ 8) := J9g_now hJ
  have ju2_S := hJ.2.1
  have rga1 := pt_rg a1
  have rga2 := pt_rg a2
  intro S1 eS1
  have hJS1 : J9 S1 := by rw [eS1]; exact (J9s_told hJ)
  have hFS1 : F_X9_level S S1 := by rw [eS1]; exact hFS
  have je3 : ((b9g_levelMany S1)).toInt = ((b9g_levelMany S)).toInt := by rw [eS1]
  have jf4 := J9g_levelMany hJS1
  have je5 : ((b9g_upper S1)).toInt = ((b9g_upper S)).toInt := by rw [eS1]
  have je7 : ((b9g_now S1) 1).toInt = ((b9g_now S) 1).toInt := congrArg (fun z => (z 1).toInt) hFS1.1
  have je9 : ((b9g_now S1) 4).toInt = ((b9g_now S) 4).toInt := congrArg (fun z => (z 4).toInt) hFS1.1
  have je11 : ((b9g_now S1) 7).toInt = ((b9g_now S) 7).toInt := congrArg (fun z => (z 7).toInt) hFS1.1
  have je13 : ((b9g_now S1) 8).toInt = ((b9g_now S) 8).toInt := congrArg (fun z => (z 8).toInt) hFS1.1
  have je15 : ((b9g_now S1) 9).toInt = ((b9g_now S) 9).toInt := congrArg (fun z => (z 9).toInt) hFS1.1
  have je17 : ((b9g_now S1) 10).toInt = ((b9g_now S) 10).toInt := congrArg (fun z => (z 10).toInt) hFS1.1
  have je19 : ((b9g_now S1) 12).toInt = ((b9g_now S) 12).toInt := congrArg (fun z => (z 12).toInt) hFS1.1
  have ju19_S1 := hJS1.2.1
  refine sf_X9_laysNodes hJS1 (fun u3 hJu3 hfu3  => ?_)
  have hFu3 : F_X9_level S u3 := ⟨(congrArg (fun z => z) hfu3.2.1).trans hFS1.1, (congrArg (fun z => z) hfu3.2.2.1).trans hFS1.2.1, (congrArg (fun z => z) hfu3.2.2.2.1).trans hFS1.2.2.1, (congrArg (fun z => z) hfu3.2.2.2.2.1).trans hFS1.2.2.2.1, (congrArg (fun z => z) hfu3.2.2.2.2.2.1).trans hFS1.2.2.2.2.1, (congrArg (fun z => z) hfu3.2.2.2.2.2.2.1).trans hFS1.2.2.2.2.2.1, (congrArg (fun z => z) hfu3.2.2.2.2.2.2.2.1).trans hFS1.2.2.2.2.2.2.1, (congrArg (fun z => z) hfu3.2.2.2.2.2.2.2.2.1).trans hFS1.2.2.2.2.2.2.2.1, (congrArg (fun z => z) hfu3.2.2.2.2.2.2.2.2.2.1).trans hFS1.2.2.2.2.2.2.2.2.1, (congrArg (fun z => z) hfu3.2.2.2.2.2.2.2.2.2.2.1).trans hFS1.2.2.2.2.2.2.2.2.2.1, (congrArg (fun z => z) hfu3.2.2.2.2.2.2.2.2.2.2.2.1).trans hFS1.2.2.2.2.2.2.2.2.2.2.1, (congrArg (fun z => z) hfu3.2.2.2.2.2.2.2.2.2.2.2.2.1).trans hFS1.2.2.2.2.2.2.2.2.2.2.2.1, (congrArg (fun z => z) hfu3.2.2.2.2.2.2.2.2.2.2.2.2.2.1).trans hFS1.2.2.2.2.2.2.2.2.2.2.2.2.1, (congrArg (fun z => z) hfu3.2.2.2.2.2.2.2.2.2.2.2.2.2.2.1).trans hFS1.2.2.2.2.2.2.2.2.2.2.2.2.2.1, (congrArg (fun z => z) hfu3.2.2.2.2.2.2.2.2.2.2.2.2.2.2.2.1).trans hFS1.2.2.2.2.2.2.2.2.2.2.2.2.2.2.1, (congrArg (fun z => z) hfu3.2.2.2.2.2.2.2.2.2.2.2.2.2.2.2.2.1).trans hFS1.2.2.2.2.2.2.2.2.2.2.2.2.2.2.2.1, (congrArg (fun z => z) hfu3.2.2.2.2.2.2.2.2.2.2.2.2.2.2.2.2.2.1).trans hFS1.2.2.2.2.2.2.2.2.2.2.2.2.2.2.2.2.1, (congrArg (fun z => z) hfu3.2.2.2.2.2.2.2.2.2.2.2.2.2.2.2.2.2.2.1).trans hFS1.2.2.2.2.2.2.2.2.2.2.2.2.2.2.2.2.2.1, (congrArg (fun z => z) hfu3.2.2.2.2.2.2.2.2.2.2.2.2.2.2.2.2.2.2.2.1).trans hFS1.2.2.2.2.2.2.2.2.2.2.2.2.2.2.2.2.2.2.1, (congrArg (fun z => z) hfu3.2.2.2.2.2.2.2.2.2.2.2.2.2.2.2.2.2.2.2.2.1).trans hFS1.2.2.2.2.2.2.2.2.2.2.2.2.2.2.2.2.2.2.2.1, (congrArg (fun z => z) hfu3.2.2.2.2.2.2.2.2.2.2.2.2.2.2.2.2.2.2.2.2.2.1).trans hFS1.2.2.2.2.2.2.2.2.2.2.2.2.2.2.2.2.2.2.2.2.1, (congrArg (fun z => z) hfu3.2.2.2.2.2.2.2.2.2.2.2.2.2.2.2.2.2.2.2.2.2.2.1).trans hFS1.2.2.2.2.2.2.2.2.2.2.2.2.2.2.2.2.2.2.2.2.2.1, (congrArg (fun z => z) hfu3.2.2.2.2.2.2.2.2.2.2.2.2.2.2.2.2.2.2.2.2.2.2.2.1).trans hFS1.2.2.2.2.2.2.2.2.2.2.2.2.2.2.2.2.2.2.2.2.2.2.1, (congrArg (fun z => z) hfu3.2.2.2.2.2.2.2.2.2.2.2.2.2.2.2.2.2.2.2.2.2.2.2.2.1).trans hFS1.2.2.2.2.2.2.2.2.2.2.2.2.2.2.2.2.2.2.2.2.2.2.2.1, (congrArg (fun z => z) hfu3.2.2.2.2.2.2.2.2.2.2.2.2.2.2.2.2.2.2.2.2.2.2.2.2.2.1).trans hFS1.2.2.2.2.2.2.2.2.2.2.2.2.2.2.2.2.2.2.2.2.2.2.2.2.1, (congrArg (fun z => z) hfu3.2.2.2.2.2.2.2.2.2.2.2.2.2.2.2.2.2.2.2.2.2.2.2.2.2.2).trans hFS1.2.2.2.2.2.2.2.2.2.2.2.2.2.2.2.2.2.2.2.2.2.2.2.2.2⟩
  have jf20 := J9g_levelMany hJu3
  have je22 : ((b9g_now u3) 1).toInt = ((b9g_now S) 1).toInt := congrArg (fun z => (z 1).toInt) hFu3.1
  have je24 : ((b9g_now u3) 4).toInt = ((b9g_now S) 4).toInt := congrArg (fun z => (z 4).toInt) hFu3.1
  have je26 : ((b9g_now u3) 7).toInt = ((b9g_now S) 7).toInt := congrArg (fun z => (z 7).toInt) hFu3.1
  have je28 : ((b9g_now u3) 8).toInt = ((b9g_now S) 8).toInt := congrArg (fun z => (z 8).toInt) hFu3.1
  have je30 : ((b9g_now u3) 9).toInt = ((b9g_now S) 9).toInt := congrArg (fun z => (z 9).toInt) hFu3.1
  have je32 : ((b9g_now u3) 10).toInt = ((b9g_now S) 10).toInt := congrArg (fun z => (z 10).toInt) hFu3.1
  have je34 : ((b9g_now u3) 12).toInt = ((b9g_now S) 12).toInt := congrArg (fun z => (z 12).toInt) hFu3.1
  have ju34_u3 := hJu3.2.1
  refine sf_X9_isIn hJu3.1 (fun r4 hzr4 hr4_0 => ?_)
  try simp (disch := first | ((try simp (disch := first | ((try simp only [pn]) <;> omega) | fail) only [pn, pq]) <;> omega) | fail) only [pn, pq] at hr4_0
  refine ⟨fun c6 => ?_, fun c6 => ?_⟩
  · try simp (disch := first | ((try simp (disch := first | ((try simp only [pn]) <;> omega) | fail) only [pn, pq]) <;> omega) | fail) only [pn, pq] at c6
    exact hq _ _ hJu3 hFu3 
  · try simp (disch := first | ((try simp (disch := first | ((try simp only [pn]) <;> omega) | fail) only [pn, pq]) <;> omega) | fail) only [pn, pq] at c6
    refine sf_X9_isIn hJu3.1 (fun r7 hzr7 hr7_0 => ?_)
    try simp (disch := first | ((try simp (disch := first | ((try simp only [pn]) <;> omega) | fail) only [pn, pq]) <;> omega) | fail) only [pn, pq] at hr7_0
    refine ⟨fun c9 => ?_, fun c9 => ?_⟩
    · try simp (disch := first | ((try simp (disch := first | ((try simp only [pn]) <;> omega) | fail) only [pn, pq]) <;> omega) | fail) only [pn, pq] at c9
      refine ⟨fun c10 => ?_, fun c10 => ?_⟩
      · try simp (disch := first | ((try simp (disch := first | ((try simp only [pn]) <;> omega) | fail) only [pn, pq]) <;> omega) | fail) only [pn, pq] at c10
        refine ⟨fun c11 => ?_, fun c11 => ?_⟩
        · try simp (disch := first | ((try simp (disch := first | ((try simp only [pn]) <;> omega) | fail) only [pn, pq]) <;> omega) | fail) only [pn, pq] at c11
          refine sf_X9_levelOf hJu3.1 (fun r12  => ?_)
          have rgr12 := pt_rg r12
          exact hq _ _ hJu3 hFu3 
        · try simp (disch := first | ((try simp (disch := first | ((try simp only [pn]) <;> omega) | fail) only [pn, pq]) <;> omega) | fail) only [pn, pq] at c11
          refine ⟨fun c14 => ?_, fun c14 => ?_⟩
          · try simp (disch := first | ((try simp (disch := first | ((try simp only [pn]) <;> omega) | fail) only [pn, pq]) <;> omega) | fail) only [pn, pq] at c14
            exact hq _ _ hJu3 hFu3 
          · try simp (disch := first | ((try simp (disch := first | ((try simp only [pn]) <;> omega) | fail) only [pn, pq]) <;> omega) | fail) only [pn, pq] at c14
            exact hq _ _ hJu3 hFu3 
      · try simp (disch := first | ((try simp (disch := first | ((try simp only [pn]) <;> omega) | fail) only [pn, pq]) <;> omega) | fail) only [pn, pq] at c10
        refine sf_X9_leavesAt hJu3.1 (fun r15  => ?_)
        have rgr15 := pt_rg r15
        exact hq _ _ hJu3 hFu3 
    · try simp (disch := first | ((try simp (disch := first | ((try simp only [pn]) <;> omega) | fail) only [pn, pq]) <;> omega) | fail) only [pn, pq] at c9
      exact hq _ _ hJu3 hFu3 
def F_X9_item (S u : bT9) : Prop := (b9g_now u) = (b9g_now S) ∧ (b9g_keys u) = (b9g_keys S) ∧ (b9g_lengths u) = (b9g_lengths S) ∧ (b9g_drawn u) = (b9g_drawn S) ∧ (b9g_drawnLength u) = (b9g_drawnLength S) ∧ (b9g_tape u) = (b9g_tape S) ∧ (b9g_taped u) = (b9g_taped S) ∧ (b9g_names u) = (b9g_names S) ∧ (b9g_chosen u) = (b9g_chosen S) ∧ (b9g_lowKey u) = (b9g_lowKey S) ∧ (b9g_highKey u) = (b9g_highKey S) ∧ (b9g_lowLength u) = (b9g_lowLength S) ∧ (b9g_highLength u) = (b9g_highLength S) ∧ (b9g_fromKey u) = (b9g_fromKey S) ∧ (b9g_toKey u) = (b9g_toKey S) ∧ (b9g_fromLength u) = (b9g_fromLength S) ∧ (b9g_toLength u) = (b9g_toLength S) ∧ (b9g_ones u) = (b9g_ones S) ∧ (b9g_oneMany u) = (b9g_oneMany S) ∧ (b9g_rowLong u) = (b9g_rowLong S) ∧ (b9g_signs u) = (b9g_signs S) ∧ (b9g_signMany u) = (b9g_signMany S) ∧ (b9g_hasImage u) = (b9g_hasImage S) ∧ (b9g_images u) = (b9g_images S) ∧ (b9g_keyImages u) = (b9g_keyImages S) ∧ (b9g_lengthImages u) = (b9g_lengthImages S)
set_option maxRecDepth 20000 in
set_option maxHeartbeats 8000000 in
theorem sf_X9_item {S : bT9} (hJ : J9 S) {a1 : Int32} {a2 : Int32} {Q : Int32 → (bT9) → Prop} (hq : ∀ (r : Int32) (u : bT9), (J9 u) → F_X9_item S u → Q r u) : wp_X9_item S a1 a2 Q := by
  unfold wp_X9_item
  have hFS : F_X9_item S S := ⟨rfl, rfl, rfl, rfl, rfl, rfl, rfl, rfl, rfl, rfl, rfl, rfl, rfl, rfl, rfl, rfl, rfl, rfl, rfl, rfl, rfl, rfl, rfl, rfl, rfl, rfl⟩
  have jf1 := J9g_itemMany hJ
  have jf2 : (-4 ≤ ((b9g_now S) 1).toInt ∧ ((b9g_now S) 1).toInt ≤ 4) ∧ (-3 ≤ ((b9g_now S) 4).toInt ∧ ((b9g_now S) 4).toInt ≤ 252) ∧ (0 ≤ ((b9g_now S) 8).toInt ∧ ((b9g_now S) 8).toInt ≤ 64) ∧ (0 ≤ ((b9g_now S) 9).toInt ∧ ((b9g_now S) 9).toInt ≤ 64) ∧ (0 ≤ ((b9g_now S) 10).toInt ∧ ((b9g_now S) 10).toInt ≤ 16) ∧ (0 ≤ ((b9g_now S) 12).toInt ∧ ((b9g_now S) 12).toInt ≤ 8) := J9g_now hJ
  have ju2_S := hJ.2.1
  have rga1 := pt_rg a1
  have rga2 := pt_rg a2
  intro S1 eS1
  have hJS1 : J9 S1 := by rw [eS1]; exact (J9s_told hJ)
  have hFS1 : F_X9_item S S1 := by rw [eS1]; exact hFS
  have je3 : ((b9g_itemMany S1)).toInt = ((b9g_itemMany S)).toInt := by rw [eS1]
  have jf4 := J9g_itemMany hJS1
  have je6 : ((b9g_now S1) 1).toInt = ((b9g_now S) 1).toInt := congrArg (fun z => (z 1).toInt) hFS1.1
  have je8 : ((b9g_now S1) 4).toInt = ((b9g_now S) 4).toInt := congrArg (fun z => (z 4).toInt) hFS1.1
  have je10 : ((b9g_now S1) 7).toInt = ((b9g_now S) 7).toInt := congrArg (fun z => (z 7).toInt) hFS1.1
  have je12 : ((b9g_now S1) 8).toInt = ((b9g_now S) 8).toInt := congrArg (fun z => (z 8).toInt) hFS1.1
  have je14 : ((b9g_now S1) 9).toInt = ((b9g_now S) 9).toInt := congrArg (fun z => (z 9).toInt) hFS1.1
  have je16 : ((b9g_now S1) 10).toInt = ((b9g_now S) 10).toInt := congrArg (fun z => (z 10).toInt) hFS1.1
  have je18 : ((b9g_now S1) 12).toInt = ((b9g_now S) 12).toInt := congrArg (fun z => (z 12).toInt) hFS1.1
  have ju18_S1 := hJS1.2.1
  refine sf_X9_laysNodes hJS1 (fun u3 hJu3 hfu3  => ?_)
  have hFu3 : F_X9_item S u3 := ⟨(congrArg (fun z => z) hfu3.2.1).trans hFS1.1, (congrArg (fun z => z) hfu3.2.2.1).trans hFS1.2.1, (congrArg (fun z => z) hfu3.2.2.2.1).trans hFS1.2.2.1, (congrArg (fun z => z) hfu3.2.2.2.2.1).trans hFS1.2.2.2.1, (congrArg (fun z => z) hfu3.2.2.2.2.2.1).trans hFS1.2.2.2.2.1, (congrArg (fun z => z) hfu3.2.2.2.2.2.2.1).trans hFS1.2.2.2.2.2.1, (congrArg (fun z => z) hfu3.2.2.2.2.2.2.2.1).trans hFS1.2.2.2.2.2.2.1, (congrArg (fun z => z) hfu3.2.2.2.2.2.2.2.2.1).trans hFS1.2.2.2.2.2.2.2.1, (congrArg (fun z => z) hfu3.2.2.2.2.2.2.2.2.2.1).trans hFS1.2.2.2.2.2.2.2.2.1, (congrArg (fun z => z) hfu3.2.2.2.2.2.2.2.2.2.2.1).trans hFS1.2.2.2.2.2.2.2.2.2.1, (congrArg (fun z => z) hfu3.2.2.2.2.2.2.2.2.2.2.2.1).trans hFS1.2.2.2.2.2.2.2.2.2.2.1, (congrArg (fun z => z) hfu3.2.2.2.2.2.2.2.2.2.2.2.2.1).trans hFS1.2.2.2.2.2.2.2.2.2.2.2.1, (congrArg (fun z => z) hfu3.2.2.2.2.2.2.2.2.2.2.2.2.2.1).trans hFS1.2.2.2.2.2.2.2.2.2.2.2.2.1, (congrArg (fun z => z) hfu3.2.2.2.2.2.2.2.2.2.2.2.2.2.2.1).trans hFS1.2.2.2.2.2.2.2.2.2.2.2.2.2.1, (congrArg (fun z => z) hfu3.2.2.2.2.2.2.2.2.2.2.2.2.2.2.2.1).trans hFS1.2.2.2.2.2.2.2.2.2.2.2.2.2.2.1, (congrArg (fun z => z) hfu3.2.2.2.2.2.2.2.2.2.2.2.2.2.2.2.2.1).trans hFS1.2.2.2.2.2.2.2.2.2.2.2.2.2.2.2.1, (congrArg (fun z => z) hfu3.2.2.2.2.2.2.2.2.2.2.2.2.2.2.2.2.2.1).trans hFS1.2.2.2.2.2.2.2.2.2.2.2.2.2.2.2.2.1, (congrArg (fun z => z) hfu3.2.2.2.2.2.2.2.2.2.2.2.2.2.2.2.2.2.2.1).trans hFS1.2.2.2.2.2.2.2.2.2.2.2.2.2.2.2.2.2.1, (congrArg (fun z => z) hfu3.2.2.2.2.2.2.2.2.2.2.2.2.2.2.2.2.2.2.2.1).trans hFS1.2.2.2.2.2.2.2.2.2.2.2.2.2.2.2.2.2.2.1, (congrArg (fun z => z) hfu3.2.2.2.2.2.2.2.2.2.2.2.2.2.2.2.2.2.2.2.2.1).trans hFS1.2.2.2.2.2.2.2.2.2.2.2.2.2.2.2.2.2.2.2.1, (congrArg (fun z => z) hfu3.2.2.2.2.2.2.2.2.2.2.2.2.2.2.2.2.2.2.2.2.2.1).trans hFS1.2.2.2.2.2.2.2.2.2.2.2.2.2.2.2.2.2.2.2.2.1, (congrArg (fun z => z) hfu3.2.2.2.2.2.2.2.2.2.2.2.2.2.2.2.2.2.2.2.2.2.2.1).trans hFS1.2.2.2.2.2.2.2.2.2.2.2.2.2.2.2.2.2.2.2.2.2.1, (congrArg (fun z => z) hfu3.2.2.2.2.2.2.2.2.2.2.2.2.2.2.2.2.2.2.2.2.2.2.2.1).trans hFS1.2.2.2.2.2.2.2.2.2.2.2.2.2.2.2.2.2.2.2.2.2.2.1, (congrArg (fun z => z) hfu3.2.2.2.2.2.2.2.2.2.2.2.2.2.2.2.2.2.2.2.2.2.2.2.2.1).trans hFS1.2.2.2.2.2.2.2.2.2.2.2.2.2.2.2.2.2.2.2.2.2.2.2.1, (congrArg (fun z => z) hfu3.2.2.2.2.2.2.2.2.2.2.2.2.2.2.2.2.2.2.2.2.2.2.2.2.2.1).trans hFS1.2.2.2.2.2.2.2.2.2.2.2.2.2.2.2.2.2.2.2.2.2.2.2.2.1, (congrArg (fun z => z) hfu3.2.2.2.2.2.2.2.2.2.2.2.2.2.2.2.2.2.2.2.2.2.2.2.2.2.2).trans hFS1.2.2.2.2.2.2.2.2.2.2.2.2.2.2.2.2.2.2.2.2.2.2.2.2.2⟩
  have jf19 := J9g_itemMany hJu3
  have je21 : ((b9g_now u3) 1).toInt = ((b9g_now S) 1).toInt := congrArg (fun z => (z 1).toInt) hFu3.1
  have je23 : ((b9g_now u3) 4).toInt = ((b9g_now S) 4).toInt := congrArg (fun z => (z 4).toInt) hFu3.1
  have je25 : ((b9g_now u3) 7).toInt = ((b9g_now S) 7).toInt := congrArg (fun z => (z 7).toInt) hFu3.1
  have je27 : ((b9g_now u3) 8).toInt = ((b9g_now S) 8).toInt := congrArg (fun z => (z 8).toInt) hFu3.1
  have je29 : ((b9g_now u3) 9).toInt = ((b9g_now S) 9).toInt := congrArg (fun z => (z 9).toInt) hFu3.1
  have je31 : ((b9g_now u3) 10).toInt = ((b9g_now S) 10).toInt := congrArg (fun z => (z 10).toInt) hFu3.1
  have je33 : ((b9g_now u3) 12).toInt = ((b9g_now S) 12).toInt := congrArg (fun z => (z 12).toInt) hFu3.1
  have ju33_u3 := hJu3.2.1
  refine sf_X9_isIn hJu3.1 (fun r4 hzr4 hr4_0 => ?_)
  try simp (disch := first | ((try simp (disch := first | ((try simp only [pn]) <;> omega) | fail) only [pn, pq]) <;> omega) | fail) only [pn, pq] at hr4_0
  refine ⟨fun c6 => ?_, fun c6 => ?_⟩
  · try simp (disch := first | ((try simp (disch := first | ((try simp only [pn]) <;> omega) | fail) only [pn, pq]) <;> omega) | fail) only [pn, pq] at c6
    refine ⟨fun c7 => ?_, fun c7 => ?_⟩
    · try simp (disch := first | ((try simp (disch := first | ((try simp only [pn]) <;> omega) | fail) only [pn, pq]) <;> omega) | fail) only [pn, pq] at c7
      refine ⟨fun c8 => ?_, fun c8 => ?_⟩
      · try simp (disch := first | ((try simp (disch := first | ((try simp only [pn]) <;> omega) | fail) only [pn, pq]) <;> omega) | fail) only [pn, pq] at c8
        refine ⟨fun c9 => ?_, fun c9 => ?_⟩
        · try simp (disch := first | ((try simp (disch := first | ((try simp only [pn]) <;> omega) | fail) only [pn, pq]) <;> omega) | fail) only [pn, pq] at c9
          refine ⟨fun c10 => ?_, fun c10 => ?_⟩
          · try simp (disch := first | ((try simp (disch := first | ((try simp only [pn]) <;> omega) | fail) only [pn, pq]) <;> omega) | fail) only [pn, pq] at c10
            exact hq _ _ hJu3 hFu3 
          · try simp (disch := first | ((try simp (disch := first | ((try simp only [pn]) <;> omega) | fail) only [pn, pq]) <;> omega) | fail) only [pn, pq] at c10
            refine ⟨pt_in (by (try simp (disch := first | ((try simp (disch := first | ((try simp only [pn]) <;> omega) | fail) only [pn, pq]) <;> omega) | fail) only [pn, pq]) <;> (intros; (try simp (disch := first | ((try simp (disch := first | ((try simp only [pn]) <;> omega) | fail) only [pn, pq]) <;> omega) | fail) only [pn, pq]) <;> omega)) (by (try simp (disch := first | ((try simp (disch := first | ((try simp only [pn]) <;> omega) | fail) only [pn, pq]) <;> omega) | fail) only [pn, pq]) <;> (intros; (try simp (disch := first | ((try simp (disch := first | ((try simp only [pn]) <;> omega) | fail) only [pn, pq]) <;> omega) | fail) only [pn, pq]) <;> omega)), ?_⟩
            exact hq _ _ hJu3 hFu3 
        · try simp (disch := first | ((try simp (disch := first | ((try simp only [pn]) <;> omega) | fail) only [pn, pq]) <;> omega) | fail) only [pn, pq] at c9
          refine ⟨pt_in (by (try simp (disch := first | ((try simp (disch := first | ((try simp only [pn]) <;> omega) | fail) only [pn, pq]) <;> omega) | fail) only [pn, pq]) <;> (intros; (try simp (disch := first | ((try simp (disch := first | ((try simp only [pn]) <;> omega) | fail) only [pn, pq]) <;> omega) | fail) only [pn, pq]) <;> omega)) (by (try simp (disch := first | ((try simp (disch := first | ((try simp only [pn]) <;> omega) | fail) only [pn, pq]) <;> omega) | fail) only [pn, pq]) <;> (intros; (try simp (disch := first | ((try simp (disch := first | ((try simp only [pn]) <;> omega) | fail) only [pn, pq]) <;> omega) | fail) only [pn, pq]) <;> omega)), ?_⟩
          refine ⟨fun c11 => ?_, fun c11 => ?_⟩
          · try simp (disch := first | ((try simp (disch := first | ((try simp only [pn]) <;> omega) | fail) only [pn, pq]) <;> omega) | fail) only [pn, pq] at c11
            exact hq _ _ hJu3 hFu3 
          · try simp (disch := first | ((try simp (disch := first | ((try simp only [pn]) <;> omega) | fail) only [pn, pq]) <;> omega) | fail) only [pn, pq] at c11
            exact hq _ _ hJu3 hFu3 
      · try simp (disch := first | ((try simp (disch := first | ((try simp only [pn]) <;> omega) | fail) only [pn, pq]) <;> omega) | fail) only [pn, pq] at c8
        refine ⟨pt_in (by (try simp (disch := first | ((try simp (disch := first | ((try simp only [pn]) <;> omega) | fail) only [pn, pq]) <;> omega) | fail) only [pn, pq]) <;> (intros; (try simp (disch := first | ((try simp (disch := first | ((try simp only [pn]) <;> omega) | fail) only [pn, pq]) <;> omega) | fail) only [pn, pq]) <;> omega)) (by (try simp (disch := first | ((try simp (disch := first | ((try simp only [pn]) <;> omega) | fail) only [pn, pq]) <;> omega) | fail) only [pn, pq]) <;> (intros; (try simp (disch := first | ((try simp (disch := first | ((try simp only [pn]) <;> omega) | fail) only [pn, pq]) <;> omega) | fail) only [pn, pq]) <;> omega)), ?_⟩
        refine ⟨fun c12 => ?_, fun c12 => ?_⟩
        · try simp (disch := first | ((try simp (disch := first | ((try simp only [pn]) <;> omega) | fail) only [pn, pq]) <;> omega) | fail) only [pn, pq] at c12
          exact hq _ _ hJu3 hFu3 
        · try simp (disch := first | ((try simp (disch := first | ((try simp only [pn]) <;> omega) | fail) only [pn, pq]) <;> omega) | fail) only [pn, pq] at c12
          exact hq _ _ hJu3 hFu3 
    · try simp (disch := first | ((try simp (disch := first | ((try simp only [pn]) <;> omega) | fail) only [pn, pq]) <;> omega) | fail) only [pn, pq] at c7
      refine ⟨pt_in (by (try simp (disch := first | ((try simp (disch := first | ((try simp only [pn]) <;> omega) | fail) only [pn, pq]) <;> omega) | fail) only [pn, pq]) <;> (intros; (try simp (disch := first | ((try simp (disch := first | ((try simp only [pn]) <;> omega) | fail) only [pn, pq]) <;> omega) | fail) only [pn, pq]) <;> omega)) (by (try simp (disch := first | ((try simp (disch := first | ((try simp only [pn]) <;> omega) | fail) only [pn, pq]) <;> omega) | fail) only [pn, pq]) <;> (intros; (try simp (disch := first | ((try simp (disch := first | ((try simp only [pn]) <;> omega) | fail) only [pn, pq]) <;> omega) | fail) only [pn, pq]) <;> omega)), ?_⟩
      exact hq _ _ hJu3 hFu3 
  · try simp (disch := first | ((try simp (disch := first | ((try simp only [pn]) <;> omega) | fail) only [pn, pq]) <;> omega) | fail) only [pn, pq] at c6
    exact hq _ _ hJu3 hFu3 
def F_X9_one (S u : bT9) : Prop := (b9g_told u) = (b9g_told S) ∧ (b9g_now u) = (b9g_now S) ∧ (b9g_keys u) = (b9g_keys S) ∧ (b9g_lengths u) = (b9g_lengths S) ∧ (b9g_drawn u) = (b9g_drawn S) ∧ (b9g_drawnLength u) = (b9g_drawnLength S) ∧ (b9g_tape u) = (b9g_tape S) ∧ (b9g_taped u) = (b9g_taped S) ∧ (b9g_names u) = (b9g_names S) ∧ (b9g_chosen u) = (b9g_chosen S) ∧ (b9g_common u) = (b9g_common S) ∧ (b9g_beginning u) = (b9g_beginning S) ∧ (b9g_isLaid u) = (b9g_isLaid S) ∧ (b9g_nodeLevel u) = (b9g_nodeLevel S) ∧ (b9g_nodeLeaf u) = (b9g_nodeLeaf S) ∧ (b9g_nodeLeaves u) = (b9g_nodeLeaves S) ∧ (b9g_nodeMany u) = (b9g_nodeMany S) ∧ (b9g_levelMany u) = (b9g_levelMany S) ∧ (b9g_upper u) = (b9g_upper S) ∧ (b9g_upperNodes u) = (b9g_upperNodes S) ∧ (b9g_areNodesLaid u) = (b9g_areNodesLaid S) ∧ (b9g_itemNode u) = (b9g_itemNode S) ∧ (b9g_itemByte u) = (b9g_itemByte S) ∧ (b9g_itemChild u) = (b9g_itemChild S) ∧ (b9g_itemMany u) = (b9g_itemMany S) ∧ (b9g_placeOf u) = (b9g_placeOf S) ∧ (b9g_leafOfPlace u) = (b9g_leafOfPlace S) ∧ (b9g_places u) = (b9g_places S) ∧ (b9g_lowKey u) = (b9g_lowKey S) ∧ (b9g_highKey u) = (b9g_highKey S) ∧ (b9g_lowLength u) = (b9g_lowLength S) ∧ (b9g_highLength u) = (b9g_highLength S) ∧ (b9g_fromKey u) = (b9g_fromKey S) ∧ (b9g_toKey u) = (b9g_toKey S) ∧ (b9g_fromLength u) = (b9g_fromLength S) ∧ (b9g_toLength u) = (b9g_toLength S) ∧ (b9g_rowLong u) = (b9g_rowLong S) ∧ (b9g_laidFor u) = (b9g_laidFor S) ∧ (b9g_signs u) = (b9g_signs S) ∧ (b9g_signMany u) = (b9g_signMany S) ∧ (b9g_hasImage u) = (b9g_hasImage S) ∧ (b9g_images u) = (b9g_images S) ∧ (b9g_keyImages u) = (b9g_keyImages S) ∧ (b9g_lengthImages u) = (b9g_lengthImages S)
set_option maxRecDepth 20000 in
set_option maxHeartbeats 8000000 in
theorem sf_X9_one {S : bT9} (hJ : J9 S) {a1 : Int32} {Q : (bT9) → Prop} (hp0 : (b9g_oneMany S).toInt ≤ 699) (hq : ∀ u : bT9, (J9 u) → F_X9_one S u → ((b9g_oneMany u).toInt = (b9g_oneMany S).toInt + 1) → Q u) : wp_X9_one S a1 Q := by
  unfold wp_X9_one
  have hFS : F_X9_one S S := ⟨rfl, rfl, rfl, rfl, rfl, rfl, rfl, rfl, rfl, rfl, rfl, rfl, rfl, rfl, rfl, rfl, rfl, rfl, rfl, rfl, rfl, rfl, rfl, rfl, rfl, rfl, rfl, rfl, rfl, rfl, rfl, rfl, rfl, rfl, rfl, rfl, rfl, rfl, rfl, rfl, rfl, rfl, rfl, rfl⟩
  have jf1 := J9g_oneMany hJ
  have jf2 := J9g_nodeMany hJ
  have jf3 := J9g_upperNodes hJ
  have jf4 : (-4 ≤ ((b9g_now S) 1).toInt ∧ ((b9g_now S) 1).toInt ≤ 4) ∧ (-3 ≤ ((b9g_now S) 4).toInt ∧ ((b9g_now S) 4).toInt ≤ 252) ∧ (0 ≤ ((b9g_now S) 8).toInt ∧ ((b9g_now S) 8).toInt ≤ 64) ∧ (0 ≤ ((b9g_now S) 9).toInt ∧ ((b9g_now S) 9).toInt ≤ 64) ∧ (0 ≤ ((b9g_now S) 10).toInt ∧ ((b9g_now S) 10).toInt ≤ 16) ∧ (0 ≤ ((b9g_now S) 12).toInt ∧ ((b9g_now S) 12).toInt ≤ 8) := J9g_now hJ
  have ju4_S := hJ.2.1
  have rga1 := pt_rg a1
  refine ⟨pt_in (by (try simp (disch := first | ((try simp (disch := first | ((try simp only [pn]) <;> omega) | fail) only [pn, pq]) <;> omega) | fail) only [pn, pq]) <;> (intros; (try simp (disch := first | ((try simp (disch := first | ((try simp only [pn]) <;> omega) | fail) only [pn, pq]) <;> omega) | fail) only [pn, pq]) <;> omega)) (by (try simp (disch := first | ((try simp (disch := first | ((try simp only [pn]) <;> omega) | fail) only [pn, pq]) <;> omega) | fail) only [pn, pq]) <;> (intros; (try simp (disch := first | ((try simp (disch := first | ((try simp only [pn]) <;> omega) | fail) only [pn, pq]) <;> omega) | fail) only [pn, pq]) <;> omega)), ?_⟩
  intro S1 eS1
  have hJS1 : J9 S1 := by rw [eS1]; exact (J9s_ones hJ)
  have hFS1 : F_X9_one S S1 := by rw [eS1]; exact hFS
  have je5 : ((b9g_oneMany S1)).toInt = ((b9g_oneMany S)).toInt := by rw [eS1]
  have jf6 := J9g_oneMany hJS1
  have je8 : ((b9g_now S1) 1).toInt = ((b9g_now S) 1).toInt := congrArg (fun z => (z 1).toInt) hFS1.2.1
  have je10 : ((b9g_now S1) 4).toInt = ((b9g_now S) 4).toInt := congrArg (fun z => (z 4).toInt) hFS1.2.1
  have je12 : ((b9g_now S1) 7).toInt = ((b9g_now S) 7).toInt := congrArg (fun z => (z 7).toInt) hFS1.2.1
  have je14 : ((b9g_now S1) 8).toInt = ((b9g_now S) 8).toInt := congrArg (fun z => (z 8).toInt) hFS1.2.1
  have je16 : ((b9g_now S1) 9).toInt = ((b9g_now S) 9).toInt := congrArg (fun z => (z 9).toInt) hFS1.2.1
  have je18 : ((b9g_now S1) 10).toInt = ((b9g_now S) 10).toInt := congrArg (fun z => (z 10).toInt) hFS1.2.1
  have je20 : ((b9g_now S1) 12).toInt = ((b9g_now S) 12).toInt := congrArg (fun z => (z 12).toInt) hFS1.2.1
  have je22 : ((b9g_nodeMany S1)).toInt = ((b9g_nodeMany S)).toInt := congrArg (fun z => (z).toInt) hFS1.2.2.2.2.2.2.2.2.2.2.2.2.2.2.2.2.1
  have je24 : ((b9g_upperNodes S1)).toInt = ((b9g_upperNodes S)).toInt := congrArg (fun z => (z).toInt) hFS1.2.2.2.2.2.2.2.2.2.2.2.2.2.2.2.2.2.2.2.1
  have ju24_S1 := hJS1.2.1
  intro S2 eS2
  have hJS2 : J9 S2 := by rw [eS2]; exact (J9s_oneMany hJS1 ⟨(by (try simp (disch := first | ((try simp (disch := first | ((try simp only [pn]) <;> omega) | fail) only [pn, pq]) <;> omega) | fail) only [pn, pq]) <;> (intros; (try simp (disch := first | ((try simp (disch := first | ((try simp only [pn]) <;> omega) | fail) only [pn, pq]) <;> omega) | fail) only [pn, pq]) <;> omega)), (by (try simp (disch := first | ((try simp (disch := first | ((try simp only [pn]) <;> omega) | fail) only [pn, pq]) <;> omega) | fail) only [pn, pq]) <;> (intros; (try simp (disch := first | ((try simp (disch := first | ((try simp only [pn]) <;> omega) | fail) only [pn, pq]) <;> omega) | fail) only [pn, pq]) <;> omega))⟩)
  have hFS2 : F_X9_one S S2 := by rw [eS2]; exact hFS1
  have je25 : ((b9g_oneMany S2)).toInt = (((b9g_oneMany S1) + (1 : Int32))).toInt := by rw [eS2]
  try simp (disch := first | ((try simp (disch := first | ((try simp only [pn]) <;> omega) | fail) only [pn, pq]) <;> omega) | fail) only [pn, pq] at je25
  have jf26 := J9g_oneMany hJS2
  have je28 : ((b9g_now S2) 1).toInt = ((b9g_now S) 1).toInt := congrArg (fun z => (z 1).toInt) hFS2.2.1
  have je30 : ((b9g_now S2) 4).toInt = ((b9g_now S) 4).toInt := congrArg (fun z => (z 4).toInt) hFS2.2.1
  have je32 : ((b9g_now S2) 7).toInt = ((b9g_now S) 7).toInt := congrArg (fun z => (z 7).toInt) hFS2.2.1
  have je34 : ((b9g_now S2) 8).toInt = ((b9g_now S) 8).toInt := congrArg (fun z => (z 8).toInt) hFS2.2.1
  have je36 : ((b9g_now S2) 9).toInt = ((b9g_now S) 9).toInt := congrArg (fun z => (z 9).toInt) hFS2.2.1
  have je38 : ((b9g_now S2) 10).toInt = ((b9g_now S) 10).toInt := congrArg (fun z => (z 10).toInt) hFS2.2.1
  have je40 : ((b9g_now S2) 12).toInt = ((b9g_now S) 12).toInt := congrArg (fun z => (z 12).toInt) hFS2.2.1
  have je42 : ((b9g_nodeMany S2)).toInt = ((b9g_nodeMany S)).toInt := congrArg (fun z => (z).toInt) hFS2.2.2.2.2.2.2.2.2.2.2.2.2.2.2.2.2.1
  have je44 : ((b9g_upperNodes S2)).toInt = ((b9g_upperNodes S)).toInt := congrArg (fun z => (z).toInt) hFS2.2.2.2.2.2.2.2.2.2.2.2.2.2.2.2.2.2.2.2.1
  have ju44_S2 := hJS2.2.1
  exact hq _ hJS2 hFS2 (by (try simp (disch := first | ((try simp (disch := first | ((try simp only [pn]) <;> omega) | fail) only [pn, pq]) <;> omega) | fail) only [pn, pq]) <;> (intros; (try simp (disch := first | ((try simp (disch := first | ((try simp only [pn]) <;> omega) | fail) only [pn, pq]) <;> omega) | fail) only [pn, pq]) <;> omega))
def F_X9_onesOfNode (S u : bT9) : Prop := (b9g_told u) = (b9g_told S) ∧ (b9g_now u) = (b9g_now S) ∧ (b9g_keys u) = (b9g_keys S) ∧ (b9g_lengths u) = (b9g_lengths S) ∧ (b9g_drawn u) = (b9g_drawn S) ∧ (b9g_drawnLength u) = (b9g_drawnLength S) ∧ (b9g_tape u) = (b9g_tape S) ∧ (b9g_taped u) = (b9g_taped S) ∧ (b9g_names u) = (b9g_names S) ∧ (b9g_chosen u) = (b9g_chosen S) ∧ (b9g_common u) = (b9g_common S) ∧ (b9g_beginning u) = (b9g_beginning S) ∧ (b9g_isLaid u) = (b9g_isLaid S) ∧ (b9g_nodeLevel u) = (b9g_nodeLevel S) ∧ (b9g_nodeLeaf u) = (b9g_nodeLeaf S) ∧ (b9g_nodeLeaves u) = (b9g_nodeLeaves S) ∧ (b9g_nodeMany u) = (b9g_nodeMany S) ∧ (b9g_levelMany u) = (b9g_levelMany S) ∧ (b9g_upper u) = (b9g_upper S) ∧ (b9g_upperNodes u) = (b9g_upperNodes S) ∧ (b9g_areNodesLaid u) = (b9g_areNodesLaid S) ∧ (b9g_itemNode u) = (b9g_itemNode S) ∧ (b9g_itemByte u) = (b9g_itemByte S) ∧ (b9g_itemChild u) = (b9g_itemChild S) ∧ (b9g_itemMany u) = (b9g_itemMany S) ∧ (b9g_placeOf u) = (b9g_placeOf S) ∧ (b9g_leafOfPlace u) = (b9g_leafOfPlace S) ∧ (b9g_places u) = (b9g_places S) ∧ (b9g_lowKey u) = (b9g_lowKey S) ∧ (b9g_highKey u) = (b9g_highKey S) ∧ (b9g_lowLength u) = (b9g_lowLength S) ∧ (b9g_highLength u) = (b9g_highLength S) ∧ (b9g_fromKey u) = (b9g_fromKey S) ∧ (b9g_toKey u) = (b9g_toKey S) ∧ (b9g_fromLength u) = (b9g_fromLength S) ∧ (b9g_toLength u) = (b9g_toLength S) ∧ (b9g_rowLong u) = (b9g_rowLong S) ∧ (b9g_laidFor u) = (b9g_laidFor S) ∧ (b9g_signs u) = (b9g_signs S) ∧ (b9g_signMany u) = (b9g_signMany S) ∧ (b9g_hasImage u) = (b9g_hasImage S) ∧ (b9g_images u) = (b9g_images S) ∧ (b9g_keyImages u) = (b9g_keyImages S) ∧ (b9g_lengthImages u) = (b9g_lengthImages S)
set_option maxRecDepth 20000 in
set_option maxHeartbeats 8000000 in
theorem sf_X9_onesOfNode {S : bT9} (hJ : J9 S) {a1 : Int32} {Q : (bT9) → Prop} (hp0 : 0 ≤ a1.toInt) (hp1 : a1.toInt < (b9g_nodeMany S).toInt) (hp2 : (b9g_oneMany S).toInt ≤ 600) (hq : ∀ u : bT9, (J9 u) → F_X9_onesOfNode S u → ((b9g_oneMany u).toInt ≤ (b9g_oneMany S).toInt + (b9g_nodeLeaves S a1.toNatClampNeg).toInt) → Q u) : wp_X9_onesOfNode S a1 Q := by
  unfold wp_X9_onesOfNode
  have hFS : F_X9_onesOfNode S S := ⟨rfl, rfl, rfl, rfl, rfl, rfl, rfl, rfl, rfl, rfl, rfl, rfl, rfl, rfl, rfl, rfl, rfl, rfl, rfl, rfl, rfl, rfl, rfl, rfl, rfl, rfl, rfl, rfl, rfl, rfl, rfl, rfl, rfl, rfl, rfl, rfl, rfl, rfl, rfl, rfl, rfl, rfl, rfl, rfl⟩
  have jf1 := J9g_oneMany hJ
  have jf2 := J9g_nodeMany hJ
  have jf3 := J9g_upperNodes hJ
  have jf4 : (-4 ≤ ((b9g_now S) 1).toInt ∧ ((b9g_now S) 1).toInt ≤ 4) ∧ (-3 ≤ ((b9g_now S) 4).toInt ∧ ((b9g_now S) 4).toInt ≤ 252) ∧ (0 ≤ ((b9g_now S) 8).toInt ∧ ((b9g_now S) 8).toInt ≤ 64) ∧ (0 ≤ ((b9g_now S) 9).toInt ∧ ((b9g_now S) 9).toInt ≤ 64) ∧ (0 ≤ ((b9g_now S) 10).toInt ∧ ((b9g_now S) 10).toInt ≤ 16) ∧ (0 ≤ ((b9g_now S) 12).toInt ∧ ((b9g_now S) 12).toInt ≤ 8) := J9g_now hJ
  have ju4_S := hJ.2.1
  have rga1 := pt_rg a1
  have jx := ND_at (K9g_ND hJ.1) hp0 hp1
  refine ⟨fun c1 => ?_, fun c1 => ?_⟩
  · try simp (disch := first | ((try simp (disch := first | ((try simp only [pn]) <;> omega) | fail) only [pn, pq]) <;> omega) | fail) only [pn, pq] at c1
    refine ⟨pt_in (by (try simp (disch := first | ((try simp (disch := first | ((try simp only [pn]) <;> omega) | fail) only [pn, pq]) <;> omega) | fail) only [pn, pq]) <;> (intros; (try simp (disch := first | ((try simp (disch := first | ((try simp only [pn]) <;> omega) | fail) only [pn, pq]) <;> omega) | fail) only [pn, pq]) <;> omega)) (by (try simp (disch := first | ((try simp (disch := first | ((try simp only [pn]) <;> omega) | fail) only [pn, pq]) <;> omega) | fail) only [pn, pq]) <;> (intros; (try simp (disch := first | ((try simp (disch := first | ((try simp only [pn]) <;> omega) | fail) only [pn, pq]) <;> omega) | fail) only [pn, pq]) <;> omega)), ?_⟩
    have jr5 := ND_at (J9g_ND hJ) (x := a1) (by (try simp (disch := first | ((try simp (disch := first | ((try simp only [pn]) <;> omega) | fail) only [pn, pq]) <;> omega) | fail) only [pn, pq]) <;> (intros; (try simp (disch := first | ((try simp (disch := first | ((try simp only [pn]) <;> omega) | fail) only [pn, pq]) <;> omega) | fail) only [pn, pq]) <;> omega)) (by (try simp (disch := first | ((try simp (disch := first | ((try simp only [pn]) <;> omega) | fail) only [pn, pq]) <;> omega) | fail) only [pn, pq]) <;> (intros; (try simp (disch := first | ((try simp (disch := first | ((try simp only [pn]) <;> omega) | fail) only [pn, pq]) <;> omega) | fail) only [pn, pq]) <;> omega))
    try simp (disch := first | ((try simp (disch := first | ((try simp only [pn]) <;> omega) | fail) only [pn, pq]) <;> omega) | fail) only [pn, pq] at jr5
    refine ⟨fun n x1q2 x2q2 Sq2 => (J9 Sq2) ∧ (F_X9_onesOfNode S Sq2) ∧ (x1q2 = a1) ∧ ((b9g_nodeLeaf S (x1q2).toNatClampNeg).toInt ≤ (x2q2).toInt) ∧ ((x2q2).toInt ≤ (b9g_nodeLeaf S (x1q2).toNatClampNeg).toInt + (b9g_nodeLeaves S (x1q2).toNatClampNeg).toInt) ∧ ((b9g_oneMany Sq2).toInt ≤ (b9g_oneMany S).toInt + (x2q2).toInt - (b9g_nodeLeaf S (x1q2).toNatClampNeg).toInt) ∧ n = ((b9g_nodeLeaf S (x1q2).toNatClampNeg).toInt + (b9g_nodeLeaves S (x1q2).toNatClampNeg).toInt - (x2q2).toInt).toNat, ⟨_, hJ, hFS, rfl, (by (try simp (disch := first | ((try simp (disch := first | ((try simp only [pn]) <;> omega) | fail) only [pn, pq]) <;> omega) | fail) only [pn, pq]) <;> (intros; (try simp (disch := first | ((try simp (disch := first | ((try simp only [pn]) <;> omega) | fail) only [pn, pq]) <;> omega) | fail) only [pn, pq]) <;> omega)), (by (try simp (disch := first | ((try simp (disch := first | ((try simp only [pn]) <;> omega) | fail) only [pn, pq]) <;> omega) | fail) only [pn, pq]) <;> (intros; (try simp (disch := first | ((try simp (disch := first | ((try simp only [pn]) <;> omega) | fail) only [pn, pq]) <;> omega) | fail) only [pn, pq]) <;> omega)), (by (try simp (disch := first | ((try simp (disch := first | ((try simp only [pn]) <;> omega) | fail) only [pn, pq]) <;> omega) | fail) only [pn, pq]) <;> (intros; (try simp (disch := first | ((try simp (disch := first | ((try simp only [pn]) <;> omega) | fail) only [pn, pq]) <;> omega) | fail) only [pn, pq]) <;> omega)), rfl⟩, ?_⟩
    rintro n3 x1q2 x2q2 Sq2 ⟨hJSq2, hFSq2, hkq2_0, hiq2_0, hiq2_1, hiq2_2, hn3⟩
    subst hkq2_0
    have rgx1q2 := pt_rg x1q2
    have rgx2q2 := pt_rg x2q2
    unfold wp_X9_onesOfNode_29b
    have je7 : ((b9g_chosen Sq2)).toInt = ((b9g_chosen S)).toInt := congrArg (fun z => (z).toInt) hFSq2.2.2.2.2.2.2.2.2.2.1
    have je9 : ((b9g_now Sq2) 1).toInt = ((b9g_now S) 1).toInt := congrArg (fun z => (z 1).toInt) hFSq2.2.1
    have je11 : ((b9g_now Sq2) 4).toInt = ((b9g_now S) 4).toInt := congrArg (fun z => (z 4).toInt) hFSq2.2.1
    have je13 : ((b9g_now Sq2) 7).toInt = ((b9g_now S) 7).toInt := congrArg (fun z => (z 7).toInt) hFSq2.2.1
    have je15 : ((b9g_now Sq2) 8).toInt = ((b9g_now S) 8).toInt := congrArg (fun z => (z 8).toInt) hFSq2.2.1
    have je17 : ((b9g_now Sq2) 9).toInt = ((b9g_now S) 9).toInt := congrArg (fun z => (z 9).toInt) hFSq2.2.1
    have je19 : ((b9g_now Sq2) 10).toInt = ((b9g_now S) 10).toInt := congrArg (fun z => (z 10).toInt) hFSq2.2.1
    have je21 : ((b9g_now Sq2) 12).toInt = ((b9g_now S) 12).toInt := congrArg (fun z => (z 12).toInt) hFSq2.2.1
    have jf22 := J9g_oneMany hJSq2
    have je24 : ((b9g_nodeMany Sq2)).toInt = ((b9g_nodeMany S)).toInt := congrArg (fun z => (z).toInt) hFSq2.2.2.2.2.2.2.2.2.2.2.2.2.2.2.2.2.1
    have je26 : ((b9g_upperNodes Sq2)).toInt = ((b9g_upperNodes S)).toInt := congrArg (fun z => (z).toInt) hFSq2.2.2.2.2.2.2.2.2.2.2.2.2.2.2.2.2.2.2.2.1
    have qSq2_nodeLeaf : b9g_nodeLeaf Sq2 = b9g_nodeLeaf S := hFSq2.2.2.2.2.2.2.2.2.2.2.2.2.2.2.1
    have qSq2_nodeLeaves : b9g_nodeLeaves Sq2 = b9g_nodeLeaves S := hFSq2.2.2.2.2.2.2.2.2.2.2.2.2.2.2.2.1
    have ju26_Sq2 := hJSq2.2.1
    refine sf_X9_lastOf hJSq2.1 (by (try simp (disch := first | ((try simp (disch := first | ((try simp only [pn]) <;> omega) | fail) only [pn, pq]) <;> omega) | fail) only [pn, pq, qSq2_nodeLeaf, qSq2_nodeLeaves]) <;> (intros; (try simp (disch := first | ((try simp (disch := first | ((try simp only [pn]) <;> omega) | fail) only [pn, pq]) <;> omega) | fail) only [pn, pq, qSq2_nodeLeaf, qSq2_nodeLeaves]) <;> omega)) (by (try simp (disch := first | ((try simp (disch := first | ((try simp only [pn]) <;> omega) | fail) only [pn, pq]) <;> omega) | fail) only [pn, pq, qSq2_nodeLeaf, qSq2_nodeLeaves]) <;> (intros; (try simp (disch := first | ((try simp (disch := first | ((try simp only [pn]) <;> omega) | fail) only [pn, pq]) <;> omega) | fail) only [pn, pq, qSq2_nodeLeaf, qSq2_nodeLeaves]) <;> omega)) (fun r4 hr4_0 hr4_1 => ?_)
    have rgr4 := pt_rg r4
    try simp (disch := first | ((try simp (disch := first | ((try simp only [pn]) <;> omega) | fail) only [pn, pq]) <;> omega) | fail) only [pn, pq, qSq2_nodeLeaf, qSq2_nodeLeaves] at hr4_0
    try simp (disch := first | ((try simp (disch := first | ((try simp only [pn]) <;> omega) | fail) only [pn, pq]) <;> omega) | fail) only [pn, pq, qSq2_nodeLeaf, qSq2_nodeLeaves] at hr4_1
    refine ⟨fun c6 => ?_, fun c6 => ?_⟩
    · try simp (disch := first | ((try simp (disch := first | ((try simp only [pn]) <;> omega) | fail) only [pn, pq]) <;> omega) | fail) only [pn, pq, qSq2_nodeLeaf, qSq2_nodeLeaves] at c6
      exact hq _ hJSq2 hFSq2 (by (try simp (disch := first | ((try simp (disch := first | ((try simp only [pn]) <;> omega) | fail) only [pn, pq]) <;> omega) | fail) only [pn, pq, qSq2_nodeLeaf, qSq2_nodeLeaves]) <;> (intros; (try simp (disch := first | ((try simp (disch := first | ((try simp only [pn]) <;> omega) | fail) only [pn, pq]) <;> omega) | fail) only [pn, pq, qSq2_nodeLeaf, qSq2_nodeLeaves]) <;> omega))
    · try simp (disch := first | ((try simp (disch := first | ((try simp only [pn]) <;> omega) | fail) only [pn, pq]) <;> omega) | fail) only [pn, pq, qSq2_nodeLeaf, qSq2_nodeLeaves] at c6
      refine sf_X9_isBranch hJSq2.1 (by (try simp (disch := first | ((try simp (disch := first | ((try simp only [pn]) <;> omega) | fail) only [pn, pq]) <;> omega) | fail) only [pn, pq, qSq2_nodeLeaf, qSq2_nodeLeaves]) <;> (intros; (try simp (disch := first | ((try simp (disch := first | ((try simp only [pn]) <;> omega) | fail) only [pn, pq]) <;> omega) | fail) only [pn, pq, qSq2_nodeLeaf, qSq2_nodeLeaves]) <;> omega)) (by (try simp (disch := first | ((try simp (disch := first | ((try simp only [pn]) <;> omega) | fail) only [pn, pq]) <;> omega) | fail) only [pn, pq, qSq2_nodeLeaf, qSq2_nodeLeaves]) <;> (intros; (try simp (disch := first | ((try simp (disch := first | ((try simp only [pn]) <;> omega) | fail) only [pn, pq]) <;> omega) | fail) only [pn, pq, qSq2_nodeLeaf, qSq2_nodeLeaves]) <;> omega)) (by (try simp (disch := first | ((try simp (disch := first | ((try simp only [pn]) <;> omega) | fail) only [pn, pq]) <;> omega) | fail) only [pn, pq, qSq2_nodeLeaf, qSq2_nodeLeaves]) <;> (intros; (try simp (disch := first | ((try simp (disch := first | ((try simp only [pn]) <;> omega) | fail) only [pn, pq]) <;> omega) | fail) only [pn, pq, qSq2_nodeLeaf, qSq2_nodeLeaves]) <;> omega)) (by (try simp (disch := first | ((try simp (disch := first | ((try simp only [pn]) <;> omega) | fail) only [pn, pq]) <;> omega) | fail) only [pn, pq, qSq2_nodeLeaf, qSq2_nodeLeaves]) <;> (intros; (try simp (disch := first | ((try simp (disch := first | ((try simp only [pn]) <;> omega) | fail) only [pn, pq]) <;> omega) | fail) only [pn, pq, qSq2_nodeLeaf, qSq2_nodeLeaves]) <;> omega)) (fun r7 hzr7 hr7_0 => ?_)
      try simp (disch := first | ((try simp (disch := first | ((try simp only [pn]) <;> omega) | fail) only [pn, pq]) <;> omega) | fail) only [pn, pq, qSq2_nodeLeaf, qSq2_nodeLeaves] at hr7_0
      refine ⟨fun c9 => ?_, fun c9 => ?_⟩
      · try simp (disch := first | ((try simp (disch := first | ((try simp only [pn]) <;> omega) | fail) only [pn, pq]) <;> omega) | fail) only [pn, pq, qSq2_nodeLeaf, qSq2_nodeLeaves] at c9
        unfold wp_X9_onesOfNode_89
        refine ⟨_, ?_, ?_, ?_, ?_, ?_, ?_, ?_, rfl⟩
        · (try simp (disch := first | ((try simp (disch := first | ((try simp only [pn]) <;> omega) | fail) only [pn, pq]) <;> omega) | fail) only [pn, pq, qSq2_nodeLeaf, qSq2_nodeLeaves]) <;> (intros; (try simp (disch := first | ((try simp (disch := first | ((try simp only [pn]) <;> omega) | fail) only [pn, pq]) <;> omega) | fail) only [pn, pq, qSq2_nodeLeaf, qSq2_nodeLeaves]) <;> omega)
        · exact hJSq2
        · exact hFSq2
        · first | rfl | assumption
        · (try simp (disch := first | ((try simp (disch := first | ((try simp only [pn]) <;> omega) | fail) only [pn, pq]) <;> omega) | fail) only [pn, pq, qSq2_nodeLeaf, qSq2_nodeLeaves]) <;> (intros; (try simp (disch := first | ((try simp (disch := first | ((try simp only [pn]) <;> omega) | fail) only [pn, pq]) <;> omega) | fail) only [pn, pq, qSq2_nodeLeaf, qSq2_nodeLeaves]) <;> omega)
        · (try simp (disch := first | ((try simp (disch := first | ((try simp only [pn]) <;> omega) | fail) only [pn, pq]) <;> omega) | fail) only [pn, pq, qSq2_nodeLeaf, qSq2_nodeLeaves]) <;> (intros; (try simp (disch := first | ((try simp (disch := first | ((try simp only [pn]) <;> omega) | fail) only [pn, pq]) <;> omega) | fail) only [pn, pq, qSq2_nodeLeaf, qSq2_nodeLeaves]) <;> omega)
        · (try simp (disch := first | ((try simp (disch := first | ((try simp only [pn]) <;> omega) | fail) only [pn, pq]) <;> omega) | fail) only [pn, pq, qSq2_nodeLeaf, qSq2_nodeLeaves]) <;> (intros; (try simp (disch := first | ((try simp (disch := first | ((try simp only [pn]) <;> omega) | fail) only [pn, pq]) <;> omega) | fail) only [pn, pq, qSq2_nodeLeaf, qSq2_nodeLeaves]) <;> omega)
      · try simp (disch := first | ((try simp (disch := first | ((try simp only [pn]) <;> omega) | fail) only [pn, pq]) <;> omega) | fail) only [pn, pq, qSq2_nodeLeaf, qSq2_nodeLeaves] at c9
        refine ⟨fun c10 => ?_, fun c10 => ?_⟩
        · try simp (disch := first | ((try simp (disch := first | ((try simp only [pn]) <;> omega) | fail) only [pn, pq]) <;> omega) | fail) only [pn, pq, qSq2_nodeLeaf, qSq2_nodeLeaves] at c10
          unfold wp_X9_onesOfNode_64
          refine sf_X9_key hJSq2.1 (by (try simp (disch := first | ((try simp (disch := first | ((try simp only [pn]) <;> omega) | fail) only [pn, pq]) <;> omega) | fail) only [pn, pq, qSq2_nodeLeaf, qSq2_nodeLeaves]) <;> (intros; (try simp (disch := first | ((try simp (disch := first | ((try simp only [pn]) <;> omega) | fail) only [pn, pq]) <;> omega) | fail) only [pn, pq, qSq2_nodeLeaf, qSq2_nodeLeaves]) <;> omega)) (by (try simp (disch := first | ((try simp (disch := first | ((try simp only [pn]) <;> omega) | fail) only [pn, pq]) <;> omega) | fail) only [pn, pq, qSq2_nodeLeaf, qSq2_nodeLeaves]) <;> (intros; (try simp (disch := first | ((try simp (disch := first | ((try simp only [pn]) <;> omega) | fail) only [pn, pq]) <;> omega) | fail) only [pn, pq, qSq2_nodeLeaf, qSq2_nodeLeaves]) <;> omega)) (fun r11 hr11_0 => ?_)
          try simp (disch := first | ((try simp (disch := first | ((try simp only [pn]) <;> omega) | fail) only [pn, pq]) <;> omega) | fail) only [pn, pq, qSq2_nodeLeaf, qSq2_nodeLeaves] at hr11_0
          refine ⟨pt_in (by (try simp (disch := first | ((try simp (disch := first | ((try simp only [pn]) <;> omega) | fail) only [pn, pq]) <;> omega) | fail) only [pn, pq]) <;> (intros; (try simp (disch := first | ((try simp (disch := first | ((try simp only [pn]) <;> omega) | fail) only [pn, pq]) <;> omega) | fail) only [pn, pq]) <;> omega)) (by (try simp (disch := first | ((try simp (disch := first | ((try simp only [pn]) <;> omega) | fail) only [pn, pq]) <;> omega) | fail) only [pn, pq]) <;> (intros; (try simp (disch := first | ((try simp (disch := first | ((try simp only [pn]) <;> omega) | fail) only [pn, pq]) <;> omega) | fail) only [pn, pq]) <;> omega)), ?_⟩
          have jr27 := ND_at (J9g_ND hJSq2) (x := x1q2) (by (try simp (disch := first | ((try simp (disch := first | ((try simp only [pn]) <;> omega) | fail) only [pn, pq]) <;> omega) | fail) only [pn, pq, qSq2_nodeLeaf, qSq2_nodeLeaves]) <;> (intros; (try simp (disch := first | ((try simp (disch := first | ((try simp only [pn]) <;> omega) | fail) only [pn, pq]) <;> omega) | fail) only [pn, pq, qSq2_nodeLeaf, qSq2_nodeLeaves]) <;> omega)) (by (try simp (disch := first | ((try simp (disch := first | ((try simp only [pn]) <;> omega) | fail) only [pn, pq]) <;> omega) | fail) only [pn, pq, qSq2_nodeLeaf, qSq2_nodeLeaves]) <;> (intros; (try simp (disch := first | ((try simp (disch := first | ((try simp only [pn]) <;> omega) | fail) only [pn, pq]) <;> omega) | fail) only [pn, pq, qSq2_nodeLeaf, qSq2_nodeLeaves]) <;> omega))
          try simp (disch := first | ((try simp (disch := first | ((try simp only [pn]) <;> omega) | fail) only [pn, pq]) <;> omega) | fail) only [pn, pq, qSq2_nodeLeaf, qSq2_nodeLeaves] at jr27
          refine sf_X9_byteOf hJSq2.1 (fun r13  => ?_)
          have rgr13 := pt_rg r13
          refine sf_X9_one hJSq2 (by (try simp (disch := first | ((try simp (disch := first | ((try simp only [pn]) <;> omega) | fail) only [pn, pq]) <;> omega) | fail) only [pn, pq, qSq2_nodeLeaf, qSq2_nodeLeaves]) <;> (intros; (try simp (disch := first | ((try simp (disch := first | ((try simp only [pn]) <;> omega) | fail) only [pn, pq]) <;> omega) | fail) only [pn, pq, qSq2_nodeLeaf, qSq2_nodeLeaves]) <;> omega)) (fun u16 hJu16 hfu16 hr15_0 => ?_)
          have hFu16 : F_X9_onesOfNode S u16 := ⟨(congrArg (fun z => z) hfu16.1).trans hFSq2.1, (congrArg (fun z => z) hfu16.2.1).trans hFSq2.2.1, (congrArg (fun z => z) hfu16.2.2.1).trans hFSq2.2.2.1, (congrArg (fun z => z) hfu16.2.2.2.1).trans hFSq2.2.2.2.1, (congrArg (fun z => z) hfu16.2.2.2.2.1).trans hFSq2.2.2.2.2.1, (congrArg (fun z => z) hfu16.2.2.2.2.2.1).trans hFSq2.2.2.2.2.2.1, (congrArg (fun z => z) hfu16.2.2.2.2.2.2.1).trans hFSq2.2.2.2.2.2.2.1, (congrArg (fun z => z) hfu16.2.2.2.2.2.2.2.1).trans hFSq2.2.2.2.2.2.2.2.1, (congrArg (fun z => z) hfu16.2.2.2.2.2.2.2.2.1).trans hFSq2.2.2.2.2.2.2.2.2.1, (congrArg (fun z => z) hfu16.2.2.2.2.2.2.2.2.2.1).trans hFSq2.2.2.2.2.2.2.2.2.2.1, (congrArg (fun z => z) hfu16.2.2.2.2.2.2.2.2.2.2.1).trans hFSq2.2.2.2.2.2.2.2.2.2.2.1, (congrArg (fun z => z) hfu16.2.2.2.2.2.2.2.2.2.2.2.1).trans hFSq2.2.2.2.2.2.2.2.2.2.2.2.1, (congrArg (fun z => z) hfu16.2.2.2.2.2.2.2.2.2.2.2.2.1).trans hFSq2.2.2.2.2.2.2.2.2.2.2.2.2.1, (congrArg (fun z => z) hfu16.2.2.2.2.2.2.2.2.2.2.2.2.2.1).trans hFSq2.2.2.2.2.2.2.2.2.2.2.2.2.2.1, (congrArg (fun z => z) hfu16.2.2.2.2.2.2.2.2.2.2.2.2.2.2.1).trans hFSq2.2.2.2.2.2.2.2.2.2.2.2.2.2.2.1, (congrArg (fun z => z) hfu16.2.2.2.2.2.2.2.2.2.2.2.2.2.2.2.1).trans hFSq2.2.2.2.2.2.2.2.2.2.2.2.2.2.2.2.1, (congrArg (fun z => z) hfu16.2.2.2.2.2.2.2.2.2.2.2.2.2.2.2.2.1).trans hFSq2.2.2.2.2.2.2.2.2.2.2.2.2.2.2.2.2.1, (congrArg (fun z => z) hfu16.2.2.2.2.2.2.2.2.2.2.2.2.2.2.2.2.2.1).trans hFSq2.2.2.2.2.2.2.2.2.2.2.2.2.2.2.2.2.2.1, (congrArg (fun z => z) hfu16.2.2.2.2.2.2.2.2.2.2.2.2.2.2.2.2.2.2.1).trans hFSq2.2.2.2.2.2.2.2.2.2.2.2.2.2.2.2.2.2.2.1, (congrArg (fun z => z) hfu16.2.2.2.2.2.2.2.2.2.2.2.2.2.2.2.2.2.2.2.1).trans hFSq2.2.2.2.2.2.2.2.2.2.2.2.2.2.2.2.2.2.2.2.1, (congrArg (fun z => z) hfu16.2.2.2.2.2.2.2.2.2.2.2.2.2.2.2.2.2.2.2.2.1).trans hFSq2.2.2.2.2.2.2.2.2.2.2.2.2.2.2.2.2.2.2.2.2.1, (congrArg (fun z => z) hfu16.2.2.2.2.2.2.2.2.2.2.2.2.2.2.2.2.2.2.2.2.2.1).trans hFSq2.2.2.2.2.2.2.2.2.2.2.2.2.2.2.2.2.2.2.2.2.2.1, (congrArg (fun z => z) hfu16.2.2.2.2.2.2.2.2.2.2.2.2.2.2.2.2.2.2.2.2.2.2.1).trans hFSq2.2.2.2.2.2.2.2.2.2.2.2.2.2.2.2.2.2.2.2.2.2.2.1, (congrArg (fun z => z) hfu16.2.2.2.2.2.2.2.2.2.2.2.2.2.2.2.2.2.2.2.2.2.2.2.1).trans hFSq2.2.2.2.2.2.2.2.2.2.2.2.2.2.2.2.2.2.2.2.2.2.2.2.1, (congrArg (fun z => z) hfu16.2.2.2.2.2.2.2.2.2.2.2.2.2.2.2.2.2.2.2.2.2.2.2.2.1).trans hFSq2.2.2.2.2.2.2.2.2.2.2.2.2.2.2.2.2.2.2.2.2.2.2.2.2.1, (congrArg (fun z => z) hfu16.2.2.2.2.2.2.2.2.2.2.2.2.2.2.2.2.2.2.2.2.2.2.2.2.2.1).trans hFSq2.2.2.2.2.2.2.2.2.2.2.2.2.2.2.2.2.2.2.2.2.2.2.2.2.2.1, (congrArg (fun z => z) hfu16.2.2.2.2.2.2.2.2.2.2.2.2.2.2.2.2.2.2.2.2.2.2.2.2.2.2.1).trans hFSq2.2.2.2.2.2.2.2.2.2.2.2.2.2.2.2.2.2.2.2.2.2.2.2.2.2.2.1, (congrArg (fun z => z) hfu16.2.2.2.2.2.2.2.2.2.2.2.2.2.2.2.2.2.2.2.2.2.2.2.2.2.2.2.1).trans hFSq2.2.2.2.2.2.2.2.2.2.2.2.2.2.2.2.2.2.2.2.2.2.2.2.2.2.2.2.1, (congrArg (fun z => z) hfu16.2.2.2.2.2.2.2.2.2.2.2.2.2.2.2.2.2.2.2.2.2.2.2.2.2.2.2.2.1).trans hFSq2.2.2.2.2.2.2.2.2.2.2.2.2.2.2.2.2.2.2.2.2.2.2.2.2.2.2.2.2.1, (congrArg (fun z => z) hfu16.2.2.2.2.2.2.2.2.2.2.2.2.2.2.2.2.2.2.2.2.2.2.2.2.2.2.2.2.2.1).trans hFSq2.2.2.2.2.2.2.2.2.2.2.2.2.2.2.2.2.2.2.2.2.2.2.2.2.2.2.2.2.2.1, (congrArg (fun z => z) hfu16.2.2.2.2.2.2.2.2.2.2.2.2.2.2.2.2.2.2.2.2.2.2.2.2.2.2.2.2.2.2.1).trans hFSq2.2.2.2.2.2.2.2.2.2.2.2.2.2.2.2.2.2.2.2.2.2.2.2.2.2.2.2.2.2.2.1, (congrArg (fun z => z) hfu16.2.2.2.2.2.2.2.2.2.2.2.2.2.2.2.2.2.2.2.2.2.2.2.2.2.2.2.2.2.2.2.1).trans hFSq2.2.2.2.2.2.2.2.2.2.2.2.2.2.2.2.2.2.2.2.2.2.2.2.2.2.2.2.2.2.2.2.1, (congrArg (fun z => z) hfu16.2.2.2.2.2.2.2.2.2.2.2.2.2.2.2.2.2.2.2.2.2.2.2.2.2.2.2.2.2.2.2.2.1).trans hFSq2.2.2.2.2.2.2.2.2.2.2.2.2.2.2.2.2.2.2.2.2.2.2.2.2.2.2.2.2.2.2.2.2.1, (congrArg (fun z => z) hfu16.2.2.2.2.2.2.2.2.2.2.2.2.2.2.2.2.2.2.2.2.2.2.2.2.2.2.2.2.2.2.2.2.2.1).trans hFSq2.2.2.2.2.2.2.2.2.2.2.2.2.2.2.2.2.2.2.2.2.2.2.2.2.2.2.2.2.2.2.2.2.2.1, (congrArg (fun z => z) hfu16.2.2.2.2.2.2.2.2.2.2.2.2.2.2.2.2.2.2.2.2.2.2.2.2.2.2.2.2.2.2.2.2.2.2.1).trans hFSq2.2.2.2.2.2.2.2.2.2.2.2.2.2.2.2.2.2.2.2.2.2.2.2.2.2.2.2.2.2.2.2.2.2.2.1, (congrArg (fun z => z) hfu16.2.2.2.2.2.2.2.2.2.2.2.2.2.2.2.2.2.2.2.2.2.2.2.2.2.2.2.2.2.2.2.2.2.2.2.1).trans hFSq2.2.2.2.2.2.2.2.2.2.2.2.2.2.2.2.2.2.2.2.2.2.2.2.2.2.2.2.2.2.2.2.2.2.2.2.1, (congrArg (fun z => z) hfu16.2.2.2.2.2.2.2.2.2.2.2.2.2.2.2.2.2.2.2.2.2.2.2.2.2.2.2.2.2.2.2.2.2.2.2.2.1).trans hFSq2.2.2.2.2.2.2.2.2.2.2.2.2.2.2.2.2.2.2.2.2.2.2.2.2.2.2.2.2.2.2.2.2.2.2.2.2.1, (congrArg (fun z => z) hfu16.2.2.2.2.2.2.2.2.2.2.2.2.2.2.2.2.2.2.2.2.2.2.2.2.2.2.2.2.2.2.2.2.2.2.2.2.2.1).trans hFSq2.2.2.2.2.2.2.2.2.2.2.2.2.2.2.2.2.2.2.2.2.2.2.2.2.2.2.2.2.2.2.2.2.2.2.2.2.2.1, (congrArg (fun z => z) hfu16.2.2.2.2.2.2.2.2.2.2.2.2.2.2.2.2.2.2.2.2.2.2.2.2.2.2.2.2.2.2.2.2.2.2.2.2.2.2.1).trans hFSq2.2.2.2.2.2.2.2.2.2.2.2.2.2.2.2.2.2.2.2.2.2.2.2.2.2.2.2.2.2.2.2.2.2.2.2.2.2.2.1, (congrArg (fun z => z) hfu16.2.2.2.2.2.2.2.2.2.2.2.2.2.2.2.2.2.2.2.2.2.2.2.2.2.2.2.2.2.2.2.2.2.2.2.2.2.2.2.1).trans hFSq2.2.2.2.2.2.2.2.2.2.2.2.2.2.2.2.2.2.2.2.2.2.2.2.2.2.2.2.2.2.2.2.2.2.2.2.2.2.2.2.1, (congrArg (fun z => z) hfu16.2.2.2.2.2.2.2.2.2.2.2.2.2.2.2.2.2.2.2.2.2.2.2.2.2.2.2.2.2.2.2.2.2.2.2.2.2.2.2.2.1).trans hFSq2.2.2.2.2.2.2.2.2.2.2.2.2.2.2.2.2.2.2.2.2.2.2.2.2.2.2.2.2.2.2.2.2.2.2.2.2.2.2.2.2.1, (congrArg (fun z => z) hfu16.2.2.2.2.2.2.2.2.2.2.2.2.2.2.2.2.2.2.2.2.2.2.2.2.2.2.2.2.2.2.2.2.2.2.2.2.2.2.2.2.2.1).trans hFSq2.2.2.2.2.2.2.2.2.2.2.2.2.2.2.2.2.2.2.2.2.2.2.2.2.2.2.2.2.2.2.2.2.2.2.2.2.2.2.2.2.2.1, (congrArg (fun z => z) hfu16.2.2.2.2.2.2.2.2.2.2.2.2.2.2.2.2.2.2.2.2.2.2.2.2.2.2.2.2.2.2.2.2.2.2.2.2.2.2.2.2.2.2.1).trans hFSq2.2.2.2.2.2.2.2.2.2.2.2.2.2.2.2.2.2.2.2.2.2.2.2.2.2.2.2.2.2.2.2.2.2.2.2.2.2.2.2.2.2.2.1, (congrArg (fun z => z) hfu16.2.2.2.2.2.2.2.2.2.2.2.2.2.2.2.2.2.2.2.2.2.2.2.2.2.2.2.2.2.2.2.2.2.2.2.2.2.2.2.2.2.2.2).trans hFSq2.2.2.2.2.2.2.2.2.2.2.2.2.2.2.2.2.2.2.2.2.2.2.2.2.2.2.2.2.2.2.2.2.2.2.2.2.2.2.2.2.2.2.2⟩
          have je29 : ((b9g_chosen u16)).toInt = ((b9g_chosen S)).toInt := congrArg (fun z => (z).toInt) hFu16.2.2.2.2.2.2.2.2.2.1
          have je31 : ((b9g_now u16) 1).toInt = ((b9g_now S) 1).toInt := congrArg (fun z => (z 1).toInt) hFu16.2.1
          have je33 : ((b9g_now u16) 4).toInt = ((b9g_now S) 4).toInt := congrArg (fun z => (z 4).toInt) hFu16.2.1
          have je35 : ((b9g_now u16) 7).toInt = ((b9g_now S) 7).toInt := congrArg (fun z => (z 7).toInt) hFu16.2.1
          have je37 : ((b9g_now u16) 8).toInt = ((b9g_now S) 8).toInt := congrArg (fun z => (z 8).toInt) hFu16.2.1
          have je39 : ((b9g_now u16) 9).toInt = ((b9g_now S) 9).toInt := congrArg (fun z => (z 9).toInt) hFu16.2.1
          have je41 : ((b9g_now u16) 10).toInt = ((b9g_now S) 10).toInt := congrArg (fun z => (z 10).toInt) hFu16.2.1
          have je43 : ((b9g_now u16) 12).toInt = ((b9g_now S) 12).toInt := congrArg (fun z => (z 12).toInt) hFu16.2.1
          have jf44 := J9g_oneMany hJu16
          have je46 : ((b9g_nodeMany u16)).toInt = ((b9g_nodeMany S)).toInt := congrArg (fun z => (z).toInt) hFu16.2.2.2.2.2.2.2.2.2.2.2.2.2.2.2.2.1
          have je48 : ((b9g_upperNodes u16)).toInt = ((b9g_upperNodes S)).toInt := congrArg (fun z => (z).toInt) hFu16.2.2.2.2.2.2.2.2.2.2.2.2.2.2.2.2.2.2.2.1
          have qu16_nodeLeaf : b9g_nodeLeaf u16 = b9g_nodeLeaf S := hFu16.2.2.2.2.2.2.2.2.2.2.2.2.2.2.1
          have qu16_nodeLeaves : b9g_nodeLeaves u16 = b9g_nodeLeaves S := hFu16.2.2.2.2.2.2.2.2.2.2.2.2.2.2.2.1
          have ju48_u16 := hJu16.2.1
          try simp (disch := first | ((try simp (disch := first | ((try simp only [pn]) <;> omega) | fail) only [pn, pq]) <;> omega) | fail) only [pn, pq, qSq2_nodeLeaf, qSq2_nodeLeaves, qu16_nodeLeaf, qu16_nodeLeaves] at hr15_0
          unfold wp_X9_onesOfNode_89
          refine ⟨_, ?_, ?_, ?_, ?_, ?_, ?_, ?_, rfl⟩
          · (try simp (disch := first | ((try simp (disch := first | ((try simp only [pn]) <;> omega) | fail) only [pn, pq]) <;> omega) | fail) only [pn, pq, qSq2_nodeLeaf, qSq2_nodeLeaves, qu16_nodeLeaf, qu16_nodeLeaves]) <;> (intros; (try simp (disch := first | ((try simp (disch := first | ((try simp only [pn]) <;> omega) | fail) only [pn, pq]) <;> omega) | fail) only [pn, pq, qSq2_nodeLeaf, qSq2_nodeLeaves, qu16_nodeLeaf, qu16_nodeLeaves]) <;> omega)
          · exact hJu16
          · exact hFu16
          · first | rfl | assumption
          · (try simp (disch := first | ((try simp (disch := first | ((try simp only [pn]) <;> omega) | fail) only [pn, pq]) <;> omega) | fail) only [pn, pq, qSq2_nodeLeaf, qSq2_nodeLeaves, qu16_nodeLeaf, qu16_nodeLeaves]) <;> (intros; (try simp (disch := first | ((try simp (disch := first | ((try simp only [pn]) <;> omega) | fail) only [pn, pq]) <;> omega) | fail) only [pn, pq, qSq2_nodeLeaf, qSq2_nodeLeaves, qu16_nodeLeaf, qu16_nodeLeaves]) <;> omega)
          · (try simp (disch := first | ((try simp (disch := first | ((try simp only [pn]) <;> omega) | fail) only [pn, pq]) <;> omega) | fail) only [pn, pq, qSq2_nodeLeaf, qSq2_nodeLeaves, qu16_nodeLeaf, qu16_nodeLeaves]) <;> (intros; (try simp (disch := first | ((try simp (disch := first | ((try simp only [pn]) <;> omega) | fail) only [pn, pq]) <;> omega) | fail) only [pn, pq, qSq2_nodeLeaf, qSq2_nodeLeaves, qu16_nodeLeaf, qu16_nodeLeaves]) <;> omega)
          · (try simp (disch := first | ((try simp (disch := first | ((try simp only [pn]) <;> omega) | fail) only [pn, pq]) <;> omega) | fail) only [pn, pq, qSq2_nodeLeaf, qSq2_nodeLeaves, qu16_nodeLeaf, qu16_nodeLeaves]) <;> (intros; (try simp (disch := first | ((try simp (disch := first | ((try simp only [pn]) <;> omega) | fail) only [pn, pq]) <;> omega) | fail) only [pn, pq, qSq2_nodeLeaf, qSq2_nodeLeaves, qu16_nodeLeaf, qu16_nodeLeaves]) <;> omega)
        · try simp (disch := first | ((try simp (disch := first | ((try simp only [pn]) <;> omega) | fail) only [pn, pq]) <;> omega) | fail) only [pn, pq, qSq2_nodeLeaf, qSq2_nodeLeaves] at c10
          refine sf_X9_childAt hJSq2.1 (by (try simp (disch := first | ((try simp (disch := first | ((try simp only [pn]) <;> omega) | fail) only [pn, pq]) <;> omega) | fail) only [pn, pq, qSq2_nodeLeaf, qSq2_nodeLeaves]) <;> (intros; (try simp (disch := first | ((try simp (disch := first | ((try simp only [pn]) <;> omega) | fail) only [pn, pq]) <;> omega) | fail) only [pn, pq, qSq2_nodeLeaf, qSq2_nodeLeaves]) <;> omega)) (by (try simp (disch := first | ((try simp (disch := first | ((try simp only [pn]) <;> omega) | fail) only [pn, pq]) <;> omega) | fail) only [pn, pq, qSq2_nodeLeaf, qSq2_nodeLeaves]) <;> (intros; (try simp (disch := first | ((try simp (disch := first | ((try simp only [pn]) <;> omega) | fail) only [pn, pq]) <;> omega) | fail) only [pn, pq, qSq2_nodeLeaf, qSq2_nodeLeaves]) <;> omega)) (fun r17 hr17_0 => ?_)
          have rgr17 := pt_rg r17
          try simp (disch := first | ((try simp (disch := first | ((try simp only [pn]) <;> omega) | fail) only [pn, pq]) <;> omega) | fail) only [pn, pq, qSq2_nodeLeaf, qSq2_nodeLeaves] at hr17_0
          refine ⟨fun c19 => ?_, fun c19 => ?_⟩
          · try simp (disch := first | ((try simp (disch := first | ((try simp only [pn]) <;> omega) | fail) only [pn, pq]) <;> omega) | fail) only [pn, pq, qSq2_nodeLeaf, qSq2_nodeLeaves] at c19
            unfold wp_X9_onesOfNode_89
            refine ⟨_, ?_, ?_, ?_, ?_, ?_, ?_, ?_, rfl⟩
            · (try simp (disch := first | ((try simp (disch := first | ((try simp only [pn]) <;> omega) | fail) only [pn, pq]) <;> omega) | fail) only [pn, pq, qSq2_nodeLeaf, qSq2_nodeLeaves]) <;> (intros; (try simp (disch := first | ((try simp (disch := first | ((try simp only [pn]) <;> omega) | fail) only [pn, pq]) <;> omega) | fail) only [pn, pq, qSq2_nodeLeaf, qSq2_nodeLeaves]) <;> omega)
            · exact hJSq2
            · exact hFSq2
            · first | rfl | assumption
            · (try simp (disch := first | ((try simp (disch := first | ((try simp only [pn]) <;> omega) | fail) only [pn, pq]) <;> omega) | fail) only [pn, pq, qSq2_nodeLeaf, qSq2_nodeLeaves]) <;> (intros; (try simp (disch := first | ((try simp (disch := first | ((try simp only [pn]) <;> omega) | fail) only [pn, pq]) <;> omega) | fail) only [pn, pq, qSq2_nodeLeaf, qSq2_nodeLeaves]) <;> omega)
            · (try simp (disch := first | ((try simp (disch := first | ((try simp only [pn]) <;> omega) | fail) only [pn, pq]) <;> omega) | fail) only [pn, pq, qSq2_nodeLeaf, qSq2_nodeLeaves]) <;> (intros; (try simp (disch := first | ((try simp (disch := first | ((try simp only [pn]) <;> omega) | fail) only [pn, pq]) <;> omega) | fail) only [pn, pq, qSq2_nodeLeaf, qSq2_nodeLeaves]) <;> omega)
            · (try simp (disch := first | ((try simp (disch := first | ((try simp only [pn]) <;> omega) | fail) only [pn, pq]) <;> omega) | fail) only [pn, pq, qSq2_nodeLeaf, qSq2_nodeLeaves]) <;> (intros; (try simp (disch := first | ((try simp (disch := first | ((try simp only [pn]) <;> omega) | fail) only [pn, pq]) <;> omega) | fail) only [pn, pq, qSq2_nodeLeaf, qSq2_nodeLeaves]) <;> omega)
          · try simp (disch := first | ((try simp (disch := first | ((try simp only [pn]) <;> omega) | fail) only [pn, pq]) <;> omega) | fail) only [pn, pq, qSq2_nodeLeaf, qSq2_nodeLeaves] at c19
            unfold wp_X9_onesOfNode_64
            refine sf_X9_key hJSq2.1 (by (try simp (disch := first | ((try simp (disch := first | ((try simp only [pn]) <;> omega) | fail) only [pn, pq]) <;> omega) | fail) only [pn, pq, qSq2_nodeLeaf, qSq2_nodeLeaves]) <;> (intros; (try simp (disch := first | ((try simp (disch := first | ((try simp only [pn]) <;> omega) | fail) only [pn, pq]) <;> omega) | fail) only [pn, pq, qSq2_nodeLeaf, qSq2_nodeLeaves]) <;> omega)) (by (try simp (disch := first | ((try simp (disch := first | ((try simp only [pn]) <;> omega) | fail) only [pn, pq]) <;> omega) | fail) only [pn, pq, qSq2_nodeLeaf, qSq2_nodeLeaves]) <;> (intros; (try simp (disch := first | ((try simp (disch := first | ((try simp only [pn]) <;> omega) | fail) only [pn, pq]) <;> omega) | fail) only [pn, pq, qSq2_nodeLeaf, qSq2_nodeLeaves]) <;> omega)) (fun r20 hr20_0 => ?_)
            try simp (disch := first | ((try simp (disch := first | ((try simp only [pn]) <;> omega) | fail) only [pn, pq]) <;> omega) | fail) only [pn, pq, qSq2_nodeLeaf, qSq2_nodeLeaves] at hr20_0
            refine ⟨pt_in (by (try simp (disch := first | ((try simp (disch := first | ((try simp only [pn]) <;> omega) | fail) only [pn, pq]) <;> omega) | fail) only [pn, pq]) <;> (intros; (try simp (disch := first | ((try simp (disch := first | ((try simp only [pn]) <;> omega) | fail) only [pn, pq]) <;> omega) | fail) only [pn, pq]) <;> omega)) (by (try simp (disch := first | ((try simp (disch := first | ((try simp only [pn]) <;> omega) | fail) only [pn, pq]) <;> omega) | fail) only [pn, pq]) <;> (intros; (try simp (disch := first | ((try simp (disch := first | ((try simp only [pn]) <;> omega) | fail) only [pn, pq]) <;> omega) | fail) only [pn, pq]) <;> omega)), ?_⟩
            have jr49 := ND_at (J9g_ND hJSq2) (x := x1q2) (by (try simp (disch := first | ((try simp (disch := first | ((try simp only [pn]) <;> omega) | fail) only [pn, pq]) <;> omega) | fail) only [pn, pq, qSq2_nodeLeaf, qSq2_nodeLeaves]) <;> (intros; (try simp (disch := first | ((try simp (disch := first | ((try simp only [pn]) <;> omega) | fail) only [pn, pq]) <;> omega) | fail) only [pn, pq, qSq2_nodeLeaf, qSq2_nodeLeaves]) <;> omega)) (by (try simp (disch := first | ((try simp (disch := first | ((try simp only [pn]) <;> omega) | fail) only [pn, pq]) <;> omega) | fail) only [pn, pq, qSq2_nodeLeaf, qSq2_nodeLeaves]) <;> (intros; (try simp (disch := first | ((try simp (disch := first | ((try simp only [pn]) <;> omega) | fail) only [pn, pq]) <;> omega) | fail) only [pn, pq, qSq2_nodeLeaf, qSq2_nodeLeaves]) <;> omega))
            try simp (disch := first | ((try simp (disch := first | ((try simp only [pn]) <;> omega) | fail) only [pn, pq]) <;> omega) | fail) only [pn, pq, qSq2_nodeLeaf, qSq2_nodeLeaves] at jr49
            refine sf_X9_byteOf hJSq2.1 (fun r22  => ?_)
            have rgr22 := pt_rg r22
            refine sf_X9_one hJSq2 (by (try simp (disch := first | ((try simp (disch := first | ((try simp only [pn]) <;> omega) | fail) only [pn, pq]) <;> omega) | fail) only [pn, pq, qSq2_nodeLeaf, qSq2_nodeLeaves]) <;> (intros; (try simp (disch := first | ((try simp (disch := first | ((try simp only [pn]) <;> omega) | fail) only [pn, pq]) <;> omega) | fail) only [pn, pq, qSq2_nodeLeaf, qSq2_nodeLeaves]) <;> omega)) (fun u25 hJu25 hfu25 hr24_0 => ?_)
            have hFu25 : F_X9_onesOfNode S u25 := ⟨(congrArg (fun z => z) hfu25.1).trans hFSq2.1, (congrArg (fun z => z) hfu25.2.1).trans hFSq2.2.1, (congrArg (fun z => z) hfu25.2.2.1).trans hFSq2.2.2.1, (congrArg (fun z => z) hfu25.2.2.2.1).trans hFSq2.2.2.2.1, (congrArg (fun z => z) hfu25.2.2.2.2.1).trans hFSq2.2.2.2.2.1, (congrArg (fun z => z) hfu25.2.2.2.2.2.1).trans hFSq2.2.2.2.2.2.1, (congrArg (fun z => z) hfu25.2.2.2.2.2.2.1).trans hFSq2.2.2.2.2.2.2.1, (congrArg (fun z => z) hfu25.2.2.2.2.2.2.2.1).trans hFSq2.2.2.2.2.2.2.2.1, (congrArg (fun z => z) hfu25.2.2.2.2.2.2.2.2.1).trans hFSq2.2.2.2.2.2.2.2.2.1, (congrArg (fun z => z) hfu25.2.2.2.2.2.2.2.2.2.1).trans hFSq2.2.2.2.2.2.2.2.2.2.1, (congrArg (fun z => z) hfu25.2.2.2.2.2.2.2.2.2.2.1).trans hFSq2.2.2.2.2.2.2.2.2.2.2.1, (congrArg (fun z => z) hfu25.2.2.2.2.2.2.2.2.2.2.2.1).trans hFSq2.2.2.2.2.2.2.2.2.2.2.2.1, (congrArg (fun z => z) hfu25.2.2.2.2.2.2.2.2.2.2.2.2.1).trans hFSq2.2.2.2.2.2.2.2.2.2.2.2.2.1, (congrArg (fun z => z) hfu25.2.2.2.2.2.2.2.2.2.2.2.2.2.1).trans hFSq2.2.2.2.2.2.2.2.2.2.2.2.2.2.1, (congrArg (fun z => z) hfu25.2.2.2.2.2.2.2.2.2.2.2.2.2.2.1).trans hFSq2.2.2.2.2.2.2.2.2.2.2.2.2.2.2.1, (congrArg (fun z => z) hfu25.2.2.2.2.2.2.2.2.2.2.2.2.2.2.2.1).trans hFSq2.2.2.2.2.2.2.2.2.2.2.2.2.2.2.2.1, (congrArg (fun z => z) hfu25.2.2.2.2.2.2.2.2.2.2.2.2.2.2.2.2.1).trans hFSq2.2.2.2.2.2.2.2.2.2.2.2.2.2.2.2.2.1, (congrArg (fun z => z) hfu25.2.2.2.2.2.2.2.2.2.2.2.2.2.2.2.2.2.1).trans hFSq2.2.2.2.2.2.2.2.2.2.2.2.2.2.2.2.2.2.1, (congrArg (fun z => z) hfu25.2.2.2.2.2.2.2.2.2.2.2.2.2.2.2.2.2.2.1).trans hFSq2.2.2.2.2.2.2.2.2.2.2.2.2.2.2.2.2.2.2.1, (congrArg (fun z => z) hfu25.2.2.2.2.2.2.2.2.2.2.2.2.2.2.2.2.2.2.2.1).trans hFSq2.2.2.2.2.2.2.2.2.2.2.2.2.2.2.2.2.2.2.2.1, (congrArg (fun z => z) hfu25.2.2.2.2.2.2.2.2.2.2.2.2.2.2.2.2.2.2.2.2.1).trans hFSq2.2.2.2.2.2.2.2.2.2.2.2.2.2.2.2.2.2.2.2.2.1, (congrArg (fun z => z) hfu25.2.2.2.2.2.2.2.2.2.2.2.2.2.2.2.2.2.2.2.2.2.1).trans hFSq2.2.2.2.2.2.2.2.2.2.2.2.2.2.2.2.2.2.2.2.2.2.1, (congrArg (fun z => z) hfu25.2.2.2.2.2.2.2.2.2.2.2.2.2.2.2.2.2.2.2.2.2.2.1).trans hFSq2.2.2.2.2.2.2.2.2.2.2.2.2.2.2.2.2.2.2.2.2.2.2.1, (congrArg (fun z => z) hfu25.2.2.2.2.2.2.2.2.2.2.2.2.2.2.2.2.2.2.2.2.2.2.2.1).trans hFSq2.2.2.2.2.2.2.2.2.2.2.2.2.2.2.2.2.2.2.2.2.2.2.2.1, (congrArg (fun z => z) hfu25.2.2.2.2.2.2.2.2.2.2.2.2.2.2.2.2.2.2.2.2.2.2.2.2.1).trans hFSq2.2.2.2.2.2.2.2.2.2.2.2.2.2.2.2.2.2.2.2.2.2.2.2.2.1, (congrArg (fun z => z) hfu25.2.2.2.2.2.2.2.2.2.2.2.2.2.2.2.2.2.2.2.2.2.2.2.2.2.1).trans hFSq2.2.2.2.2.2.2.2.2.2.2.2.2.2.2.2.2.2.2.2.2.2.2.2.2.2.1, (congrArg (fun z => z) hfu25.2.2.2.2.2.2.2.2.2.2.2.2.2.2.2.2.2.2.2.2.2.2.2.2.2.2.1).trans hFSq2.2.2.2.2.2.2.2.2.2.2.2.2.2.2.2.2.2.2.2.2.2.2.2.2.2.2.1, (congrArg (fun z => z) hfu25.2.2.2.2.2.2.2.2.2.2.2.2.2.2.2.2.2.2.2.2.2.2.2.2.2.2.2.1).trans hFSq2.2.2.2.2.2.2.2.2.2.2.2.2.2.2.2.2.2.2.2.2.2.2.2.2.2.2.2.1, (congrArg (fun z => z) hfu25.2.2.2.2.2.2.2.2.2.2.2.2.2.2.2.2.2.2.2.2.2.2.2.2.2.2.2.2.1).trans hFSq2.2.2.2.2.2.2.2.2.2.2.2.2.2.2.2.2.2.2.2.2.2.2.2.2.2.2.2.2.1, (congrArg (fun z => z) hfu25.2.2.2.2.2.2.2.2.2.2.2.2.2.2.2.2.2.2.2.2.2.2.2.2.2.2.2.2.2.1).trans hFSq2.2.2.2.2.2.2.2.2.2.2.2.2.2.2.2.2.2.2.2.2.2.2.2.2.2.2.2.2.2.1, (congrArg (fun z => z) hfu25.2.2.2.2.2.2.2.2.2.2.2.2.2.2.2.2.2.2.2.2.2.2.2.2.2.2.2.2.2.2.1).trans hFSq2.2.2.2.2.2.2.2.2.2.2.2.2.2.2.2.2.2.2.2.2.2.2.2.2.2.2.2.2.2.2.1, (congrArg (fun z => z) hfu25.2.2.2.2.2.2.2.2.2.2.2.2.2.2.2.2.2.2.2.2.2.2.2.2.2.2.2.2.2.2.2.1).trans hFSq2.2.2.2.2.2.2.2.2.2.2.2.2.2.2.2.2.2.2.2.2.2.2.2.2.2.2.2.2.2.2.2.1, (congrArg (fun z => z) hfu25.2.2.2.2.2.2.2.2.2.2.2.2.2.2.2.2.2.2.2.2.2.2.2.2.2.2.2.2.2.2.2.2.1).trans hFSq2.2.2.2.2.2.2.2.2.2.2.2.2.2.2.2.2.2.2.2.2.2.2.2.2.2.2.2.2.2.2.2.2.1, (congrArg (fun z => z) hfu25.2.2.2.2.2.2.2.2.2.2.2.2.2.2.2.2.2.2.2.2.2.2.2.2.2.2.2.2.2.2.2.2.2.1).trans hFSq2.2.2.2.2.2.2.2.2.2.2.2.2.2.2.2.2.2.2.2.2.2.2.2.2.2.2.2.2.2.2.2.2.2.1, (congrArg (fun z => z) hfu25.2.2.2.2.2.2.2.2.2.2.2.2.2.2.2.2.2.2.2.2.2.2.2.2.2.2.2.2.2.2.2.2.2.2.1).trans hFSq2.2.2.2.2.2.2.2.2.2.2.2.2.2.2.2.2.2.2.2.2.2.2.2.2.2.2.2.2.2.2.2.2.2.2.1, (congrArg (fun z => z) hfu25.2.2.2.2.2.2.2.2.2.2.2.2.2.2.2.2.2.2.2.2.2.2.2.2.2.2.2.2.2.2.2.2.2.2.2.1).trans hFSq2.2.2.2.2.2.2.2.2.2.2.2.2.2.2.2.2.2.2.2.2.2.2.2.2.2.2.2.2.2.2.2.2.2.2.2.1, (congrArg (fun z => z) hfu25.2.2.2.2.2.2.2.2.2.2.2.2.2.2.2.2.2.2.2.2.2.2.2.2.2.2.2.2.2.2.2.2.2.2.2.2.1).trans hFSq2.2.2.2.2.2.2.2.2.2.2.2.2.2.2.2.2.2.2.2.2.2.2.2.2.2.2.2.2.2.2.2.2.2.2.2.2.1, (congrArg (fun z => z) hfu25.2.2.2.2.2.2.2.2.2.2.2.2.2.2.2.2.2.2.2.2.2.2.2.2.2.2.2.2.2.2.2.2.2.2.2.2.2.1).trans hFSq2.2.2.2.2.2.2.2.2.2.2.2.2.2.2.2.2.2.2.2.2.2.2.2.2.2.2.2.2.2.2.2.2.2.2.2.2.2.1, (congrArg (fun z => z) hfu25.2.2.2.2.2.2.2.2.2.2.2.2.2.2.2.2.2.2.2.2.2.2.2.2.2.2.2.2.2.2.2.2.2.2.2.2.2.2.1).trans hFSq2.2.2.2.2.2.2.2.2.2.2.2.2.2.2.2.2.2.2.2.2.2.2.2.2.2.2.2.2.2.2.2.2.2.2.2.2.2.2.1, (congrArg (fun z => z) hfu25.2.2.2.2.2.2.2.2.2.2.2.2.2.2.2.2.2.2.2.2.2.2.2.2.2.2.2.2.2.2.2.2.2.2.2.2.2.2.2.1).trans hFSq2.2.2.2.2.2.2.2.2.2.2.2.2.2.2.2.2.2.2.2.2.2.2.2.2.2.2.2.2.2.2.2.2.2.2.2.2.2.2.2.1, (congrArg (fun z => z) hfu25.2.2.2.2.2.2.2.2.2.2.2.2.2.2.2.2.2.2.2.2.2.2.2.2.2.2.2.2.2.2.2.2.2.2.2.2.2.2.2.2.1).trans hFSq2.2.2.2.2.2.2.2.2.2.2.2.2.2.2.2.2.2.2.2.2.2.2.2.2.2.2.2.2.2.2.2.2.2.2.2.2.2.2.2.2.1, (congrArg (fun z => z) hfu25.2.2.2.2.2.2.2.2.2.2.2.2.2.2.2.2.2.2.2.2.2.2.2.2.2.2.2.2.2.2.2.2.2.2.2.2.2.2.2.2.2.1).trans hFSq2.2.2.2.2.2.2.2.2.2.2.2.2.2.2.2.2.2.2.2.2.2.2.2.2.2.2.2.2.2.2.2.2.2.2.2.2.2.2.2.2.2.1, (congrArg (fun z => z) hfu25.2.2.2.2.2.2.2.2.2.2.2.2.2.2.2.2.2.2.2.2.2.2.2.2.2.2.2.2.2.2.2.2.2.2.2.2.2.2.2.2.2.2.1).trans hFSq2.2.2.2.2.2.2.2.2.2.2.2.2.2.2.2.2.2.2.2.2.2.2.2.2.2.2.2.2.2.2.2.2.2.2.2.2.2.2.2.2.2.2.1, (congrArg (fun z => z) hfu25.2.2.2.2.2.2.2.2.2.2.2.2.2.2.2.2.2.2.2.2.2.2.2.2.2.2.2.2.2.2.2.2.2.2.2.2.2.2.2.2.2.2.2).trans hFSq2.2.2.2.2.2.2.2.2.2.2.2.2.2.2.2.2.2.2.2.2.2.2.2.2.2.2.2.2.2.2.2.2.2.2.2.2.2.2.2.2.2.2.2⟩
            have je51 : ((b9g_chosen u25)).toInt = ((b9g_chosen S)).toInt := congrArg (fun z => (z).toInt) hFu25.2.2.2.2.2.2.2.2.2.1
            have je53 : ((b9g_now u25) 1).toInt = ((b9g_now S) 1).toInt := congrArg (fun z => (z 1).toInt) hFu25.2.1
            have je55 : ((b9g_now u25) 4).toInt = ((b9g_now S) 4).toInt := congrArg (fun z => (z 4).toInt) hFu25.2.1
            have je57 : ((b9g_now u25) 7).toInt = ((b9g_now S) 7).toInt := congrArg (fun z => (z 7).toInt) hFu25.2.1
            have je59 : ((b9g_now u25) 8).toInt = ((b9g_now S) 8).toInt := congrArg (fun z => (z 8).toInt) hFu25.2.1
            have je61 : ((b9g_now u25) 9).toInt = ((b9g_now S) 9).toInt := congrArg (fun z => (z 9).toInt) hFu25.2.1
            have je63 : ((b9g_now u25) 10).toInt = ((b9g_now S) 10).toInt := congrArg (fun z => (z 10).toInt) hFu25.2.1
            have je65 : ((b9g_now u25) 12).toInt = ((b9g_now S) 12).toInt := congrArg (fun z => (z 12).toInt) hFu25.2.1
            have jf66 := J9g_oneMany hJu25
            have je68 : ((b9g_nodeMany u25)).toInt = ((b9g_nodeMany S)).toInt := congrArg (fun z => (z).toInt) hFu25.2.2.2.2.2.2.2.2.2.2.2.2.2.2.2.2.1
            have je70 : ((b9g_upperNodes u25)).toInt = ((b9g_upperNodes S)).toInt := congrArg (fun z => (z).toInt) hFu25.2.2.2.2.2.2.2.2.2.2.2.2.2.2.2.2.2.2.2.1
            have qu25_nodeLeaf : b9g_nodeLeaf u25 = b9g_nodeLeaf S := hFu25.2.2.2.2.2.2.2.2.2.2.2.2.2.2.1
            have qu25_nodeLeaves : b9g_nodeLeaves u25 = b9g_nodeLeaves S := hFu25.2.2.2.2.2.2.2.2.2.2.2.2.2.2.2.1
            have ju70_u25 := hJu25.2.1
            try simp (disch := first | ((try simp (disch := first | ((try simp only [pn]) <;> omega) | fail) only [pn, pq]) <;> omega) | fail) only [pn, pq, qSq2_nodeLeaf, qSq2_nodeLeaves, qu25_nodeLeaf, qu25_nodeLeaves] at hr24_0
            unfold wp_X9_onesOfNode_89
            refine ⟨_, ?_, ?_, ?_, ?_, ?_, ?_, ?_, rfl⟩
            · (try simp (disch := first | ((try simp (disch := first | ((try simp only [pn]) <;> omega) | fail) only [pn, pq]) <;> omega) | fail) only [pn, pq, qSq2_nodeLeaf, qSq2_nodeLeaves, qu25_nodeLeaf, qu25_nodeLeaves]) <;> (intros; (try simp (disch := first | ((try simp (disch := first | ((try simp only [pn]) <;> omega) | fail) only [pn, pq]) <;> omega) | fail) only [pn, pq, qSq2_nodeLeaf, qSq2_nodeLeaves, qu25_nodeLeaf, qu25_nodeLeaves]) <;> omega)
            · exact hJu25
            · exact hFu25
            · first | rfl | assumption
            · (try simp (disch := first | ((try simp (disch := first | ((try simp only [pn]) <;> omega) | fail) only [pn, pq]) <;> omega) | fail) only [pn, pq, qSq2_nodeLeaf, qSq2_nodeLeaves, qu25_nodeLeaf, qu25_nodeLeaves]) <;> (intros; (try simp (disch := first | ((try simp (disch := first | ((try simp only [pn]) <;> omega) | fail) only [pn, pq]) <;> omega) | fail) only [pn, pq, qSq2_nodeLeaf, qSq2_nodeLeaves, qu25_nodeLeaf, qu25_nodeLeaves]) <;> omega)
            · (try simp (disch := first | ((try simp (disch := first | ((try simp only [pn]) <;> omega) | fail) only [pn, pq]) <;> omega) | fail) only [pn, pq, qSq2_nodeLeaf, qSq2_nodeLeaves, qu25_nodeLeaf, qu25_nodeLeaves]) <;> (intros; (try simp (disch := first | ((try simp (disch := first | ((try simp only [pn]) <;> omega) | fail) only [pn, pq]) <;> omega) | fail) only [pn, pq, qSq2_nodeLeaf, qSq2_nodeLeaves, qu25_nodeLeaf, qu25_nodeLeaves]) <;> omega)
            · (try simp (disch := first | ((try simp (disch := first | ((try simp only [pn]) <;> omega) | fail) only [pn, pq]) <;> omega) | fail) only [pn, pq, qSq2_nodeLeaf, qSq2_nodeLeaves, qu25_nodeLeaf, qu25_nodeLeaves]) <;> (intros; (try simp (disch := first | ((try simp (disch := first | ((try simp only [pn]) <;> omega) | fail) only [pn, pq]) <;> omega) | fail) only [pn, pq, qSq2_nodeLeaf, qSq2_nodeLeaves, qu25_nodeLeaf, qu25_nodeLeaves]) <;> omega)
  · try simp (disch := first | ((try simp (disch := first | ((try simp only [pn]) <;> omega) | fail) only [pn, pq]) <;> omega) | fail) only [pn, pq] at c1
    refine sf_X9_isNodeEnd hJ.1 (by (try simp (disch := first | ((try simp (disch := first | ((try simp only [pn]) <;> omega) | fail) only [pn, pq]) <;> omega) | fail) only [pn, pq]) <;> (intros; (try simp (disch := first | ((try simp (disch := first | ((try simp only [pn]) <;> omega) | fail) only [pn, pq]) <;> omega) | fail) only [pn, pq]) <;> omega)) (by (try simp (disch := first | ((try simp (disch := first | ((try simp only [pn]) <;> omega) | fail) only [pn, pq]) <;> omega) | fail) only [pn, pq]) <;> (intros; (try simp (disch := first | ((try simp (disch := first | ((try simp only [pn]) <;> omega) | fail) only [pn, pq]) <;> omega) | fail) only [pn, pq]) <;> omega)) (fun r26 hzr26 hr26_0 => ?_)
    try simp (disch := first | ((try simp (disch := first | ((try simp only [pn]) <;> omega) | fail) only [pn, pq]) <;> omega) | fail) only [pn, pq] at hr26_0
    refine ⟨fun c28 => ?_, fun c28 => ?_⟩
    · try simp (disch := first | ((try simp (disch := first | ((try simp only [pn]) <;> omega) | fail) only [pn, pq]) <;> omega) | fail) only [pn, pq] at c28
      exact hq _ hJ hFS (by (try simp (disch := first | ((try simp (disch := first | ((try simp only [pn]) <;> omega) | fail) only [pn, pq]) <;> omega) | fail) only [pn, pq]) <;> (intros; (try simp (disch := first | ((try simp (disch := first | ((try simp only [pn]) <;> omega) | fail) only [pn, pq]) <;> omega) | fail) only [pn, pq]) <;> omega))
    · try simp (disch := first | ((try simp (disch := first | ((try simp only [pn]) <;> omega) | fail) only [pn, pq]) <;> omega) | fail) only [pn, pq] at c28
      refine sf_X9_one hJ (by (try simp (disch := first | ((try simp (disch := first | ((try simp only [pn]) <;> omega) | fail) only [pn, pq]) <;> omega) | fail) only [pn, pq]) <;> (intros; (try simp (disch := first | ((try simp (disch := first | ((try simp only [pn]) <;> omega) | fail) only [pn, pq]) <;> omega) | fail) only [pn, pq]) <;> omega)) (fun u30 hJu30 hfu30 hr29_0 => ?_)
      have hFu30 : F_X9_onesOfNode S u30 := ⟨(congrArg (fun z => z) hfu30.1).trans hFS.1, (congrArg (fun z => z) hfu30.2.1).trans hFS.2.1, (congrArg (fun z => z) hfu30.2.2.1).trans hFS.2.2.1, (congrArg (fun z => z) hfu30.2.2.2.1).trans hFS.2.2.2.1, (congrArg (fun z => z) hfu30.2.2.2.2.1).trans hFS.2.2.2.2.1, (congrArg (fun z => z) hfu30.2.2.2.2.2.1).trans hFS.2.2.2.2.2.1, (congrArg (fun z => z) hfu30.2.2.2.2.2.2.1).trans hFS.2.2.2.2.2.2.1, (congrArg (fun z => z) hfu30.2.2.2.2.2.2.2.1).trans hFS.2.2.2.2.2.2.2.1, (congrArg (fun z => z) hfu30.2.2.2.2.2.2.2.2.1).trans hFS.2.2.2.2.2.2.2.2.1, (congrArg (fun z => z) hfu30.2.2.2.2.2.2.2.2.2.1).trans hFS.2.2.2.2.2.2.2.2.2.1, (congrArg (fun z => z) hfu30.2.2.2.2.2.2.2.2.2.2.1).trans hFS.2.2.2.2.2.2.2.2.2.2.1, (congrArg (fun z => z) hfu30.2.2.2.2.2.2.2.2.2.2.2.1).trans hFS.2.2.2.2.2.2.2.2.2.2.2.1, (congrArg (fun z => z) hfu30.2.2.2.2.2.2.2.2.2.2.2.2.1).trans hFS.2.2.2.2.2.2.2.2.2.2.2.2.1, (congrArg (fun z => z) hfu30.2.2.2.2.2.2.2.2.2.2.2.2.2.1).trans hFS.2.2.2.2.2.2.2.2.2.2.2.2.2.1, (congrArg (fun z => z) hfu30.2.2.2.2.2.2.2.2.2.2.2.2.2.2.1).trans hFS.2.2.2.2.2.2.2.2.2.2.2.2.2.2.1, (congrArg (fun z => z) hfu30.2.2.2.2.2.2.2.2.2.2.2.2.2.2.2.1).trans hFS.2.2.2.2.2.2.2.2.2.2.2.2.2.2.2.1, (congrArg (fun z => z) hfu30.2.2.2.2.2.2.2.2.2.2.2.2.2.2.2.2.1).trans hFS.2.2.2.2.2.2.2.2.2.2.2.2.2.2.2.2.1, (congrArg (fun z => z) hfu30.2.2.2.2.2.2.2.2.2.2.2.2.2.2.2.2.2.1).trans hFS.2.2.2.2.2.2.2.2.2.2.2.2.2.2.2.2.2.1, (congrArg (fun z => z) hfu30.2.2.2.2.2.2.2.2.2.2.2.2.2.2.2.2.2.2.1).trans hFS.2.2.2.2.2.2.2.2.2.2.2.2.2.2.2.2.2.2.1, (congrArg (fun z => z) hfu30.2.2.2.2.2.2.2.2.2.2.2.2.2.2.2.2.2.2.2.1).trans hFS.2.2.2.2.2.2.2.2.2.2.2.2.2.2.2.2.2.2.2.1, (congrArg (fun z => z) hfu30.2.2.2.2.2.2.2.2.2.2.2.2.2.2.2.2.2.2.2.2.1).trans hFS.2.2.2.2.2.2.2.2.2.2.2.2.2.2.2.2.2.2.2.2.1, (congrArg (fun z => z) hfu30.2.2.2.2.2.2.2.2.2.2.2.2.2.2.2.2.2.2.2.2.2.1).trans hFS.2.2.2.2.2.2.2.2.2.2.2.2.2.2.2.2.2.2.2.2.2.1, (congrArg (fun z => z) hfu30.2.2.2.2.2.2.2.2.2.2.2.2.2.2.2.2.2.2.2.2.2.2.1).trans hFS.2.2.2.2.2.2.2.2.2.2.2.2.2.2.2.2.2.2.2.2.2.2.1, (congrArg (fun z => z) hfu30.2.2.2.2.2.2.2.2.2.2.2.2.2.2.2.2.2.2.2.2.2.2.2.1).trans hFS.2.2.2.2.2.2.2.2.2.2.2.2.2.2.2.2.2.2.2.2.2.2.2.1, (congrArg (fun z => z) hfu30.2.2.2.2.2.2.2.2.2.2.2.2.2.2.2.2.2.2.2.2.2.2.2.2.1).trans hFS.2.2.2.2.2.2.2.2.2.2.2.2.2.2.2.2.2.2.2.2.2.2.2.2.1, (congrArg (fun z => z) hfu30.2.2.2.2.2.2.2.2.2.2.2.2.2.2.2.2.2.2.2.2.2.2.2.2.2.1).trans hFS.2.2.2.2.2.2.2.2.2.2.2.2.2.2.2.2.2.2.2.2.2.2.2.2.2.1, (congrArg (fun z => z) hfu30.2.2.2.2.2.2.2.2.2.2.2.2.2.2.2.2.2.2.2.2.2.2.2.2.2.2.1).trans hFS.2.2.2.2.2.2.2.2.2.2.2.2.2.2.2.2.2.2.2.2.2.2.2.2.2.2.1, (congrArg (fun z => z) hfu30.2.2.2.2.2.2.2.2.2.2.2.2.2.2.2.2.2.2.2.2.2.2.2.2.2.2.2.1).trans hFS.2.2.2.2.2.2.2.2.2.2.2.2.2.2.2.2.2.2.2.2.2.2.2.2.2.2.2.1, (congrArg (fun z => z) hfu30.2.2.2.2.2.2.2.2.2.2.2.2.2.2.2.2.2.2.2.2.2.2.2.2.2.2.2.2.1).trans hFS.2.2.2.2.2.2.2.2.2.2.2.2.2.2.2.2.2.2.2.2.2.2.2.2.2.2.2.2.1, (congrArg (fun z => z) hfu30.2.2.2.2.2.2.2.2.2.2.2.2.2.2.2.2.2.2.2.2.2.2.2.2.2.2.2.2.2.1).trans hFS.2.2.2.2.2.2.2.2.2.2.2.2.2.2.2.2.2.2.2.2.2.2.2.2.2.2.2.2.2.1, (congrArg (fun z => z) hfu30.2.2.2.2.2.2.2.2.2.2.2.2.2.2.2.2.2.2.2.2.2.2.2.2.2.2.2.2.2.2.1).trans hFS.2.2.2.2.2.2.2.2.2.2.2.2.2.2.2.2.2.2.2.2.2.2.2.2.2.2.2.2.2.2.1, (congrArg (fun z => z) hfu30.2.2.2.2.2.2.2.2.2.2.2.2.2.2.2.2.2.2.2.2.2.2.2.2.2.2.2.2.2.2.2.1).trans hFS.2.2.2.2.2.2.2.2.2.2.2.2.2.2.2.2.2.2.2.2.2.2.2.2.2.2.2.2.2.2.2.1, (congrArg (fun z => z) hfu30.2.2.2.2.2.2.2.2.2.2.2.2.2.2.2.2.2.2.2.2.2.2.2.2.2.2.2.2.2.2.2.2.1).trans hFS.2.2.2.2.2.2.2.2.2.2.2.2.2.2.2.2.2.2.2.2.2.2.2.2.2.2.2.2.2.2.2.2.1, (congrArg (fun z => z) hfu30.2.2.2.2.2.2.2.2.2.2.2.2.2.2.2.2.2.2.2.2.2.2.2.2.2.2.2.2.2.2.2.2.2.1).trans hFS.2.2.2.2.2.2.2.2.2.2.2.2.2.2.2.2.2.2.2.2.2.2.2.2.2.2.2.2.2.2.2.2.2.1, (congrArg (fun z => z) hfu30.2.2.2.2.2.2.2.2.2.2.2.2.2.2.2.2.2.2.2.2.2.2.2.2.2.2.2.2.2.2.2.2.2.2.1).trans hFS.2.2.2.2.2.2.2.2.2.2.2.2.2.2.2.2.2.2.2.2.2.2.2.2.2.2.2.2.2.2.2.2.2.2.1, (congrArg (fun z => z) hfu30.2.2.2.2.2.2.2.2.2.2.2.2.2.2.2.2.2.2.2.2.2.2.2.2.2.2.2.2.2.2.2.2.2.2.2.1).trans hFS.2.2.2.2.2.2.2.2.2.2.2.2.2.2.2.2.2.2.2.2.2.2.2.2.2.2.2.2.2.2.2.2.2.2.2.1, (congrArg (fun z => z) hfu30.2.2.2.2.2.2.2.2.2.2.2.2.2.2.2.2.2.2.2.2.2.2.2.2.2.2.2.2.2.2.2.2.2.2.2.2.1).trans hFS.2.2.2.2.2.2.2.2.2.2.2.2.2.2.2.2.2.2.2.2.2.2.2.2.2.2.2.2.2.2.2.2.2.2.2.2.1, (congrArg (fun z => z) hfu30.2.2.2.2.2.2.2.2.2.2.2.2.2.2.2.2.2.2.2.2.2.2.2.2.2.2.2.2.2.2.2.2.2.2.2.2.2.1).trans hFS.2.2.2.2.2.2.2.2.2.2.2.2.2.2.2.2.2.2.2.2.2.2.2.2.2.2.2.2.2.2.2.2.2.2.2.2.2.1, (congrArg (fun z => z) hfu30.2.2.2.2.2.2.2.2.2.2.2.2.2.2.2.2.2.2.2.2.2.2.2.2.2.2.2.2.2.2.2.2.2.2.2.2.2.2.1).trans hFS.2.2.2.2.2.2.2.2.2.2.2.2.2.2.2.2.2.2.2.2.2.2.2.2.2.2.2.2.2.2.2.2.2.2.2.2.2.2.1, (congrArg (fun z => z) hfu30.2.2.2.2.2.2.2.2.2.2.2.2.2.2.2.2.2.2.2.2.2.2.2.2.2.2.2.2.2.2.2.2.2.2.2.2.2.2.2.1).trans hFS.2.2.2.2.2.2.2.2.2.2.2.2.2.2.2.2.2.2.2.2.2.2.2.2.2.2.2.2.2.2.2.2.2.2.2.2.2.2.2.1, (congrArg (fun z => z) hfu30.2.2.2.2.2.2.2.2.2.2.2.2.2.2.2.2.2.2.2.2.2.2.2.2.2.2.2.2.2.2.2.2.2.2.2.2.2.2.2.2.1).trans hFS.2.2.2.2.2.2.2.2.2.2.2.2.2.2.2.2.2.2.2.2.2.2.2.2.2.2.2.2.2.2.2.2.2.2.2.2.2.2.2.2.1, (congrArg (fun z => z) hfu30.2.2.2.2.2.2.2.2.2.2.2.2.2.2.2.2.2.2.2.2.2.2.2.2.2.2.2.2.2.2.2.2.2.2.2.2.2.2.2.2.2.1).trans hFS.2.2.2.2.2.2.2.2.2.2.2.2.2.2.2.2.2.2.2.2.2.2.2.2.2.2.2.2.2.2.2.2.2.2.2.2.2.2.2.2.2.1, (congrArg (fun z => z) hfu30.2.2.2.2.2.2.2.2.2.2.2.2.2.2.2.2.2.2.2.2.2.2.2.2.2.2.2.2.2.2.2.2.2.2.2.2.2.2.2.2.2.2.1).trans hFS.2.2.2.2.2.2.2.2.2.2.2.2.2.2.2.2.2.2.2.2.2.2.2.2.2.2.2.2.2.2.2.2.2.2.2.2.2.2.2.2.2.2.1, (congrArg (fun z => z) hfu30.2.2.2.2.2.2.2.2.2.2.2.2.2.2.2.2.2.2.2.2.2.2.2.2.2.2.2.2.2.2.2.2.2.2.2.2.2.2.2.2.2.2.2).trans hFS.2.2.2.2.2.2.2.2.2.2.2.2.2.2.2.2.2.2.2.2.2.2.2.2.2.2.2.2.2.2.2.2.2.2.2.2.2.2.2.2.2.2.2⟩
      have je72 : ((b9g_chosen u30)).toInt = ((b9g_chosen S)).toInt := congrArg (fun z => (z).toInt) hFu30.2.2.2.2.2.2.2.2.2.1
      have je74 : ((b9g_now u30) 1).toInt = ((b9g_now S) 1).toInt := congrArg (fun z => (z 1).toInt) hFu30.2.1
      have je76 : ((b9g_now u30) 4).toInt = ((b9g_now S) 4).toInt := congrArg (fun z => (z 4).toInt) hFu30.2.1
      have je78 : ((b9g_now u30) 7).toInt = ((b9g_now S) 7).toInt := congrArg (fun z => (z 7).toInt) hFu30.2.1
      have je80 : ((b9g_now u30) 8).toInt = ((b9g_now S) 8).toInt := congrArg (fun z => (z 8).toInt) hFu30.2.1
      have je82 : ((b9g_now u30) 9).toInt = ((b9g_now S) 9).toInt := congrArg (fun z => (z 9).toInt) hFu30.2.1
      have je84 : ((b9g_now u30) 10).toInt = ((b9g_now S) 10).toInt := congrArg (fun z => (z 10).toInt) hFu30.2.1
      have je86 : ((b9g_now u30) 12).toInt = ((b9g_now S) 12).toInt := congrArg (fun z => (z 12).toInt) hFu30.2.1
      have jf87 := J9g_oneMany hJu30
      have je89 : ((b9g_nodeMany u30)).toInt = ((b9g_nodeMany S)).toInt := congrArg (fun z => (z).toInt) hFu30.2.2.2.2.2.2.2.2.2.2.2.2.2.2.2.2.1
      have je91 : ((b9g_upperNodes u30)).toInt = ((b9g_upperNodes S)).toInt := congrArg (fun z => (z).toInt) hFu30.2.2.2.2.2.2.2.2.2.2.2.2.2.2.2.2.2.2.2.1
      have qu30_nodeLeaf : b9g_nodeLeaf u30 = b9g_nodeLeaf S := hFu30.2.2.2.2.2.2.2.2.2.2.2.2.2.2.1
      have qu30_nodeLeaves : b9g_nodeLeaves u30 = b9g_nodeLeaves S := hFu30.2.2.2.2.2.2.2.2.2.2.2.2.2.2.2.1
      have ju91_u30 := hJu30.2.1
      try simp (disch := first | ((try simp (disch := first | ((try simp only [pn]) <;> omega) | fail) only [pn, pq]) <;> omega) | fail) only [pn, pq, qu30_nodeLeaf, qu30_nodeLeaves] at hr29_0
      exact hq _ hJu30 hFu30 (by (try simp (disch := first | ((try simp (disch := first | ((try simp only [pn]) <;> omega) | fail) only [pn, pq]) <;> omega) | fail) only [pn, pq, qu30_nodeLeaf, qu30_nodeLeaves]) <;> (intros; (try simp (disch := first | ((try simp (disch := first | ((try simp only [pn]) <;> omega) | fail) only [pn, pq]) <;> omega) | fail) only [pn, pq, qu30_nodeLeaf, qu30_nodeLeaves]) <;> omega))
set_option maxRecDepth 20000 in
set_option maxHeartbeats 8000000 in
theorem sf_X9_isOne {S : bT9} (hJ : K9 S) {a1 : Int32} {Q : Int32 → Prop} (hp0 : 0 ≤ a1.toInt) (hp1 : a1.toInt ≤ 699) (hq : ∀ r : Int32, bf_bool r → Q r) : wp_X9_isOne S a1 Q := by
  unfold wp_X9_isOne
  have jf1 : (-4 ≤ ((b9g_now S) 1).toInt ∧ ((b9g_now S) 1).toInt ≤ 4) ∧ (-3 ≤ ((b9g_now S) 4).toInt ∧ ((b9g_now S) 4).toInt ≤ 252) ∧ (0 ≤ ((b9g_now S) 8).toInt ∧ ((b9g_now S) 8).toInt ≤ 64) ∧ (0 ≤ ((b9g_now S) 9).toInt ∧ ((b9g_now S) 9).toInt ≤ 64) ∧ (0 ≤ ((b9g_now S) 10).toInt ∧ ((b9g_now S) 10).toInt ≤ 16) ∧ (0 ≤ ((b9g_now S) 12).toInt ∧ ((b9g_now S) 12).toInt ≤ 8) := K9g_now hJ
  have rga1 := pt_rg a1
  refine ⟨fun c1 => ?_, fun c1 => ?_⟩
  · try simp (disch := first | ((try simp (disch := first | ((try simp only [pn]) <;> omega) | fail) only [pn, pq]) <;> omega) | fail) only [pn, pq] at c1
    refine ⟨fun c2 => ?_, fun c2 => ?_⟩
    · try simp (disch := first | ((try simp (disch := first | ((try simp only [pn]) <;> omega) | fail) only [pn, pq]) <;> omega) | fail) only [pn, pq] at c2
      refine ⟨fun c3 => ?_, fun c3 => ?_⟩
      · try simp (disch := first | ((try simp (disch := first | ((try simp only [pn]) <;> omega) | fail) only [pn, pq]) <;> omega) | fail) only [pn, pq] at c3
        unfold wp_X9_isOne_69
        exact ⟨by first | rfl | assumption, hq _ (by first | rfl | assumption) ⟩
      · try simp (disch := first | ((try simp (disch := first | ((try simp only [pn]) <;> omega) | fail) only [pn, pq]) <;> omega) | fail) only [pn, pq] at c3
        refine ⟨pt_in (by (try simp (disch := first | ((try simp (disch := first | ((try simp only [pn]) <;> omega) | fail) only [pn, pq]) <;> omega) | fail) only [pn, pq]) <;> (intros; (try simp (disch := first | ((try simp (disch := first | ((try simp only [pn]) <;> omega) | fail) only [pn, pq]) <;> omega) | fail) only [pn, pq]) <;> omega)) (by (try simp (disch := first | ((try simp (disch := first | ((try simp only [pn]) <;> omega) | fail) only [pn, pq]) <;> omega) | fail) only [pn, pq]) <;> (intros; (try simp (disch := first | ((try simp (disch := first | ((try simp only [pn]) <;> omega) | fail) only [pn, pq]) <;> omega) | fail) only [pn, pq]) <;> omega)), ?_⟩
        refine ⟨pt_in (by (try simp (disch := first | ((try simp (disch := first | ((try simp only [pn]) <;> omega) | fail) only [pn, pq]) <;> omega) | fail) only [pn, pq]) <;> (intros; (try simp (disch := first | ((try simp (disch := first | ((try simp only [pn]) <;> omega) | fail) only [pn, pq]) <;> omega) | fail) only [pn, pq]) <;> omega)) (by (try simp (disch := first | ((try simp (disch := first | ((try simp only [pn]) <;> omega) | fail) only [pn, pq]) <;> omega) | fail) only [pn, pq]) <;> (intros; (try simp (disch := first | ((try simp (disch := first | ((try simp only [pn]) <;> omega) | fail) only [pn, pq]) <;> omega) | fail) only [pn, pq]) <;> omega)), ?_⟩
        refine ⟨fun c4 => ?_, fun c4 => ?_⟩
        · try simp (disch := first | ((try simp (disch := first | ((try simp only [pn]) <;> omega) | fail) only [pn, pq]) <;> omega) | fail) only [pn, pq] at c4
          exact ⟨by first | rfl | assumption, hq _ (by first | rfl | assumption) ⟩
        · try simp (disch := first | ((try simp (disch := first | ((try simp only [pn]) <;> omega) | fail) only [pn, pq]) <;> omega) | fail) only [pn, pq] at c4
          unfold wp_X9_isOne_69
          exact ⟨by first | rfl | assumption, hq _ (by first | rfl | assumption) ⟩
    · try simp (disch := first | ((try simp (disch := first | ((try simp only [pn]) <;> omega) | fail) only [pn, pq]) <;> omega) | fail) only [pn, pq] at c2
      refine ⟨pt_in (by (try simp (disch := first | ((try simp (disch := first | ((try simp only [pn]) <;> omega) | fail) only [pn, pq]) <;> omega) | fail) only [pn, pq]) <;> (intros; (try simp (disch := first | ((try simp (disch := first | ((try simp only [pn]) <;> omega) | fail) only [pn, pq]) <;> omega) | fail) only [pn, pq]) <;> omega)) (by (try simp (disch := first | ((try simp (disch := first | ((try simp only [pn]) <;> omega) | fail) only [pn, pq]) <;> omega) | fail) only [pn, pq]) <;> (intros; (try simp (disch := first | ((try simp (disch := first | ((try simp only [pn]) <;> omega) | fail) only [pn, pq]) <;> omega) | fail) only [pn, pq]) <;> omega)), ?_⟩
      refine ⟨fun c5 => ?_, fun c5 => ?_⟩
      · try simp (disch := first | ((try simp (disch := first | ((try simp only [pn]) <;> omega) | fail) only [pn, pq]) <;> omega) | fail) only [pn, pq] at c5
        exact ⟨by first | rfl | assumption, hq _ (by first | rfl | assumption) ⟩
      · try simp (disch := first | ((try simp (disch := first | ((try simp only [pn]) <;> omega) | fail) only [pn, pq]) <;> omega) | fail) only [pn, pq] at c5
        exact ⟨by first | rfl | assumption, hq _ (by first | rfl | assumption) ⟩
  · try simp (disch := first | ((try simp (disch := first | ((try simp only [pn]) <;> omega) | fail) only [pn, pq]) <;> omega) | fail) only [pn, pq] at c1
    refine ⟨pt_in (by (try simp (disch := first | ((try simp (disch := first | ((try simp only [pn]) <;> omega) | fail) only [pn, pq]) <;> omega) | fail) only [pn, pq]) <;> (intros; (try simp (disch := first | ((try simp (disch := first | ((try simp only [pn]) <;> omega) | fail) only [pn, pq]) <;> omega) | fail) only [pn, pq]) <;> omega)) (by (try simp (disch := first | ((try simp (disch := first | ((try simp only [pn]) <;> omega) | fail) only [pn, pq]) <;> omega) | fail) only [pn, pq]) <;> (intros; (try simp (disch := first | ((try simp (disch := first | ((try simp only [pn]) <;> omega) | fail) only [pn, pq]) <;> omega) | fail) only [pn, pq]) <;> omega)), ?_⟩
    refine ⟨fun c6 => ?_, fun c6 => ?_⟩
    · try simp (disch := first | ((try simp (disch := first | ((try simp only [pn]) <;> omega) | fail) only [pn, pq]) <;> omega) | fail) only [pn, pq] at c6
      exact ⟨by first | rfl | assumption, hq _ (by first | rfl | assumption) ⟩
    · try simp (disch := first | ((try simp (disch := first | ((try simp only [pn]) <;> omega) | fail) only [pn, pq]) <;> omega) | fail) only [pn, pq] at c6
      exact ⟨by first | rfl | assumption, hq _ (by first | rfl | assumption) ⟩
def F_X9_laysOnes (S u : bT9) : Prop := (b9g_told u) = (b9g_told S) ∧ (b9g_now u) = (b9g_now S) ∧ (b9g_keys u) = (b9g_keys S) ∧ (b9g_lengths u) = (b9g_lengths S) ∧ (b9g_drawn u) = (b9g_drawn S) ∧ (b9g_drawnLength u) = (b9g_drawnLength S) ∧ (b9g_tape u) = (b9g_tape S) ∧ (b9g_taped u) = (b9g_taped S) ∧ (b9g_names u) = (b9g_names S) ∧ (b9g_chosen u) = (b9g_chosen S) ∧ (b9g_lowKey u) = (b9g_lowKey S) ∧ (b9g_highKey u) = (b9g_highKey S) ∧ (b9g_lowLength u) = (b9g_lowLength S) ∧ (b9g_highLength u) = (b9g_highLength S) ∧ (b9g_fromKey u) = (b9g_fromKey S) ∧ (b9g_toKey u) = (b9g_toKey S) ∧ (b9g_fromLength u) = (b9g_fromLength S) ∧ (b9g_toLength u) = (b9g_toLength S) ∧ (b9g_signs u) = (b9g_signs S) ∧ (b9g_signMany u) = (b9g_signMany S) ∧ (b9g_hasImage u) = (b9g_hasImage S) ∧ (b9g_images u) = (b9g_images S) ∧ (b9g_keyImages u) = (b9g_keyImages S) ∧ (b9g_lengthImages u) = (b9g_lengthImages S)
theorem sf_X9_laysOnes {S : bT9} (hJ : J9 S) {Q : (bT9) → Prop} (hq : ∀ u : bT9, (J9 u) → F_X9_laysOnes S u → Q u) : wp_X9_laysOnes S Q := by
  unfold wp_X9_laysOnes
  refine sf_X9_laysNodes hJ (fun u9 hJ9 hf9 => ?_)
  have hF9 : F_X9_laysOnes S u9 := ⟨hf9.1, hf9.2.1, hf9.2.2.1, hf9.2.2.2.1, hf9.2.2.2.2.1, hf9.2.2.2.2.2.1, hf9.2.2.2.2.2.2.1, hf9.2.2.2.2.2.2.2.1, hf9.2.2.2.2.2.2.2.2.1, hf9.2.2.2.2.2.2.2.2.2.1, hf9.2.2.2.2.2.2.2.2.2.2.1, hf9.2.2.2.2.2.2.2.2.2.2.2.1, hf9.2.2.2.2.2.2.2.2.2.2.2.2.1, hf9.2.2.2.2.2.2.2.2.2.2.2.2.2.1, hf9.2.2.2.2.2.2.2.2.2.2.2.2.2.2.1, hf9.2.2.2.2.2.2.2.2.2.2.2.2.2.2.2.1, hf9.2.2.2.2.2.2.2.2.2.2.2.2.2.2.2.2.1, hf9.2.2.2.2.2.2.2.2.2.2.2.2.2.2.2.2.2.1, hf9.2.2.2.2.2.2.2.2.2.2.2.2.2.2.2.2.2.2.2.2.2.1, hf9.2.2.2.2.2.2.2.2.2.2.2.2.2.2.2.2.2.2.2.2.2.2.1, hf9.2.2.2.2.2.2.2.2.2.2.2.2.2.2.2.2.2.2.2.2.2.2.2.1, hf9.2.2.2.2.2.2.2.2.2.2.2.2.2.2.2.2.2.2.2.2.2.2.2.2.1, hf9.2.2.2.2.2.2.2.2.2.2.2.2.2.2.2.2.2.2.2.2.2.2.2.2.2.1, hf9.2.2.2.2.2.2.2.2.2.2.2.2.2.2.2.2.2.2.2.2.2.2.2.2.2.2⟩
  refine ⟨fun c => ?_, fun c => hq _ hJ9 hF9⟩
  intro S10 e10 S11 e11
  have hJ11 : J9 S11 := by rw [e11, e10]; exact J9s_oneMany (J9s_laidFor hJ9) ⟨by decide, by decide⟩
  have hF11 : F_X9_laysOnes S S11 := by rw [e11, e10]; exact hF9
  have ho11 : (b9g_oneMany S11).toInt = 0 := by rw [e11]; rfl
  have rest : ∀ t : Int32, wp_X9_laysOnes_68 S11 t Q := by
    intro t
    unfold wp_X9_laysOnes_68
    intro S7 e7
    have hJ7 : J9 S7 := by rw [e7]; exact J9s_rowLong hJ11
    have hF7 : F_X9_laysOnes S S7 := by rw [e7]; exact hF11
    have ho7 : (b9g_oneMany S7).toInt = 0 := by rw [e7]; exact ho11
    have hN := J9g_ND hJ7
    have jm := J9g_nodeMany hJ7
    refine ⟨fun _ => ?_, fun _ => ?_⟩
    · unfold wp_X9_laysOnes_105
      refine ⟨fun n x V => J9 V ∧ F_X9_laysOnes S V ∧ 0 ≤ x.toInt ∧ (b9g_oneMany V).toInt ≤ x.toInt ∧ n = ((b9g_itemMany V).toInt + 1 - x.toInt).toNat, ⟨_, hJ7, hF7, by decide, by rw [ho7]; decide, rfl⟩, ?_⟩
      rintro n x V ⟨hJV, hF, h0, h1, hn⟩
      have ji := J9g_itemMany hJV
      unfold wp_X9_laysOnes_105b
      refine ⟨fun _ => hq _ hJV hF, fun c1 => ?_⟩
      simp (disch := first | ((try simp (disch := first | ((try simp only [pn]) <;> omega) | fail) only [pn, pq]) <;> omega) | fail) only [pn, pq] at c1
      have e1 : (x + 1).toInt = x.toInt + 1 := by rw [pt_add (by rw [pl_1]; omega) (by rw [pl_1]; omega), pl_1]
      refine sf_X9_isOne hJV.1 h0 (by omega) (fun r1 _ => ⟨fun _ => ?_, fun _ => ?_⟩)
      · unfold wp_X9_laysOnes_126
        refine ⟨_, ?_, hJV, hF, by omega, by omega, rfl⟩
        omega
      · refine sf_X9_one hJV (by omega) (fun u4 hJ4 hf4 h4 => ?_)
        have ei : b9g_itemMany u4 = b9g_itemMany V := hf4.2.2.2.2.2.2.2.2.2.2.2.2.2.2.2.2.2.2.2.2.2.2.2.2.1
        unfold wp_X9_laysOnes_126
        refine ⟨_, ?_, hJ4, ⟨(hf4.1).trans (hF.1), (hf4.2.1).trans (hF.2.1), (hf4.2.2.1).trans (hF.2.2.1), (hf4.2.2.2.1).trans (hF.2.2.2.1), (hf4.2.2.2.2.1).trans (hF.2.2.2.2.1), (hf4.2.2.2.2.2.1).trans (hF.2.2.2.2.2.1), (hf4.2.2.2.2.2.2.1).trans (hF.2.2.2.2.2.2.1), (hf4.2.2.2.2.2.2.2.1).trans (hF.2.2.2.2.2.2.2.1), (hf4.2.2.2.2.2.2.2.2.1).trans (hF.2.2.2.2.2.2.2.2.1), (hf4.2.2.2.2.2.2.2.2.2.1).trans (hF.2.2.2.2.2.2.2.2.2.1), (hf4.2.2.2.2.2.2.2.2.2.2.2.2.2.2.2.2.2.2.2.2.2.2.2.2.2.2.2.2.1).trans (hF.2.2.2.2.2.2.2.2.2.2.1), (hf4.2.2.2.2.2.2.2.2.2.2.2.2.2.2.2.2.2.2.2.2.2.2.2.2.2.2.2.2.2.1).trans (hF.2.2.2.2.2.2.2.2.2.2.2.1), (hf4.2.2.2.2.2.2.2.2.2.2.2.2.2.2.2.2.2.2.2.2.2.2.2.2.2.2.2.2.2.2.1).trans (hF.2.2.2.2.2.2.2.2.2.2.2.2.1), (hf4.2.2.2.2.2.2.2.2.2.2.2.2.2.2.2.2.2.2.2.2.2.2.2.2.2.2.2.2.2.2.2.1).trans (hF.2.2.2.2.2.2.2.2.2.2.2.2.2.1), (hf4.2.2.2.2.2.2.2.2.2.2.2.2.2.2.2.2.2.2.2.2.2.2.2.2.2.2.2.2.2.2.2.2.1).trans (hF.2.2.2.2.2.2.2.2.2.2.2.2.2.2.1), (hf4.2.2.2.2.2.2.2.2.2.2.2.2.2.2.2.2.2.2.2.2.2.2.2.2.2.2.2.2.2.2.2.2.2.1).trans (hF.2.2.2.2.2.2.2.2.2.2.2.2.2.2.2.1), (hf4.2.2.2.2.2.2.2.2.2.2.2.2.2.2.2.2.2.2.2.2.2.2.2.2.2.2.2.2.2.2.2.2.2.2.1).trans (hF.2.2.2.2.2.2.2.2.2.2.2.2.2.2.2.2.1), (hf4.2.2.2.2.2.2.2.2.2.2.2.2.2.2.2.2.2.2.2.2.2.2.2.2.2.2.2.2.2.2.2.2.2.2.2.1).trans (hF.2.2.2.2.2.2.2.2.2.2.2.2.2.2.2.2.2.1), (hf4.2.2.2.2.2.2.2.2.2.2.2.2.2.2.2.2.2.2.2.2.2.2.2.2.2.2.2.2.2.2.2.2.2.2.2.2.2.2.1).trans (hF.2.2.2.2.2.2.2.2.2.2.2.2.2.2.2.2.2.2.1), (hf4.2.2.2.2.2.2.2.2.2.2.2.2.2.2.2.2.2.2.2.2.2.2.2.2.2.2.2.2.2.2.2.2.2.2.2.2.2.2.2.1).trans (hF.2.2.2.2.2.2.2.2.2.2.2.2.2.2.2.2.2.2.2.1), (hf4.2.2.2.2.2.2.2.2.2.2.2.2.2.2.2.2.2.2.2.2.2.2.2.2.2.2.2.2.2.2.2.2.2.2.2.2.2.2.2.2.1).trans (hF.2.2.2.2.2.2.2.2.2.2.2.2.2.2.2.2.2.2.2.2.1), (hf4.2.2.2.2.2.2.2.2.2.2.2.2.2.2.2.2.2.2.2.2.2.2.2.2.2.2.2.2.2.2.2.2.2.2.2.2.2.2.2.2.2.1).trans (hF.2.2.2.2.2.2.2.2.2.2.2.2.2.2.2.2.2.2.2.2.2.1), (hf4.2.2.2.2.2.2.2.2.2.2.2.2.2.2.2.2.2.2.2.2.2.2.2.2.2.2.2.2.2.2.2.2.2.2.2.2.2.2.2.2.2.2.1).trans (hF.2.2.2.2.2.2.2.2.2.2.2.2.2.2.2.2.2.2.2.2.2.2.1), (hf4.2.2.2.2.2.2.2.2.2.2.2.2.2.2.2.2.2.2.2.2.2.2.2.2.2.2.2.2.2.2.2.2.2.2.2.2.2.2.2.2.2.2.2).trans (hF.2.2.2.2.2.2.2.2.2.2.2.2.2.2.2.2.2.2.2.2.2.2.2)⟩, by omega, by omega, rfl⟩
        rw [ei]
        omega
    · unfold wp_X9_laysOnes_81
      refine ⟨fun n x V => J9 V ∧ F_X9_laysOnes S V ∧ (b9g_nodeLevel V = b9g_nodeLevel S7 ∧ b9g_nodeLeaf V = b9g_nodeLeaf S7 ∧ b9g_nodeLeaves V = b9g_nodeLeaves S7 ∧ b9g_nodeMany V = b9g_nodeMany S7 ∧ b9g_upperNodes V = b9g_upperNodes S7) ∧ 0 ≤ x.toInt ∧ (x.toInt < (b9g_nodeMany S7).toInt → (b9g_oneMany V).toInt ≤ 64 * (b9g_nodeLevel S7 x.toNatClampNeg).toInt + (b9g_nodeLeaf S7 x.toNatClampNeg).toInt) ∧ n = ((b9g_upperNodes S7).toInt + 1 - x.toInt).toNat, ⟨_, hJ7, hF7, ⟨rfl, rfl, rfl, rfl, rfl⟩, by decide, ?_, rfl⟩, ?_⟩
      · intro h0
        have := (hN 0 (by rw [pl_0] at h0; omega)).1
        show (b9g_oneMany S7).toInt ≤ 64 * (b9g_nodeLevel S7 0).toInt + (b9g_nodeLeaf S7 0).toInt
        omega
      rintro n x V ⟨hJV, hF, ⟨n1, n2, n3, n4, n5⟩, h0, h1, hn⟩
      have ju := hJ7.2.1
      unfold wp_X9_laysOnes_81b
      refine ⟨fun _ => hq _ hJV hF, fun c1 => ?_⟩
      simp (disch := first | ((try simp (disch := first | ((try simp only [pn]) <;> omega) | fail) only [pn, pq]) <;> omega) | fail) only [pn, pq] at c1
      rw [n5] at c1
      have hx : x.toInt < (b9g_nodeMany S7).toInt := by omega
      have a := h1 hx
      have ex := pt_clamp h0
      have b := hN x.toNatClampNeg (by omega)
      have e1 : (x + 1).toInt = x.toInt + 1 := by rw [pt_add (by rw [pl_1]; omega) (by rw [pl_1]; omega), pl_1]
      have e2 := pt_clamp (i := x + 1) (by omega)
      have e3 : (x + 1).toNatClampNeg = x.toNatClampNeg + 1 := by omega
      refine sf_X9_onesOfNode hJV h0 (by rw [n4]; exact hx) (by omega) (fun u6 hJ6 hf6 h6 => ?_)
      rw [n3] at h6
      refine ⟨_, ?_, hJ6, ⟨(hf6.1).trans (hF.1), (hf6.2.1).trans (hF.2.1), (hf6.2.2.1).trans (hF.2.2.1), (hf6.2.2.2.1).trans (hF.2.2.2.1), (hf6.2.2.2.2.1).trans (hF.2.2.2.2.1), (hf6.2.2.2.2.2.1).trans (hF.2.2.2.2.2.1), (hf6.2.2.2.2.2.2.1).trans (hF.2.2.2.2.2.2.1), (hf6.2.2.2.2.2.2.2.1).trans (hF.2.2.2.2.2.2.2.1), (hf6.2.2.2.2.2.2.2.2.1).trans (hF.2.2.2.2.2.2.2.2.1), (hf6.2.2.2.2.2.2.2.2.2.1).trans (hF.2.2.2.2.2.2.2.2.2.1), (hf6.2.2.2.2.2.2.2.2.2.2.2.2.2.2.2.2.2.2.2.2.2.2.2.2.2.2.2.2.1).trans (hF.2.2.2.2.2.2.2.2.2.2.1), (hf6.2.2.2.2.2.2.2.2.2.2.2.2.2.2.2.2.2.2.2.2.2.2.2.2.2.2.2.2.2.1).trans (hF.2.2.2.2.2.2.2.2.2.2.2.1), (hf6.2.2.2.2.2.2.2.2.2.2.2.2.2.2.2.2.2.2.2.2.2.2.2.2.2.2.2.2.2.2.1).trans (hF.2.2.2.2.2.2.2.2.2.2.2.2.1), (hf6.2.2.2.2.2.2.2.2.2.2.2.2.2.2.2.2.2.2.2.2.2.2.2.2.2.2.2.2.2.2.2.1).trans (hF.2.2.2.2.2.2.2.2.2.2.2.2.2.1), (hf6.2.2.2.2.2.2.2.2.2.2.2.2.2.2.2.2.2.2.2.2.2.2.2.2.2.2.2.2.2.2.2.2.1).trans (hF.2.2.2.2.2.2.2.2.2.2.2.2.2.2.1), (hf6.2.2.2.2.2.2.2.2.2.2.2.2.2.2.2.2.2.2.2.2.2.2.2.2.2.2.2.2.2.2.2.2.2.1).trans (hF.2.2.2.2.2.2.2.2.2.2.2.2.2.2.2.1), (hf6.2.2.2.2.2.2.2.2.2.2.2.2.2.2.2.2.2.2.2.2.2.2.2.2.2.2.2.2.2.2.2.2.2.2.1).trans (hF.2.2.2.2.2.2.2.2.2.2.2.2.2.2.2.2.1), (hf6.2.2.2.2.2.2.2.2.2.2.2.2.2.2.2.2.2.2.2.2.2.2.2.2.2.2.2.2.2.2.2.2.2.2.2.1).trans (hF.2.2.2.2.2.2.2.2.2.2.2.2.2.2.2.2.2.1), (hf6.2.2.2.2.2.2.2.2.2.2.2.2.2.2.2.2.2.2.2.2.2.2.2.2.2.2.2.2.2.2.2.2.2.2.2.2.2.2.1).trans (hF.2.2.2.2.2.2.2.2.2.2.2.2.2.2.2.2.2.2.1), (hf6.2.2.2.2.2.2.2.2.2.2.2.2.2.2.2.2.2.2.2.2.2.2.2.2.2.2.2.2.2.2.2.2.2.2.2.2.2.2.2.1).trans (hF.2.2.2.2.2.2.2.2.2.2.2.2.2.2.2.2.2.2.2.1), (hf6.2.2.2.2.2.2.2.2.2.2.2.2.2.2.2.2.2.2.2.2.2.2.2.2.2.2.2.2.2.2.2.2.2.2.2.2.2.2.2.2.1).trans (hF.2.2.2.2.2.2.2.2.2.2.2.2.2.2.2.2.2.2.2.2.1), (hf6.2.2.2.2.2.2.2.2.2.2.2.2.2.2.2.2.2.2.2.2.2.2.2.2.2.2.2.2.2.2.2.2.2.2.2.2.2.2.2.2.2.1).trans (hF.2.2.2.2.2.2.2.2.2.2.2.2.2.2.2.2.2.2.2.2.2.1), (hf6.2.2.2.2.2.2.2.2.2.2.2.2.2.2.2.2.2.2.2.2.2.2.2.2.2.2.2.2.2.2.2.2.2.2.2.2.2.2.2.2.2.2.1).trans (hF.2.2.2.2.2.2.2.2.2.2.2.2.2.2.2.2.2.2.2.2.2.2.1), (hf6.2.2.2.2.2.2.2.2.2.2.2.2.2.2.2.2.2.2.2.2.2.2.2.2.2.2.2.2.2.2.2.2.2.2.2.2.2.2.2.2.2.2.2).trans (hF.2.2.2.2.2.2.2.2.2.2.2.2.2.2.2.2.2.2.2.2.2.2.2)⟩, ⟨(hf6.2.2.2.2.2.2.2.2.2.2.2.2.2.1).trans n1, (hf6.2.2.2.2.2.2.2.2.2.2.2.2.2.2.1).trans n2, (hf6.2.2.2.2.2.2.2.2.2.2.2.2.2.2.2.1).trans n3, (hf6.2.2.2.2.2.2.2.2.2.2.2.2.2.2.2.2.1).trans n4, (hf6.2.2.2.2.2.2.2.2.2.2.2.2.2.2.2.2.2.2.2.1).trans n5⟩, by omega, ?_, rfl⟩
      · omega
      · intro h3
        have := b.2 (by omega)
        rw [e3]
        omega
  exact ⟨fun _ => ⟨fun _ => rest _, fun _ => rest _⟩, fun _ => rest _⟩
set_option maxRecDepth 20000 in
set_option maxHeartbeats 8000000 in
theorem sf_X9_onesAhead {S : bT9} (hJ : K9 S) {a1 : Int32} {Q : Int32 → Prop} (hq : ∀ r : Int32, (0 ≤ r.toInt) → Q r) : wp_X9_onesAhead S a1 Q := by
  unfold wp_X9_onesAhead
  have jf1 := K9g_oneMany hJ
  have jf2 : (-4 ≤ ((b9g_now S) 1).toInt ∧ ((b9g_now S) 1).toInt ≤ 4) ∧ (-3 ≤ ((b9g_now S) 4).toInt ∧ ((b9g_now S) 4).toInt ≤ 252) ∧ (0 ≤ ((b9g_now S) 8).toInt ∧ ((b9g_now S) 8).toInt ≤ 64) ∧ (0 ≤ ((b9g_now S) 9).toInt ∧ ((b9g_now S) 9).toInt ≤ 64) ∧ (0 ≤ ((b9g_now S) 10).toInt ∧ ((b9g_now S) 10).toInt ≤ 16) ∧ (0 ≤ ((b9g_now S) 12).toInt ∧ ((b9g_now S) 12).toInt ≤ 8) := K9g_now hJ
  have rga1 := pt_rg a1
  refine ⟨fun n x1q1 x2q1 => (x1q1 = a1) ∧ (0 ≤ (x2q1).toInt) ∧ n = (((b9g_oneMany S)).toInt + 1 - (x2q1).toInt).toNat, ⟨_, rfl, (by (try simp (disch := first | ((try simp (disch := first | ((try simp only [pn]) <;> omega) | fail) only [pn, pq]) <;> omega) | fail) only [pn, pq]) <;> (intros; (try simp (disch := first | ((try simp (disch := first | ((try simp only [pn]) <;> omega) | fail) only [pn, pq]) <;> omega) | fail) only [pn, pq]) <;> omega)), rfl⟩, ?_⟩
  rintro n2 x1q1 x2q1 ⟨hkq1_0, hiq1_0, hn2⟩
  subst hkq1_0
  have rgx1q1 := pt_rg x1q1
  have rgx2q1 := pt_rg x2q1
  unfold wp_X9_onesAhead_2b
  refine ⟨fun c3 => ?_, fun c3 => ?_⟩
  · try simp (disch := first | ((try simp (disch := first | ((try simp only [pn]) <;> omega) | fail) only [pn, pq]) <;> omega) | fail) only [pn, pq] at c3
    exact hq _ (by (try simp (disch := first | ((try simp (disch := first | ((try simp only [pn]) <;> omega) | fail) only [pn, pq]) <;> omega) | fail) only [pn, pq]) <;> (intros; (try simp (disch := first | ((try simp (disch := first | ((try simp only [pn]) <;> omega) | fail) only [pn, pq]) <;> omega) | fail) only [pn, pq]) <;> omega))
  · try simp (disch := first | ((try simp (disch := first | ((try simp only [pn]) <;> omega) | fail) only [pn, pq]) <;> omega) | fail) only [pn, pq] at c3
    refine ⟨pt_in (by (try simp (disch := first | ((try simp (disch := first | ((try simp only [pn]) <;> omega) | fail) only [pn, pq]) <;> omega) | fail) only [pn, pq]) <;> (intros; (try simp (disch := first | ((try simp (disch := first | ((try simp only [pn]) <;> omega) | fail) only [pn, pq]) <;> omega) | fail) only [pn, pq]) <;> omega)) (by (try simp (disch := first | ((try simp (disch := first | ((try simp only [pn]) <;> omega) | fail) only [pn, pq]) <;> omega) | fail) only [pn, pq]) <;> (intros; (try simp (disch := first | ((try simp (disch := first | ((try simp only [pn]) <;> omega) | fail) only [pn, pq]) <;> omega) | fail) only [pn, pq]) <;> omega)), ?_⟩
    refine ⟨fun c4 => ?_, fun c4 => ?_⟩
    · try simp (disch := first | ((try simp (disch := first | ((try simp only [pn]) <;> omega) | fail) only [pn, pq]) <;> omega) | fail) only [pn, pq] at c4
      exact hq _ (by (try simp (disch := first | ((try simp (disch := first | ((try simp only [pn]) <;> omega) | fail) only [pn, pq]) <;> omega) | fail) only [pn, pq]) <;> (intros; (try simp (disch := first | ((try simp (disch := first | ((try simp only [pn]) <;> omega) | fail) only [pn, pq]) <;> omega) | fail) only [pn, pq]) <;> omega))
    · try simp (disch := first | ((try simp (disch := first | ((try simp only [pn]) <;> omega) | fail) only [pn, pq]) <;> omega) | fail) only [pn, pq] at c4
      refine ⟨_, ?_, ?_, ?_, rfl⟩
      · (try simp (disch := first | ((try simp (disch := first | ((try simp only [pn]) <;> omega) | fail) only [pn, pq]) <;> omega) | fail) only [pn, pq]) <;> (intros; (try simp (disch := first | ((try simp (disch := first | ((try simp only [pn]) <;> omega) | fail) only [pn, pq]) <;> omega) | fail) only [pn, pq]) <;> omega)
      · first | rfl | assumption
      · (try simp (disch := first | ((try simp (disch := first | ((try simp only [pn]) <;> omega) | fail) only [pn, pq]) <;> omega) | fail) only [pn, pq]) <;> (intros; (try simp (disch := first | ((try simp (disch := first | ((try simp only [pn]) <;> omega) | fail) only [pn, pq]) <;> omega) | fail) only [pn, pq]) <;> omega)
def F_X9_bit (S u : bT9) : Prop := (b9g_now u) = (b9g_now S) ∧ (b9g_keys u) = (b9g_keys S) ∧ (b9g_lengths u) = (b9g_lengths S) ∧ (b9g_drawn u) = (b9g_drawn S) ∧ (b9g_drawnLength u) = (b9g_drawnLength S) ∧ (b9g_tape u) = (b9g_tape S) ∧ (b9g_taped u) = (b9g_taped S) ∧ (b9g_names u) = (b9g_names S) ∧ (b9g_chosen u) = (b9g_chosen S) ∧ (b9g_lowKey u) = (b9g_lowKey S) ∧ (b9g_highKey u) = (b9g_highKey S) ∧ (b9g_lowLength u) = (b9g_lowLength S) ∧ (b9g_highLength u) = (b9g_highLength S) ∧ (b9g_fromKey u) = (b9g_fromKey S) ∧ (b9g_toKey u) = (b9g_toKey S) ∧ (b9g_fromLength u) = (b9g_fromLength S) ∧ (b9g_toLength u) = (b9g_toLength S) ∧ (b9g_signs u) = (b9g_signs S) ∧ (b9g_signMany u) = (b9g_signMany S) ∧ (b9g_hasImage u) = (b9g_hasImage S) ∧ (b9g_images u) = (b9g_images S) ∧ (b9g_keyImages u) = (b9g_keyImages S) ∧ (b9g_lengthImages u) = (b9g_lengthImages S)
set_option maxRecDepth 20000 in
set_option maxHeartbeats 8000000 in
theorem sf_X9_bit {S : bT9} (hJ : J9 S) {a1 : Int32} {Q : Int32 → (bT9) → Prop} (hq : ∀ (r : Int32) (u : bT9), (J9 u) → F_X9_bit S u → Q r u) : wp_X9_bit S a1 Q := by
  unfold wp_X9_bit
  have hFS : F_X9_bit S S := ⟨rfl, rfl, rfl, rfl, rfl, rfl, rfl, rfl, rfl, rfl, rfl, rfl, rfl, rfl, rfl, rfl, rfl, rfl, rfl, rfl, rfl, rfl, rfl⟩
  have jf1 := J9g_oneMany hJ
  have jf2 : (-4 ≤ ((b9g_now S) 1).toInt ∧ ((b9g_now S) 1).toInt ≤ 4) ∧ (-3 ≤ ((b9g_now S) 4).toInt ∧ ((b9g_now S) 4).toInt ≤ 252) ∧ (0 ≤ ((b9g_now S) 8).toInt ∧ ((b9g_now S) 8).toInt ≤ 64) ∧ (0 ≤ ((b9g_now S) 9).toInt ∧ ((b9g_now S) 9).toInt ≤ 64) ∧ (0 ≤ ((b9g_now S) 10).toInt ∧ ((b9g_now S) 10).toInt ≤ 16) ∧ (0 ≤ ((b9g_now S) 12).toInt ∧ ((b9g_now S) 12).toInt ≤ 8) := J9g_now hJ
  have ju2_S := hJ.2.1
  have rga1 := pt_rg a1
  intro S1 eS1
  have hJS1 : J9 S1 := by rw [eS1]; exact (J9s_told hJ)
  have hFS1 : F_X9_bit S S1 := by rw [eS1]; exact hFS
  have je3 : ((b9g_oneMany S1)).toInt = ((b9g_oneMany S)).toInt := by rw [eS1]
  have jf4 := J9g_oneMany hJS1
  have je5 : ((b9g_rowLong S1)).toInt = ((b9g_rowLong S)).toInt := by rw [eS1]
  have je7 : ((b9g_now S1) 1).toInt = ((b9g_now S) 1).toInt := congrArg (fun z => (z 1).toInt) hFS1.1
  have je9 : ((b9g_now S1) 4).toInt = ((b9g_now S) 4).toInt := congrArg (fun z => (z 4).toInt) hFS1.1
  have je11 : ((b9g_now S1) 7).toInt = ((b9g_now S) 7).toInt := congrArg (fun z => (z 7).toInt) hFS1.1
  have je13 : ((b9g_now S1) 8).toInt = ((b9g_now S) 8).toInt := congrArg (fun z => (z 8).toInt) hFS1.1
  have je15 : ((b9g_now S1) 9).toInt = ((b9g_now S) 9).toInt := congrArg (fun z => (z 9).toInt) hFS1.1
  have je17 : ((b9g_now S1) 10).toInt = ((b9g_now S) 10).toInt := congrArg (fun z => (z 10).toInt) hFS1.1
  have je19 : ((b9g_now S1) 12).toInt = ((b9g_now S) 12).toInt := congrArg (fun z => (z 12).toInt) hFS1.1
  have ju19_S1 := hJS1.2.1
  refine sf_X9_laysOnes hJS1 (fun u3 hJu3 hfu3  => ?_)
  have hFu3 : F_X9_bit S u3 := ⟨(congrArg (fun z => z) hfu3.2.1).trans hFS1.1, (congrArg (fun z => z) hfu3.2.2.1).trans hFS1.2.1, (congrArg (fun z => z) hfu3.2.2.2.1).trans hFS1.2.2.1, (congrArg (fun z => z) hfu3.2.2.2.2.1).trans hFS1.2.2.2.1, (congrArg (fun z => z) hfu3.2.2.2.2.2.1).trans hFS1.2.2.2.2.1, (congrArg (fun z => z) hfu3.2.2.2.2.2.2.1).trans hFS1.2.2.2.2.2.1, (congrArg (fun z => z) hfu3.2.2.2.2.2.2.2.1).trans hFS1.2.2.2.2.2.2.1, (congrArg (fun z => z) hfu3.2.2.2.2.2.2.2.2.1).trans hFS1.2.2.2.2.2.2.2.1, (congrArg (fun z => z) hfu3.2.2.2.2.2.2.2.2.2.1).trans hFS1.2.2.2.2.2.2.2.2.1, (congrArg (fun z => z) hfu3.2.2.2.2.2.2.2.2.2.2.1).trans hFS1.2.2.2.2.2.2.2.2.2.1, (congrArg (fun z => z) hfu3.2.2.2.2.2.2.2.2.2.2.2.1).trans hFS1.2.2.2.2.2.2.2.2.2.2.1, (congrArg (fun z => z) hfu3.2.2.2.2.2.2.2.2.2.2.2.2.1).trans hFS1.2.2.2.2.2.2.2.2.2.2.2.1, (congrArg (fun z => z) hfu3.2.2.2.2.2.2.2.2.2.2.2.2.2.1).trans hFS1.2.2.2.2.2.2.2.2.2.2.2.2.1, (congrArg (fun z => z) hfu3.2.2.2.2.2.2.2.2.2.2.2.2.2.2.1).trans hFS1.2.2.2.2.2.2.2.2.2.2.2.2.2.1, (congrArg (fun z => z) hfu3.2.2.2.2.2.2.2.2.2.2.2.2.2.2.2.1).trans hFS1.2.2.2.2.2.2.2.2.2.2.2.2.2.2.1, (congrArg (fun z => z) hfu3.2.2.2.2.2.2.2.2.2.2.2.2.2.2.2.2.1).trans hFS1.2.2.2.2.2.2.2.2.2.2.2.2.2.2.2.1, (congrArg (fun z => z) hfu3.2.2.2.2.2.2.2.2.2.2.2.2.2.2.2.2.2.1).trans hFS1.2.2.2.2.2.2.2.2.2.2.2.2.2.2.2.2.1, (congrArg (fun z => z) hfu3.2.2.2.2.2.2.2.2.2.2.2.2.2.2.2.2.2.2.1).trans hFS1.2.2.2.2.2.2.2.2.2.2.2.2.2.2.2.2.2.1, (congrArg (fun z => z) hfu3.2.2.2.2.2.2.2.2.2.2.2.2.2.2.2.2.2.2.2.1).trans hFS1.2.2.2.2.2.2.2.2.2.2.2.2.2.2.2.2.2.2.1, (congrArg (fun z => z) hfu3.2.2.2.2.2.2.2.2.2.2.2.2.2.2.2.2.2.2.2.2.1).trans hFS1.2.2.2.2.2.2.2.2.2.2.2.2.2.2.2.2.2.2.2.1, (congrArg (fun z => z) hfu3.2.2.2.2.2.2.2.2.2.2.2.2.2.2.2.2.2.2.2.2.2.1).trans hFS1.2.2.2.2.2.2.2.2.2.2.2.2.2.2.2.2.2.2.2.2.1, (congrArg (fun z => z) hfu3.2.2.2.2.2.2.2.2.2.2.2.2.2.2.2.2.2.2.2.2.2.2.1).trans hFS1.2.2.2.2.2.2.2.2.2.2.2.2.2.2.2.2.2.2.2.2.2.1, (congrArg (fun z => z) hfu3.2.2.2.2.2.2.2.2.2.2.2.2.2.2.2.2.2.2.2.2.2.2.2).trans hFS1.2.2.2.2.2.2.2.2.2.2.2.2.2.2.2.2.2.2.2.2.2.2⟩
  have jf20 := J9g_oneMany hJu3
  have je22 : ((b9g_now u3) 1).toInt = ((b9g_now S) 1).toInt := congrArg (fun z => (z 1).toInt) hFu3.1
  have je24 : ((b9g_now u3) 4).toInt = ((b9g_now S) 4).toInt := congrArg (fun z => (z 4).toInt) hFu3.1
  have je26 : ((b9g_now u3) 7).toInt = ((b9g_now S) 7).toInt := congrArg (fun z => (z 7).toInt) hFu3.1
  have je28 : ((b9g_now u3) 8).toInt = ((b9g_now S) 8).toInt := congrArg (fun z => (z 8).toInt) hFu3.1
  have je30 : ((b9g_now u3) 9).toInt = ((b9g_now S) 9).toInt := congrArg (fun z => (z 9).toInt) hFu3.1
  have je32 : ((b9g_now u3) 10).toInt = ((b9g_now S) 10).toInt := congrArg (fun z => (z 10).toInt) hFu3.1
  have je34 : ((b9g_now u3) 12).toInt = ((b9g_now S) 12).toInt := congrArg (fun z => (z 12).toInt) hFu3.1
  have ju34_u3 := hJu3.2.1
  refine sf_X9_isIn hJu3.1 (fun r4 hzr4 hr4_0 => ?_)
  try simp (disch := first | ((try simp (disch := first | ((try simp only [pn]) <;> omega) | fail) only [pn, pq]) <;> omega) | fail) only [pn, pq] at hr4_0
  refine ⟨fun c6 => ?_, fun c6 => ?_⟩
  · try simp (disch := first | ((try simp (disch := first | ((try simp only [pn]) <;> omega) | fail) only [pn, pq]) <;> omega) | fail) only [pn, pq] at c6
    refine sf_X9_onesAhead hJu3.1 (fun r7 hr7_0 => ?_)
    have rgr7 := pt_rg r7
    try simp (disch := first | ((try simp (disch := first | ((try simp only [pn]) <;> omega) | fail) only [pn, pq]) <;> omega) | fail) only [pn, pq] at hr7_0
    refine ⟨fun c9 => ?_, fun c9 => ?_⟩
    · try simp (disch := first | ((try simp (disch := first | ((try simp only [pn]) <;> omega) | fail) only [pn, pq]) <;> omega) | fail) only [pn, pq] at c9
      exact hq _ _ hJu3 hFu3 
    · try simp (disch := first | ((try simp (disch := first | ((try simp only [pn]) <;> omega) | fail) only [pn, pq]) <;> omega) | fail) only [pn, pq] at c9
      refine ⟨pt_in (by (try simp (disch := first | ((try simp (disch := first | ((try simp only [pn]) <;> omega) | fail) only [pn, pq]) <;> omega) | fail) only [pn, pq]) <;> (intros; (try simp (disch := first | ((try simp (disch := first | ((try simp only [pn]) <;> omega) | fail) only [pn, pq]) <;> omega) | fail) only [pn, pq]) <;> omega)) (by (try simp (disch := first | ((try simp (disch := first | ((try simp only [pn]) <;> omega) | fail) only [pn, pq]) <;> omega) | fail) only [pn, pq]) <;> (intros; (try simp (disch := first | ((try simp (disch := first | ((try simp only [pn]) <;> omega) | fail) only [pn, pq]) <;> omega) | fail) only [pn, pq]) <;> omega)), ?_⟩
      refine ⟨fun c10 => ?_, fun c10 => ?_⟩
      · try simp (disch := first | ((try simp (disch := first | ((try simp only [pn]) <;> omega) | fail) only [pn, pq]) <;> omega) | fail) only [pn, pq] at c10
        exact hq _ _ hJu3 hFu3 
      · try simp (disch := first | ((try simp (disch := first | ((try simp only [pn]) <;> omega) | fail) only [pn, pq]) <;> omega) | fail) only [pn, pq] at c10
        exact hq _ _ hJu3 hFu3 
  · try simp (disch := first | ((try simp (disch := first | ((try simp only [pn]) <;> omega) | fail) only [pn, pq]) <;> omega) | fail) only [pn, pq] at c6
    exact hq _ _ hJu3 hFu3 
def F_X9_rank (S u : bT9) : Prop := (b9g_now u) = (b9g_now S) ∧ (b9g_keys u) = (b9g_keys S) ∧ (b9g_lengths u) = (b9g_lengths S) ∧ (b9g_drawn u) = (b9g_drawn S) ∧ (b9g_drawnLength u) = (b9g_drawnLength S) ∧ (b9g_tape u) = (b9g_tape S) ∧ (b9g_taped u) = (b9g_taped S) ∧ (b9g_names u) = (b9g_names S) ∧ (b9g_chosen u) = (b9g_chosen S) ∧ (b9g_lowKey u) = (b9g_lowKey S) ∧ (b9g_highKey u) = (b9g_highKey S) ∧ (b9g_lowLength u) = (b9g_lowLength S) ∧ (b9g_highLength u) = (b9g_highLength S) ∧ (b9g_fromKey u) = (b9g_fromKey S) ∧ (b9g_toKey u) = (b9g_toKey S) ∧ (b9g_fromLength u) = (b9g_fromLength S) ∧ (b9g_toLength u) = (b9g_toLength S) ∧ (b9g_signs u) = (b9g_signs S) ∧ (b9g_signMany u) = (b9g_signMany S) ∧ (b9g_hasImage u) = (b9g_hasImage S) ∧ (b9g_images u) = (b9g_images S) ∧ (b9g_keyImages u) = (b9g_keyImages S) ∧ (b9g_lengthImages u) = (b9g_lengthImages S)
set_option maxRecDepth 20000 in
set_option maxHeartbeats 8000000 in
theorem sf_X9_rank {S : bT9} (hJ : J9 S) {a1 : Int32} {Q : Int32 → (bT9) → Prop} (hq : ∀ (r : Int32) (u : bT9), (J9 u) → F_X9_rank S u → Q r u) : wp_X9_rank S a1 Q := by
  unfold wp_X9_rank
  have hFS : F_X9_rank S S := ⟨rfl, rfl, rfl, rfl, rfl, rfl, rfl, rfl, rfl, rfl, rfl, rfl, rfl, rfl, rfl, rfl, rfl, rfl, rfl, rfl, rfl, rfl, rfl⟩
  have jf1 : (-4 ≤ ((b9g_now S) 1).toInt ∧ ((b9g_now S) 1).toInt ≤ 4) ∧ (-3 ≤ ((b9g_now S) 4).toInt ∧ ((b9g_now S) 4).toInt ≤ 252) ∧ (0 ≤ ((b9g_now S) 8).toInt ∧ ((b9g_now S) 8).toInt ≤ 64) ∧ (0 ≤ ((b9g_now S) 9).toInt ∧ ((b9g_now S) 9).toInt ≤ 64) ∧ (0 ≤ ((b9g_now S) 10).toInt ∧ ((b9g_now S) 10).toInt ≤ 16) ∧ (0 ≤ ((b9g_now S) 12).toInt ∧ ((b9g_now S) 12).toInt ≤ 8) := J9g_now hJ
  have ju1_S := hJ.2.1
  have rga1 := pt_rg a1
  intro S1 eS1
  have hJS1 : J9 S1 := by rw [eS1]; exact (J9s_told hJ)
  have hFS1 : F_X9_rank S S1 := by rw [eS1]; exact hFS
  have je2 : ((b9g_rowLong S1)).toInt = ((b9g_rowLong S)).toInt := by rw [eS1]
  have je4 : ((b9g_now S1) 1).toInt = ((b9g_now S) 1).toInt := congrArg (fun z => (z 1).toInt) hFS1.1
  have je6 : ((b9g_now S1) 4).toInt = ((b9g_now S) 4).toInt := congrArg (fun z => (z 4).toInt) hFS1.1
  have je8 : ((b9g_now S1) 7).toInt = ((b9g_now S) 7).toInt := congrArg (fun z => (z 7).toInt) hFS1.1
  have je10 : ((b9g_now S1) 8).toInt = ((b9g_now S) 8).toInt := congrArg (fun z => (z 8).toInt) hFS1.1
  have je12 : ((b9g_now S1) 9).toInt = ((b9g_now S) 9).toInt := congrArg (fun z => (z 9).toInt) hFS1.1
  have je14 : ((b9g_now S1) 10).toInt = ((b9g_now S) 10).toInt := congrArg (fun z => (z 10).toInt) hFS1.1
  have je16 : ((b9g_now S1) 12).toInt = ((b9g_now S) 12).toInt := congrArg (fun z => (z 12).toInt) hFS1.1
  have ju16_S1 := hJS1.2.1
  refine sf_X9_laysOnes hJS1 (fun u3 hJu3 hfu3  => ?_)
  have hFu3 : F_X9_rank S u3 := ⟨(congrArg (fun z => z) hfu3.2.1).trans hFS1.1, (congrArg (fun z => z) hfu3.2.2.1).trans hFS1.2.1, (congrArg (fun z => z) hfu3.2.2.2.1).trans hFS1.2.2.1, (congrArg (fun z => z) hfu3.2.2.2.2.1).trans hFS1.2.2.2.1, (congrArg (fun z => z) hfu3.2.2.2.2.2.1).trans hFS1.2.2.2.2.1, (congrArg (fun z => z) hfu3.2.2.2.2.2.2.1).trans hFS1.2.2.2.2.2.1, (congrArg (fun z => z) hfu3.2.2.2.2.2.2.2.1).trans hFS1.2.2.2.2.2.2.1, (congrArg (fun z => z) hfu3.2.2.2.2.2.2.2.2.1).trans hFS1.2.2.2.2.2.2.2.1, (congrArg (fun z => z) hfu3.2.2.2.2.2.2.2.2.2.1).trans hFS1.2.2.2.2.2.2.2.2.1, (congrArg (fun z => z) hfu3.2.2.2.2.2.2.2.2.2.2.1).trans hFS1.2.2.2.2.2.2.2.2.2.1, (congrArg (fun z => z) hfu3.2.2.2.2.2.2.2.2.2.2.2.1).trans hFS1.2.2.2.2.2.2.2.2.2.2.1, (congrArg (fun z => z) hfu3.2.2.2.2.2.2.2.2.2.2.2.2.1).trans hFS1.2.2.2.2.2.2.2.2.2.2.2.1, (congrArg (fun z => z) hfu3.2.2.2.2.2.2.2.2.2.2.2.2.2.1).trans hFS1.2.2.2.2.2.2.2.2.2.2.2.2.1, (congrArg (fun z => z) hfu3.2.2.2.2.2.2.2.2.2.2.2.2.2.2.1).trans hFS1.2.2.2.2.2.2.2.2.2.2.2.2.2.1, (congrArg (fun z => z) hfu3.2.2.2.2.2.2.2.2.2.2.2.2.2.2.2.1).trans hFS1.2.2.2.2.2.2.2.2.2.2.2.2.2.2.1, (congrArg (fun z => z) hfu3.2.2.2.2.2.2.2.2.2.2.2.2.2.2.2.2.1).trans hFS1.2.2.2.2.2.2.2.2.2.2.2.2.2.2.2.1, (congrArg (fun z => z) hfu3.2.2.2.2.2.2.2.2.2.2.2.2.2.2.2.2.2.1).trans hFS1.2.2.2.2.2.2.2.2.2.2.2.2.2.2.2.2.1, (congrArg (fun z => z) hfu3.2.2.2.2.2.2.2.2.2.2.2.2.2.2.2.2.2.2.1).trans hFS1.2.2.2.2.2.2.2.2.2.2.2.2.2.2.2.2.2.1, (congrArg (fun z => z) hfu3.2.2.2.2.2.2.2.2.2.2.2.2.2.2.2.2.2.2.2.1).trans hFS1.2.2.2.2.2.2.2.2.2.2.2.2.2.2.2.2.2.2.1, (congrArg (fun z => z) hfu3.2.2.2.2.2.2.2.2.2.2.2.2.2.2.2.2.2.2.2.2.1).trans hFS1.2.2.2.2.2.2.2.2.2.2.2.2.2.2.2.2.2.2.2.1, (congrArg (fun z => z) hfu3.2.2.2.2.2.2.2.2.2.2.2.2.2.2.2.2.2.2.2.2.2.1).trans hFS1.2.2.2.2.2.2.2.2.2.2.2.2.2.2.2.2.2.2.2.2.1, (congrArg (fun z => z) hfu3.2.2.2.2.2.2.2.2.2.2.2.2.2.2.2.2.2.2.2.2.2.2.1).trans hFS1.2.2.2.2.2.2.2.2.2.2.2.2.2.2.2.2.2.2.2.2.2.1, (congrArg (fun z => z) hfu3.2.2.2.2.2.2.2.2.2.2.2.2.2.2.2.2.2.2.2.2.2.2.2).trans hFS1.2.2.2.2.2.2.2.2.2.2.2.2.2.2.2.2.2.2.2.2.2.2⟩
  have je18 : ((b9g_now u3) 1).toInt = ((b9g_now S) 1).toInt := congrArg (fun z => (z 1).toInt) hFu3.1
  have je20 : ((b9g_now u3) 4).toInt = ((b9g_now S) 4).toInt := congrArg (fun z => (z 4).toInt) hFu3.1
  have je22 : ((b9g_now u3) 7).toInt = ((b9g_now S) 7).toInt := congrArg (fun z => (z 7).toInt) hFu3.1
  have je24 : ((b9g_now u3) 8).toInt = ((b9g_now S) 8).toInt := congrArg (fun z => (z 8).toInt) hFu3.1
  have je26 : ((b9g_now u3) 9).toInt = ((b9g_now S) 9).toInt := congrArg (fun z => (z 9).toInt) hFu3.1
  have je28 : ((b9g_now u3) 10).toInt = ((b9g_now S) 10).toInt := congrArg (fun z => (z 10).toInt) hFu3.1
  have je30 : ((b9g_now u3) 12).toInt = ((b9g_now S) 12).toInt := congrArg (fun z => (z 12).toInt) hFu3.1
  have ju30_u3 := hJu3.2.1
  refine sf_X9_isIn hJu3.1 (fun r4 hzr4 hr4_0 => ?_)
  try simp (disch := first | ((try simp (disch := first | ((try simp only [pn]) <;> omega) | fail) only [pn, pq]) <;> omega) | fail) only [pn, pq] at hr4_0
  refine ⟨fun c6 => ?_, fun c6 => ?_⟩
  · try simp (disch := first | ((try simp (disch := first | ((try simp only [pn]) <;> omega) | fail) only [pn, pq]) <;> omega) | fail) only [pn, pq] at c6
    exact hq _ _ hJu3 hFu3 
  · try simp (disch := first | ((try simp (disch := first | ((try simp only [pn]) <;> omega) | fail) only [pn, pq]) <;> omega) | fail) only [pn, pq] at c6
    refine sf_X9_onesAhead hJu3.1 (fun r7 hr7_0 => ?_)
    have rgr7 := pt_rg r7
    try simp (disch := first | ((try simp (disch := first | ((try simp only [pn]) <;> omega) | fail) only [pn, pq]) <;> omega) | fail) only [pn, pq] at hr7_0
    exact hq _ _ hJu3 hFu3 
def F_X9_select (S u : bT9) : Prop := (b9g_now u) = (b9g_now S) ∧ (b9g_keys u) = (b9g_keys S) ∧ (b9g_lengths u) = (b9g_lengths S) ∧ (b9g_drawn u) = (b9g_drawn S) ∧ (b9g_drawnLength u) = (b9g_drawnLength S) ∧ (b9g_tape u) = (b9g_tape S) ∧ (b9g_taped u) = (b9g_taped S) ∧ (b9g_names u) = (b9g_names S) ∧ (b9g_chosen u) = (b9g_chosen S) ∧ (b9g_lowKey u) = (b9g_lowKey S) ∧ (b9g_highKey u) = (b9g_highKey S) ∧ (b9g_lowLength u) = (b9g_lowLength S) ∧ (b9g_highLength u) = (b9g_highLength S) ∧ (b9g_fromKey u) = (b9g_fromKey S) ∧ (b9g_toKey u) = (b9g_toKey S) ∧ (b9g_fromLength u) = (b9g_fromLength S) ∧ (b9g_toLength u) = (b9g_toLength S) ∧ (b9g_signs u) = (b9g_signs S) ∧ (b9g_signMany u) = (b9g_signMany S) ∧ (b9g_hasImage u) = (b9g_hasImage S) ∧ (b9g_images u) = (b9g_images S) ∧ (b9g_keyImages u) = (b9g_keyImages S) ∧ (b9g_lengthImages u) = (b9g_lengthImages S)
set_option maxRecDepth 20000 in
set_option maxHeartbeats 8000000 in
theorem sf_X9_select {S : bT9} (hJ : J9 S) {a1 : Int32} {Q : Int32 → (bT9) → Prop} (hq : ∀ (r : Int32) (u : bT9), (J9 u) → F_X9_select S u → Q r u) : wp_X9_select S a1 Q := by
  unfold wp_X9_select
  have hFS : F_X9_select S S := ⟨rfl, rfl, rfl, rfl, rfl, rfl, rfl, rfl, rfl, rfl, rfl, rfl, rfl, rfl, rfl, rfl, rfl, rfl, rfl, rfl, rfl, rfl, rfl⟩
  have jf1 := J9g_oneMany hJ
  have jf2 : (-4 ≤ ((b9g_now S) 1).toInt ∧ ((b9g_now S) 1).toInt ≤ 4) ∧ (-3 ≤ ((b9g_now S) 4).toInt ∧ ((b9g_now S) 4).toInt ≤ 252) ∧ (0 ≤ ((b9g_now S) 8).toInt ∧ ((b9g_now S) 8).toInt ≤ 64) ∧ (0 ≤ ((b9g_now S) 9).toInt ∧ ((b9g_now S) 9).toInt ≤ 64) ∧ (0 ≤ ((b9g_now S) 10).toInt ∧ ((b9g_now S) 10).toInt ≤ 16) ∧ (0 ≤ ((b9g_now S) 12).toInt ∧ ((b9g_now S) 12).toInt ≤ 8) := J9g_now hJ
  have ju2_S := hJ.2.1
  have rga1 := pt_rg a1
  intro S1 eS1
  have hJS1 : J9 S1 := by rw [eS1]; exact (J9s_told hJ)
  have hFS1 : F_X9_select S S1 := by rw [eS1]; exact hFS
  have je3 : ((b9g_oneMany S1)).toInt = ((b9g_oneMany S)).toInt := by rw [eS1]
  have jf4 := J9g_oneMany hJS1
  have je6 : ((b9g_now S1) 1).toInt = ((b9g_now S) 1).toInt := congrArg (fun z => (z 1).toInt) hFS1.1
  have je8 : ((b9g_now S1) 4).toInt = ((b9g_now S) 4).toInt := congrArg (fun z => (z 4).toInt) hFS1.1
  have je10 : ((b9g_now S1) 7).toInt = ((b9g_now S) 7).toInt := congrArg (fun z => (z 7).toInt) hFS1.1
  have je12 : ((b9g_now S1) 8).toInt = ((b9g_now S) 8).toInt := congrArg (fun z => (z 8).toInt) hFS1.1
  have je14 : ((b9g_now S1) 9).toInt = ((b9g_now S) 9).toInt := congrArg (fun z => (z 9).toInt) hFS1.1
  have je16 : ((b9g_now S1) 10).toInt = ((b9g_now S) 10).toInt := congrArg (fun z => (z 10).toInt) hFS1.1
  have je18 : ((b9g_now S1) 12).toInt = ((b9g_now S) 12).toInt := congrArg (fun z => (z 12).toInt) hFS1.1
  have ju18_S1 := hJS1.2.1
  refine sf_X9_laysOnes hJS1 (fun u3 hJu3 hfu3  => ?_)
  have hFu3 : F_X9_select S u3 := ⟨(congrArg (fun z => z) hfu3.2.1).trans hFS1.1, (congrArg (fun z => z) hfu3.2.2.1).trans hFS1.2.1, (congrArg (fun z => z) hfu3.2.2.2.1).trans hFS1.2.2.1, (congrArg (fun z => z) hfu3.2.2.2.2.1).trans hFS1.2.2.2.1, (congrArg (fun z => z) hfu3.2.2.2.2.2.1).trans hFS1.2.2.2.2.1, (congrArg (fun z => z) hfu3.2.2.2.2.2.2.1).trans hFS1.2.2.2.2.2.1, (congrArg (fun z => z) hfu3.2.2.2.2.2.2.2.1).trans hFS1.2.2.2.2.2.2.1, (congrArg (fun z => z) hfu3.2.2.2.2.2.2.2.2.1).trans hFS1.2.2.2.2.2.2.2.1, (congrArg (fun z => z) hfu3.2.2.2.2.2.2.2.2.2.1).trans hFS1.2.2.2.2.2.2.2.2.1, (congrArg (fun z => z) hfu3.2.2.2.2.2.2.2.2.2.2.1).trans hFS1.2.2.2.2.2.2.2.2.2.1, (congrArg (fun z => z) hfu3.2.2.2.2.2.2.2.2.2.2.2.1).trans hFS1.2.2.2.2.2.2.2.2.2.2.1, (congrArg (fun z => z) hfu3.2.2.2.2.2.2.2.2.2.2.2.2.1).trans hFS1.2.2.2.2.2.2.2.2.2.2.2.1, (congrArg (fun z => z) hfu3.2.2.2.2.2.2.2.2.2.2.2.2.2.1).trans hFS1.2.2.2.2.2.2.2.2.2.2.2.2.1, (congrArg (fun z => z) hfu3.2.2.2.2.2.2.2.2.2.2.2.2.2.2.1).trans hFS1.2.2.2.2.2.2.2.2.2.2.2.2.2.1, (congrArg (fun z => z) hfu3.2.2.2.2.2.2.2.2.2.2.2.2.2.2.2.1).trans hFS1.2.2.2.2.2.2.2.2.2.2.2.2.2.2.1, (congrArg (fun z => z) hfu3.2.2.2.2.2.2.2.2.2.2.2.2.2.2.2.2.1).trans hFS1.2.2.2.2.2.2.2.2.2.2.2.2.2.2.2.1, (congrArg (fun z => z) hfu3.2.2.2.2.2.2.2.2.2.2.2.2.2.2.2.2.2.1).trans hFS1.2.2.2.2.2.2.2.2.2.2.2.2.2.2.2.2.1, (congrArg (fun z => z) hfu3.2.2.2.2.2.2.2.2.2.2.2.2.2.2.2.2.2.2.1).trans hFS1.2.2.2.2.2.2.2.2.2.2.2.2.2.2.2.2.2.1, (congrArg (fun z => z) hfu3.2.2.2.2.2.2.2.2.2.2.2.2.2.2.2.2.2.2.2.1).trans hFS1.2.2.2.2.2.2.2.2.2.2.2.2.2.2.2.2.2.2.1, (congrArg (fun z => z) hfu3.2.2.2.2.2.2.2.2.2.2.2.2.2.2.2.2.2.2.2.2.1).trans hFS1.2.2.2.2.2.2.2.2.2.2.2.2.2.2.2.2.2.2.2.1, (congrArg (fun z => z) hfu3.2.2.2.2.2.2.2.2.2.2.2.2.2.2.2.2.2.2.2.2.2.1).trans hFS1.2.2.2.2.2.2.2.2.2.2.2.2.2.2.2.2.2.2.2.2.1, (congrArg (fun z => z) hfu3.2.2.2.2.2.2.2.2.2.2.2.2.2.2.2.2.2.2.2.2.2.2.1).trans hFS1.2.2.2.2.2.2.2.2.2.2.2.2.2.2.2.2.2.2.2.2.2.1, (congrArg (fun z => z) hfu3.2.2.2.2.2.2.2.2.2.2.2.2.2.2.2.2.2.2.2.2.2.2.2).trans hFS1.2.2.2.2.2.2.2.2.2.2.2.2.2.2.2.2.2.2.2.2.2.2⟩
  have jf19 := J9g_oneMany hJu3
  have je21 : ((b9g_now u3) 1).toInt = ((b9g_now S) 1).toInt := congrArg (fun z => (z 1).toInt) hFu3.1
  have je23 : ((b9g_now u3) 4).toInt = ((b9g_now S) 4).toInt := congrArg (fun z => (z 4).toInt) hFu3.1
  have je25 : ((b9g_now u3) 7).toInt = ((b9g_now S) 7).toInt := congrArg (fun z => (z 7).toInt) hFu3.1
  have je27 : ((b9g_now u3) 8).toInt = ((b9g_now S) 8).toInt := congrArg (fun z => (z 8).toInt) hFu3.1
  have je29 : ((b9g_now u3) 9).toInt = ((b9g_now S) 9).toInt := congrArg (fun z => (z 9).toInt) hFu3.1
  have je31 : ((b9g_now u3) 10).toInt = ((b9g_now S) 10).toInt := congrArg (fun z => (z 10).toInt) hFu3.1
  have je33 : ((b9g_now u3) 12).toInt = ((b9g_now S) 12).toInt := congrArg (fun z => (z 12).toInt) hFu3.1
  have ju33_u3 := hJu3.2.1
  refine sf_X9_isIn hJu3.1 (fun r4 hzr4 hr4_0 => ?_)
  try simp (disch := first | ((try simp (disch := first | ((try simp only [pn]) <;> omega) | fail) only [pn, pq]) <;> omega) | fail) only [pn, pq] at hr4_0
  refine ⟨fun c6 => ?_, fun c6 => ?_⟩
  · try simp (disch := first | ((try simp (disch := first | ((try simp only [pn]) <;> omega) | fail) only [pn, pq]) <;> omega) | fail) only [pn, pq] at c6
    exact hq _ _ hJu3 hFu3 
  · try simp (disch := first | ((try simp (disch := first | ((try simp only [pn]) <;> omega) | fail) only [pn, pq]) <;> omega) | fail) only [pn, pq] at c6
    refine ⟨pt_in (by (try simp (disch := first | ((try simp (disch := first | ((try simp only [pn]) <;> omega) | fail) only [pn, pq]) <;> omega) | fail) only [pn, pq]) <;> (intros; (try simp (disch := first | ((try simp (disch := first | ((try simp only [pn]) <;> omega) | fail) only [pn, pq]) <;> omega) | fail) only [pn, pq]) <;> omega)) (by (try simp (disch := first | ((try simp (disch := first | ((try simp only [pn]) <;> omega) | fail) only [pn, pq]) <;> omega) | fail) only [pn, pq]) <;> (intros; (try simp (disch := first | ((try simp (disch := first | ((try simp only [pn]) <;> omega) | fail) only [pn, pq]) <;> omega) | fail) only [pn, pq]) <;> omega)), ?_⟩
    exact hq _ _ hJu3 hFu3 
set_option maxRecDepth 20000 in
set_option maxHeartbeats 8000000 in
theorem sf_X9_tailBits {S : bT9} (hJ : K9 S) {Q : Int32 → Prop} (hq : ∀ r : Int32, Q r) : wp_X9_tailBits S Q := by
  unfold wp_X9_tailBits
  have jf1 : (-4 ≤ ((b9g_now S) 1).toInt ∧ ((b9g_now S) 1).toInt ≤ 4) ∧ (-3 ≤ ((b9g_now S) 4).toInt ∧ ((b9g_now S) 4).toInt ≤ 252) ∧ (0 ≤ ((b9g_now S) 8).toInt ∧ ((b9g_now S) 8).toInt ≤ 64) ∧ (0 ≤ ((b9g_now S) 9).toInt ∧ ((b9g_now S) 9).toInt ≤ 64) ∧ (0 ≤ ((b9g_now S) 10).toInt ∧ ((b9g_now S) 10).toInt ≤ 16) ∧ (0 ≤ ((b9g_now S) 12).toInt ∧ ((b9g_now S) 12).toInt ≤ 8) := K9g_now hJ
  refine ⟨pt_in (by (try simp (disch := first | ((try simp (disch := first | ((try simp only [pn]) <;> omega) | fail) only [pn, pq]) <;> omega) | fail) only [pn, pq]) <;> (intros; (try simp (disch := first | ((try simp (disch := first | ((try simp only [pn]) <;> omega) | fail) only [pn, pq]) <;> omega) | fail) only [pn, pq]) <;> omega)) (by (try simp (disch := first | ((try simp (disch := first | ((try simp only [pn]) <;> omega) | fail) only [pn, pq]) <;> omega) | fail) only [pn, pq]) <;> (intros; (try simp (disch := first | ((try simp (disch := first | ((try simp only [pn]) <;> omega) | fail) only [pn, pq]) <;> omega) | fail) only [pn, pq]) <;> omega)), ?_⟩
  refine sf_X9_hashBits hJ (fun r1 hr1_0 => ?_)
  have rgr1 := pt_rg r1
  refine sf_X9_nextBits hJ (fun r3 hr3_0 hr3_1 hr3_2 => ?_)
  have rgr3 := pt_rg r3
  try simp (disch := first | ((try simp (disch := first | ((try simp only [pn]) <;> omega) | fail) only [pn, pq]) <;> omega) | fail) only [pn, pq] at hr3_0
  try simp (disch := first | ((try simp (disch := first | ((try simp only [pn]) <;> omega) | fail) only [pn, pq]) <;> omega) | fail) only [pn, pq] at hr3_1
  exact hq _ 
set_option maxRecDepth 20000 in
set_option maxHeartbeats 8000000 in
theorem sf_X9_keyBits {S : bT9} (hJ : K9 S) {Q : Int32 → Prop} (hq : ∀ r : Int32, Q r) : wp_X9_keyBits S Q := by
  unfold wp_X9_keyBits
  have jf1 : (-4 ≤ ((b9g_now S) 1).toInt ∧ ((b9g_now S) 1).toInt ≤ 4) ∧ (-3 ≤ ((b9g_now S) 4).toInt ∧ ((b9g_now S) 4).toInt ≤ 252) ∧ (0 ≤ ((b9g_now S) 8).toInt ∧ ((b9g_now S) 8).toInt ≤ 64) ∧ (0 ≤ ((b9g_now S) 9).toInt ∧ ((b9g_now S) 9).toInt ≤ 64) ∧ (0 ≤ ((b9g_now S) 10).toInt ∧ ((b9g_now S) 10).toInt ≤ 16) ∧ (0 ≤ ((b9g_now S) 12).toInt ∧ ((b9g_now S) 12).toInt ≤ 8) := K9g_now hJ
  refine ⟨fun n x1q1 x2q1 => (0 ≤ (x2q1).toInt) ∧ n = ((((b9g_now S) 9)).toInt + 1 - (x2q1).toInt).toNat, ⟨_, (by (try simp (disch := first | ((try simp (disch := first | ((try simp only [pn]) <;> omega) | fail) only [pn, pq]) <;> omega) | fail) only [pn, pq]) <;> (intros; (try simp (disch := first | ((try simp (disch := first | ((try simp only [pn]) <;> omega) | fail) only [pn, pq]) <;> omega) | fail) only [pn, pq]) <;> omega)), rfl⟩, ?_⟩
  rintro n2 x1q1 x2q1 ⟨hiq1_0, hn2⟩
  have rgx1q1 := pt_rg x1q1
  have rgx2q1 := pt_rg x2q1
  unfold wp_X9_keyBits_4b
  refine ⟨pt_in (by (try simp (disch := first | ((try simp (disch := first | ((try simp only [pn]) <;> omega) | fail) only [pn, pq]) <;> omega) | fail) only [pn, pq]) <;> (intros; (try simp (disch := first | ((try simp (disch := first | ((try simp only [pn]) <;> omega) | fail) only [pn, pq]) <;> omega) | fail) only [pn, pq]) <;> omega)) (by (try simp (disch := first | ((try simp (disch := first | ((try simp only [pn]) <;> omega) | fail) only [pn, pq]) <;> omega) | fail) only [pn, pq]) <;> (intros; (try simp (disch := first | ((try simp (disch := first | ((try simp only [pn]) <;> omega) | fail) only [pn, pq]) <;> omega) | fail) only [pn, pq]) <;> omega)), ?_⟩
  refine ⟨fun c3 => ?_, fun c3 => ?_⟩
  · try simp (disch := first | ((try simp (disch := first | ((try simp only [pn]) <;> omega) | fail) only [pn, pq]) <;> omega) | fail) only [pn, pq] at c3
    exact hq _ 
  · try simp (disch := first | ((try simp (disch := first | ((try simp only [pn]) <;> omega) | fail) only [pn, pq]) <;> omega) | fail) only [pn, pq] at c3
    refine sf_X9_lengthOf hJ (by (try simp (disch := first | ((try simp (disch := first | ((try simp only [pn]) <;> omega) | fail) only [pn, pq]) <;> omega) | fail) only [pn, pq]) <;> (intros; (try simp (disch := first | ((try simp (disch := first | ((try simp only [pn]) <;> omega) | fail) only [pn, pq]) <;> omega) | fail) only [pn, pq]) <;> omega)) (by (try simp (disch := first | ((try simp (disch := first | ((try simp only [pn]) <;> omega) | fail) only [pn, pq]) <;> omega) | fail) only [pn, pq]) <;> (intros; (try simp (disch := first | ((try simp (disch := first | ((try simp only [pn]) <;> omega) | fail) only [pn, pq]) <;> omega) | fail) only [pn, pq]) <;> omega)) (fun r4 hr4_0 hr4_1 hr4_2 => ?_)
    have rgr4 := pt_rg r4
    try simp (disch := first | ((try simp (disch := first | ((try simp only [pn]) <;> omega) | fail) only [pn, pq]) <;> omega) | fail) only [pn, pq] at hr4_0
    try simp (disch := first | ((try simp (disch := first | ((try simp only [pn]) <;> omega) | fail) only [pn, pq]) <;> omega) | fail) only [pn, pq] at hr4_1
    try simp (disch := first | ((try simp (disch := first | ((try simp only [pn]) <;> omega) | fail) only [pn, pq]) <;> omega) | fail) only [pn, pq] at hr4_2
    refine ⟨_, ?_, ?_, rfl⟩
    · (try simp (disch := first | ((try simp (disch := first | ((try simp only [pn]) <;> omega) | fail) only [pn, pq]) <;> omega) | fail) only [pn, pq]) <;> (intros; (try simp (disch := first | ((try simp (disch := first | ((try simp only [pn]) <;> omega) | fail) only [pn, pq]) <;> omega) | fail) only [pn, pq]) <;> omega)
    · (try simp (disch := first | ((try simp (disch := first | ((try simp only [pn]) <;> omega) | fail) only [pn, pq]) <;> omega) | fail) only [pn, pq]) <;> (intros; (try simp (disch := first | ((try simp (disch := first | ((try simp only [pn]) <;> omega) | fail) only [pn, pq]) <;> omega) | fail) only [pn, pq]) <;> omega)
def F_X9_bits (S u : bT9) : Prop := (b9g_now u) = (b9g_now S) ∧ (b9g_keys u) = (b9g_keys S) ∧ (b9g_lengths u) = (b9g_lengths S) ∧ (b9g_drawn u) = (b9g_drawn S) ∧ (b9g_drawnLength u) = (b9g_drawnLength S) ∧ (b9g_tape u) = (b9g_tape S) ∧ (b9g_taped u) = (b9g_taped S) ∧ (b9g_names u) = (b9g_names S) ∧ (b9g_chosen u) = (b9g_chosen S) ∧ (b9g_lowKey u) = (b9g_lowKey S) ∧ (b9g_highKey u) = (b9g_highKey S) ∧ (b9g_lowLength u) = (b9g_lowLength S) ∧ (b9g_highLength u) = (b9g_highLength S) ∧ (b9g_fromKey u) = (b9g_fromKey S) ∧ (b9g_toKey u) = (b9g_toKey S) ∧ (b9g_fromLength u) = (b9g_fromLength S) ∧ (b9g_toLength u) = (b9g_toLength S) ∧ (b9g_signs u) = (b9g_signs S) ∧ (b9g_signMany u) = (b9g_signMany S) ∧ (b9g_hasImage u) = (b9g_hasImage S) ∧ (b9g_images u) = (b9g_images S) ∧ (b9g_keyImages u) = (b9g_keyImages S) ∧ (b9g_lengthImages u) = (b9g_lengthImages S)
set_option maxRecDepth 20000 in
set_option maxHeartbeats 8000000 in
theorem sf_X9_bits {S : bT9} (hJ : J9 S) {a1 : Int32} {Q : Int32 → (bT9) → Prop} (hq : ∀ (r : Int32) (u : bT9), (J9 u) → F_X9_bits S u → Q r u) : wp_X9_bits S a1 Q := by
  unfold wp_X9_bits
  have hFS : F_X9_bits S S := ⟨rfl, rfl, rfl, rfl, rfl, rfl, rfl, rfl, rfl, rfl, rfl, rfl, rfl, rfl, rfl, rfl, rfl, rfl, rfl, rfl, rfl, rfl, rfl⟩
  have jf1 := J9g_oneMany hJ
  have jf2 : (-4 ≤ ((b9g_now S) 1).toInt ∧ ((b9g_now S) 1).toInt ≤ 4) ∧ (-3 ≤ ((b9g_now S) 4).toInt ∧ ((b9g_now S) 4).toInt ≤ 252) ∧ (0 ≤ ((b9g_now S) 8).toInt ∧ ((b9g_now S) 8).toInt ≤ 64) ∧ (0 ≤ ((b9g_now S) 9).toInt ∧ ((b9g_now S) 9).toInt ≤ 64) ∧ (0 ≤ ((b9g_now S) 10).toInt ∧ ((b9g_now S) 10).toInt ≤ 16) ∧ (0 ≤ ((b9g_now S) 12).toInt ∧ ((b9g_now S) 12).toInt ≤ 8) := J9g_now hJ
  have ju2_S := hJ.2.1
  have rga1 := pt_rg a1
  intro S1 eS1
  have hJS1 : J9 S1 := by rw [eS1]; exact (J9s_told hJ)
  have hFS1 : F_X9_bits S S1 := by rw [eS1]; exact hFS
  have je3 : ((b9g_oneMany S1)).toInt = ((b9g_oneMany S)).toInt := by rw [eS1]
  have jf4 := J9g_oneMany hJS1
  have je5 : ((b9g_rowLong S1)).toInt = ((b9g_rowLong S)).toInt := by rw [eS1]
  have je6 : ((b9g_upper S1)).toInt = ((b9g_upper S)).toInt := by rw [eS1]
  have je8 : ((b9g_now S1) 1).toInt = ((b9g_now S) 1).toInt := congrArg (fun z => (z 1).toInt) hFS1.1
  have je10 : ((b9g_now S1) 4).toInt = ((b9g_now S) 4).toInt := congrArg (fun z => (z 4).toInt) hFS1.1
  have je12 : ((b9g_now S1) 7).toInt = ((b9g_now S) 7).toInt := congrArg (fun z => (z 7).toInt) hFS1.1
  have je14 : ((b9g_now S1) 8).toInt = ((b9g_now S) 8).toInt := congrArg (fun z => (z 8).toInt) hFS1.1
  have je16 : ((b9g_now S1) 9).toInt = ((b9g_now S) 9).toInt := congrArg (fun z => (z 9).toInt) hFS1.1
  have je18 : ((b9g_now S1) 10).toInt = ((b9g_now S) 10).toInt := congrArg (fun z => (z 10).toInt) hFS1.1
  have je20 : ((b9g_now S1) 12).toInt = ((b9g_now S) 12).toInt := congrArg (fun z => (z 12).toInt) hFS1.1
  have ju20_S1 := hJS1.2.1
  refine sf_X9_laysOnes hJS1 (fun u3 hJu3 hfu3  => ?_)
  have hFu3 : F_X9_bits S u3 := ⟨(congrArg (fun z => z) hfu3.2.1).trans hFS1.1, (congrArg (fun z => z) hfu3.2.2.1).trans hFS1.2.1, (congrArg (fun z => z) hfu3.2.2.2.1).trans hFS1.2.2.1, (congrArg (fun z => z) hfu3.2.2.2.2.1).trans hFS1.2.2.2.1, (congrArg (fun z => z) hfu3.2.2.2.2.2.1).trans hFS1.2.2.2.2.1, (congrArg (fun z => z) hfu3.2.2.2.2.2.2.1).trans hFS1.2.2.2.2.2.1, (congrArg (fun z => z) hfu3.2.2.2.2.2.2.2.1).trans hFS1.2.2.2.2.2.2.1, (congrArg (fun z => z) hfu3.2.2.2.2.2.2.2.2.1).trans hFS1.2.2.2.2.2.2.2.1, (congrArg (fun z => z) hfu3.2.2.2.2.2.2.2.2.2.1).trans hFS1.2.2.2.2.2.2.2.2.1, (congrArg (fun z => z) hfu3.2.2.2.2.2.2.2.2.2.2.1).trans hFS1.2.2.2.2.2.2.2.2.2.1, (congrArg (fun z => z) hfu3.2.2.2.2.2.2.2.2.2.2.2.1).trans hFS1.2.2.2.2.2.2.2.2.2.2.1, (congrArg (fun z => z) hfu3.2.2.2.2.2.2.2.2.2.2.2.2.1).trans hFS1.2.2.2.2.2.2.2.2.2.2.2.1, (congrArg (fun z => z) hfu3.2.2.2.2.2.2.2.2.2.2.2.2.2.1).trans hFS1.2.2.2.2.2.2.2.2.2.2.2.2.1, (congrArg (fun z => z) hfu3.2.2.2.2.2.2.2.2.2.2.2.2.2.2.1).trans hFS1.2.2.2.2.2.2.2.2.2.2.2.2.2.1, (congrArg (fun z => z) hfu3.2.2.2.2.2.2.2.2.2.2.2.2.2.2.2.1).trans hFS1.2.2.2.2.2.2.2.2.2.2.2.2.2.2.1, (congrArg (fun z => z) hfu3.2.2.2.2.2.2.2.2.2.2.2.2.2.2.2.2.1).trans hFS1.2.2.2.2.2.2.2.2.2.2.2.2.2.2.2.1, (congrArg (fun z => z) hfu3.2.2.2.2.2.2.2.2.2.2.2.2.2.2.2.2.2.1).trans hFS1.2.2.2.2.2.2.2.2.2.2.2.2.2.2.2.2.1, (congrArg (fun z => z) hfu3.2.2.2.2.2.2.2.2.2.2.2.2.2.2.2.2.2.2.1).trans hFS1.2.2.2.2.2.2.2.2.2.2.2.2.2.2.2.2.2.1, (congrArg (fun z => z) hfu3.2.2.2.2.2.2.2.2.2.2.2.2.2.2.2.2.2.2.2.1).trans hFS1.2.2.2.2.2.2.2.2.2.2.2.2.2.2.2.2.2.2.1, (congrArg (fun z => z) hfu3.2.2.2.2.2.2.2.2.2.2.2.2.2.2.2.2.2.2.2.2.1).trans hFS1.2.2.2.2.2.2.2.2.2.2.2.2.2.2.2.2.2.2.2.1, (congrArg (fun z => z) hfu3.2.2.2.2.2.2.2.2.2.2.2.2.2.2.2.2.2.2.2.2.2.1).trans hFS1.2.2.2.2.2.2.2.2.2.2.2.2.2.2.2.2.2.2.2.2.1, (congrArg (fun z => z) hfu3.2.2.2.2.2.2.2.2.2.2.2.2.2.2.2.2.2.2.2.2.2.2.1).trans hFS1.2.2.2.2.2.2.2.2.2.2.2.2.2.2.2.2.2.2.2.2.2.1, (congrArg (fun z => z) hfu3.2.2.2.2.2.2.2.2.2.2.2.2.2.2.2.2.2.2.2.2.2.2.2).trans hFS1.2.2.2.2.2.2.2.2.2.2.2.2.2.2.2.2.2.2.2.2.2.2⟩
  have jf21 := J9g_oneMany hJu3
  have je23 : ((b9g_now u3) 1).toInt = ((b9g_now S) 1).toInt := congrArg (fun z => (z 1).toInt) hFu3.1
  have je25 : ((b9g_now u3) 4).toInt = ((b9g_now S) 4).toInt := congrArg (fun z => (z 4).toInt) hFu3.1
  have je27 : ((b9g_now u3) 7).toInt = ((b9g_now S) 7).toInt := congrArg (fun z => (z 7).toInt) hFu3.1
  have je29 : ((b9g_now u3) 8).toInt = ((b9g_now S) 8).toInt := congrArg (fun z => (z 8).toInt) hFu3.1
  have je31 : ((b9g_now u3) 9).toInt = ((b9g_now S) 9).toInt := congrArg (fun z => (z 9).toInt) hFu3.1
  have je33 : ((b9g_now u3) 10).toInt = ((b9g_now S) 10).toInt := congrArg (fun z => (z 10).toInt) hFu3.1
  have je35 : ((b9g_now u3) 12).toInt = ((b9g_now S) 12).toInt := congrArg (fun z => (z 12).toInt) hFu3.1
  have ju35_u3 := hJu3.2.1
  refine ⟨fun c4 => ?_, fun c4 => ?_⟩
  · try simp (disch := first | ((try simp (disch := first | ((try simp only [pn]) <;> omega) | fail) only [pn, pq]) <;> omega) | fail) only [pn, pq] at c4
    refine ⟨fun c5 => ?_, fun c5 => ?_⟩
    · try simp (disch := first | ((try simp (disch := first | ((try simp only [pn]) <;> omega) | fail) only [pn, pq]) <;> omega) | fail) only [pn, pq] at c5
      refine ⟨fun c6 => ?_, fun c6 => ?_⟩
      · try simp (disch := first | ((try simp (disch := first | ((try simp only [pn]) <;> omega) | fail) only [pn, pq]) <;> omega) | fail) only [pn, pq] at c6
        refine ⟨fun c7 => ?_, fun c7 => ?_⟩
        · try simp (disch := first | ((try simp (disch := first | ((try simp only [pn]) <;> omega) | fail) only [pn, pq]) <;> omega) | fail) only [pn, pq] at c7
          refine ⟨fun c8 => ?_, fun c8 => ?_⟩
          · try simp (disch := first | ((try simp (disch := first | ((try simp only [pn]) <;> omega) | fail) only [pn, pq]) <;> omega) | fail) only [pn, pq] at c8
            refine ⟨fun c9 => ?_, fun c9 => ?_⟩
            · try simp (disch := first | ((try simp (disch := first | ((try simp only [pn]) <;> omega) | fail) only [pn, pq]) <;> omega) | fail) only [pn, pq] at c9
              refine ⟨fun c10 => ?_, fun c10 => ?_⟩
              · try simp (disch := first | ((try simp (disch := first | ((try simp only [pn]) <;> omega) | fail) only [pn, pq]) <;> omega) | fail) only [pn, pq] at c10
                exact hq _ _ hJu3 hFu3 
              · try simp (disch := first | ((try simp (disch := first | ((try simp only [pn]) <;> omega) | fail) only [pn, pq]) <;> omega) | fail) only [pn, pq] at c10
                exact hq _ _ hJu3 hFu3 
            · try simp (disch := first | ((try simp (disch := first | ((try simp only [pn]) <;> omega) | fail) only [pn, pq]) <;> omega) | fail) only [pn, pq] at c9
              exact hq _ _ hJu3 hFu3 
          · try simp (disch := first | ((try simp (disch := first | ((try simp only [pn]) <;> omega) | fail) only [pn, pq]) <;> omega) | fail) only [pn, pq] at c8
            refine sf_X9_keyBits hJu3.1 (fun r11  => ?_)
            have rgr11 := pt_rg r11
            exact hq _ _ hJu3 hFu3 
        · try simp (disch := first | ((try simp (disch := first | ((try simp only [pn]) <;> omega) | fail) only [pn, pq]) <;> omega) | fail) only [pn, pq] at c7
          refine sf_X9_bitsAbove hJu3.1 (fun r13 hr13_0 hr13_1 hr13_2 => ?_)
          have rgr13 := pt_rg r13
          try simp (disch := first | ((try simp (disch := first | ((try simp only [pn]) <;> omega) | fail) only [pn, pq]) <;> omega) | fail) only [pn, pq] at hr13_0
          try simp (disch := first | ((try simp (disch := first | ((try simp only [pn]) <;> omega) | fail) only [pn, pq]) <;> omega) | fail) only [pn, pq] at hr13_1
          try simp (disch := first | ((try simp (disch := first | ((try simp only [pn]) <;> omega) | fail) only [pn, pq]) <;> omega) | fail) only [pn, pq] at hr13_2
          refine sf_X9_bitsBelow hJu3.1 (fun r15 hr15_0 hr15_1 => ?_)
          have rgr15 := pt_rg r15
          try simp (disch := first | ((try simp (disch := first | ((try simp only [pn]) <;> omega) | fail) only [pn, pq]) <;> omega) | fail) only [pn, pq] at hr15_0
          try simp (disch := first | ((try simp (disch := first | ((try simp only [pn]) <;> omega) | fail) only [pn, pq]) <;> omega) | fail) only [pn, pq] at hr15_1
          refine sf_X9_tailBits hJu3.1 (fun r17  => ?_)
          have rgr17 := pt_rg r17
          exact hq _ _ hJu3 hFu3 
      · try simp (disch := first | ((try simp (disch := first | ((try simp only [pn]) <;> omega) | fail) only [pn, pq]) <;> omega) | fail) only [pn, pq] at c6
        refine sf_X9_tailBits hJu3.1 (fun r19  => ?_)
        have rgr19 := pt_rg r19
        exact hq _ _ hJu3 hFu3 
    · try simp (disch := first | ((try simp (disch := first | ((try simp only [pn]) <;> omega) | fail) only [pn, pq]) <;> omega) | fail) only [pn, pq] at c5
      refine sf_X9_bitsBelow hJu3.1 (fun r21 hr21_0 hr21_1 => ?_)
      have rgr21 := pt_rg r21
      try simp (disch := first | ((try simp (disch := first | ((try simp only [pn]) <;> omega) | fail) only [pn, pq]) <;> omega) | fail) only [pn, pq] at hr21_0
      try simp (disch := first | ((try simp (disch := first | ((try simp only [pn]) <;> omega) | fail) only [pn, pq]) <;> omega) | fail) only [pn, pq] at hr21_1
      exact hq _ _ hJu3 hFu3 
  · try simp (disch := first | ((try simp (disch := first | ((try simp only [pn]) <;> omega) | fail) only [pn, pq]) <;> omega) | fail) only [pn, pq] at c4
    refine sf_X9_bitsAbove hJu3.1 (fun r23 hr23_0 hr23_1 hr23_2 => ?_)
    have rgr23 := pt_rg r23
    try simp (disch := first | ((try simp (disch := first | ((try simp only [pn]) <;> omega) | fail) only [pn, pq]) <;> omega) | fail) only [pn, pq] at hr23_0
    try simp (disch := first | ((try simp (disch := first | ((try simp only [pn]) <;> omega) | fail) only [pn, pq]) <;> omega) | fail) only [pn, pq] at hr23_1
    try simp (disch := first | ((try simp (disch := first | ((try simp only [pn]) <;> omega) | fail) only [pn, pq]) <;> omega) | fail) only [pn, pq] at hr23_2
    exact hq _ _ hJu3 hFu3 
def F_X9_least (S u : bT9) : Prop := (b9g_now u) = (b9g_now S) ∧ (b9g_keys u) = (b9g_keys S) ∧ (b9g_lengths u) = (b9g_lengths S) ∧ (b9g_drawn u) = (b9g_drawn S) ∧ (b9g_drawnLength u) = (b9g_drawnLength S) ∧ (b9g_tape u) = (b9g_tape S) ∧ (b9g_taped u) = (b9g_taped S) ∧ (b9g_names u) = (b9g_names S) ∧ (b9g_chosen u) = (b9g_chosen S) ∧ (b9g_lowKey u) = (b9g_lowKey S) ∧ (b9g_highKey u) = (b9g_highKey S) ∧ (b9g_lowLength u) = (b9g_lowLength S) ∧ (b9g_highLength u) = (b9g_highLength S) ∧ (b9g_fromKey u) = (b9g_fromKey S) ∧ (b9g_toKey u) = (b9g_toKey S) ∧ (b9g_fromLength u) = (b9g_fromLength S) ∧ (b9g_toLength u) = (b9g_toLength S) ∧ (b9g_ones u) = (b9g_ones S) ∧ (b9g_oneMany u) = (b9g_oneMany S) ∧ (b9g_rowLong u) = (b9g_rowLong S) ∧ (b9g_signs u) = (b9g_signs S) ∧ (b9g_signMany u) = (b9g_signMany S) ∧ (b9g_hasImage u) = (b9g_hasImage S) ∧ (b9g_images u) = (b9g_images S) ∧ (b9g_keyImages u) = (b9g_keyImages S) ∧ (b9g_lengthImages u) = (b9g_lengthImages S)
set_option maxRecDepth 20000 in
set_option maxHeartbeats 8000000 in
theorem sf_X9_least {S : bT9} (hJ : J9 S) {a1 : Int32} {Q : Int32 → (bT9) → Prop} (hq : ∀ (r : Int32) (u : bT9), (J9 u) → F_X9_least S u → Q r u) : wp_X9_least S a1 Q := by
  unfold wp_X9_least
  have hFS : F_X9_least S S := ⟨rfl, rfl, rfl, rfl, rfl, rfl, rfl, rfl, rfl, rfl, rfl, rfl, rfl, rfl, rfl, rfl, rfl, rfl, rfl, rfl, rfl, rfl, rfl, rfl, rfl, rfl⟩
  have jf1 := J9g_levelMany hJ
  have jf2 : (-4 ≤ ((b9g_now S) 1).toInt ∧ ((b9g_now S) 1).toInt ≤ 4) ∧ (-3 ≤ ((b9g_now S) 4).toInt ∧ ((b9g_now S) 4).toInt ≤ 252) ∧ (0 ≤ ((b9g_now S) 8).toInt ∧ ((b9g_now S) 8).toInt ≤ 64) ∧ (0 ≤ ((b9g_now S) 9).toInt ∧ ((b9g_now S) 9).toInt ≤ 64) ∧ (0 ≤ ((b9g_now S) 10).toInt ∧ ((b9g_now S) 10).toInt ≤ 16) ∧ (0 ≤ ((b9g_now S) 12).toInt ∧ ((b9g_now S) 12).toInt ≤ 8) := J9g_now hJ
  have ju2_S := hJ.2.1
  have rga1 := pt_rg a1
  intro S1 eS1
  have hJS1 : J9 S1 := by rw [eS1]; exact (J9s_told hJ)
  have hFS1 : F_X9_least S S1 := by rw [eS1]; exact hFS
  have je3 : ((b9g_levelMany S1)).toInt = ((b9g_levelMany S)).toInt := by rw [eS1]
  have jf4 := J9g_levelMany hJS1
  have je6 : ((b9g_now S1) 1).toInt = ((b9g_now S) 1).toInt := congrArg (fun z => (z 1).toInt) hFS1.1
  have je8 : ((b9g_now S1) 4).toInt = ((b9g_now S) 4).toInt := congrArg (fun z => (z 4).toInt) hFS1.1
  have je10 : ((b9g_now S1) 7).toInt = ((b9g_now S) 7).toInt := congrArg (fun z => (z 7).toInt) hFS1.1
  have je12 : ((b9g_now S1) 8).toInt = ((b9g_now S) 8).toInt := congrArg (fun z => (z 8).toInt) hFS1.1
  have je14 : ((b9g_now S1) 9).toInt = ((b9g_now S) 9).toInt := congrArg (fun z => (z 9).toInt) hFS1.1
  have je16 : ((b9g_now S1) 10).toInt = ((b9g_now S) 10).toInt := congrArg (fun z => (z 10).toInt) hFS1.1
  have je18 : ((b9g_now S1) 12).toInt = ((b9g_now S) 12).toInt := congrArg (fun z => (z 12).toInt) hFS1.1
  have ju18_S1 := hJS1.2.1
  refine sf_X9_laysNodes hJS1 (fun u3 hJu3 hfu3  => ?_)
  have hFu3 : F_X9_least S u3 := ⟨(congrArg (fun z => z) hfu3.2.1).trans hFS1.1, (congrArg (fun z => z) hfu3.2.2.1).trans hFS1.2.1, (congrArg (fun z => z) hfu3.2.2.2.1).trans hFS1.2.2.1, (congrArg (fun z => z) hfu3.2.2.2.2.1).trans hFS1.2.2.2.1, (congrArg (fun z => z) hfu3.2.2.2.2.2.1).trans hFS1.2.2.2.2.1, (congrArg (fun z => z) hfu3.2.2.2.2.2.2.1).trans hFS1.2.2.2.2.2.1, (congrArg (fun z => z) hfu3.2.2.2.2.2.2.2.1).trans hFS1.2.2.2.2.2.2.1, (congrArg (fun z => z) hfu3.2.2.2.2.2.2.2.2.1).trans hFS1.2.2.2.2.2.2.2.1, (congrArg (fun z => z) hfu3.2.2.2.2.2.2.2.2.2.1).trans hFS1.2.2.2.2.2.2.2.2.1, (congrArg (fun z => z) hfu3.2.2.2.2.2.2.2.2.2.2.1).trans hFS1.2.2.2.2.2.2.2.2.2.1, (congrArg (fun z => z) hfu3.2.2.2.2.2.2.2.2.2.2.2.1).trans hFS1.2.2.2.2.2.2.2.2.2.2.1, (congrArg (fun z => z) hfu3.2.2.2.2.2.2.2.2.2.2.2.2.1).trans hFS1.2.2.2.2.2.2.2.2.2.2.2.1, (congrArg (fun z => z) hfu3.2.2.2.2.2.2.2.2.2.2.2.2.2.1).trans hFS1.2.2.2.2.2.2.2.2.2.2.2.2.1, (congrArg (fun z => z) hfu3.2.2.2.2.2.2.2.2.2.2.2.2.2.2.1).trans hFS1.2.2.2.2.2.2.2.2.2.2.2.2.2.1, (congrArg (fun z => z) hfu3.2.2.2.2.2.2.2.2.2.2.2.2.2.2.2.1).trans hFS1.2.2.2.2.2.2.2.2.2.2.2.2.2.2.1, (congrArg (fun z => z) hfu3.2.2.2.2.2.2.2.2.2.2.2.2.2.2.2.2.1).trans hFS1.2.2.2.2.2.2.2.2.2.2.2.2.2.2.2.1, (congrArg (fun z => z) hfu3.2.2.2.2.2.2.2.2.2.2.2.2.2.2.2.2.2.1).trans hFS1.2.2.2.2.2.2.2.2.2.2.2.2.2.2.2.2.1, (congrArg (fun z => z) hfu3.2.2.2.2.2.2.2.2.2.2.2.2.2.2.2.2.2.2.1).trans hFS1.2.2.2.2.2.2.2.2.2.2.2.2.2.2.2.2.2.1, (congrArg (fun z => z) hfu3.2.2.2.2.2.2.2.2.2.2.2.2.2.2.2.2.2.2.2.1).trans hFS1.2.2.2.2.2.2.2.2.2.2.2.2.2.2.2.2.2.2.1, (congrArg (fun z => z) hfu3.2.2.2.2.2.2.2.2.2.2.2.2.2.2.2.2.2.2.2.2.1).trans hFS1.2.2.2.2.2.2.2.2.2.2.2.2.2.2.2.2.2.2.2.1, (congrArg (fun z => z) hfu3.2.2.2.2.2.2.2.2.2.2.2.2.2.2.2.2.2.2.2.2.2.1).trans hFS1.2.2.2.2.2.2.2.2.2.2.2.2.2.2.2.2.2.2.2.2.1, (congrArg (fun z => z) hfu3.2.2.2.2.2.2.2.2.2.2.2.2.2.2.2.2.2.2.2.2.2.2.1).trans hFS1.2.2.2.2.2.2.2.2.2.2.2.2.2.2.2.2.2.2.2.2.2.1, (congrArg (fun z => z) hfu3.2.2.2.2.2.2.2.2.2.2.2.2.2.2.2.2.2.2.2.2.2.2.2.1).trans hFS1.2.2.2.2.2.2.2.2.2.2.2.2.2.2.2.2.2.2.2.2.2.2.1, (congrArg (fun z => z) hfu3.2.2.2.2.2.2.2.2.2.2.2.2.2.2.2.2.2.2.2.2.2.2.2.2.1).trans hFS1.2.2.2.2.2.2.2.2.2.2.2.2.2.2.2.2.2.2.2.2.2.2.2.1, (congrArg (fun z => z) hfu3.2.2.2.2.2.2.2.2.2.2.2.2.2.2.2.2.2.2.2.2.2.2.2.2.2.1).trans hFS1.2.2.2.2.2.2.2.2.2.2.2.2.2.2.2.2.2.2.2.2.2.2.2.2.1, (congrArg (fun z => z) hfu3.2.2.2.2.2.2.2.2.2.2.2.2.2.2.2.2.2.2.2.2.2.2.2.2.2.2).trans hFS1.2.2.2.2.2.2.2.2.2.2.2.2.2.2.2.2.2.2.2.2.2.2.2.2.2⟩
  have jf19 := J9g_levelMany hJu3
  have je21 : ((b9g_now u3) 1).toInt = ((b9g_now S) 1).toInt := congrArg (fun z => (z 1).toInt) hFu3.1
  have je23 : ((b9g_now u3) 4).toInt = ((b9g_now S) 4).toInt := congrArg (fun z => (z 4).toInt) hFu3.1
  have je25 : ((b9g_now u3) 7).toInt = ((b9g_now S) 7).toInt := congrArg (fun z => (z 7).toInt) hFu3.1
  have je27 : ((b9g_now u3) 8).toInt = ((b9g_now S) 8).toInt := congrArg (fun z => (z 8).toInt) hFu3.1
  have je29 : ((b9g_now u3) 9).toInt = ((b9g_now S) 9).toInt := congrArg (fun z => (z 9).toInt) hFu3.1
  have je31 : ((b9g_now u3) 10).toInt = ((b9g_now S) 10).toInt := congrArg (fun z => (z 10).toInt) hFu3.1
  have je33 : ((b9g_now u3) 12).toInt = ((b9g_now S) 12).toInt := congrArg (fun z => (z 12).toInt) hFu3.1
  have ju33_u3 := hJu3.2.1
  refine sf_X9_isIn hJu3.1 (fun r4 hzr4 hr4_0 => ?_)
  try simp (disch := first | ((try simp (disch := first | ((try simp only [pn]) <;> omega) | fail) only [pn, pq]) <;> omega) | fail) only [pn, pq] at hr4_0
  refine ⟨fun c6 => ?_, fun c6 => ?_⟩
  · try simp (disch := first | ((try simp (disch := first | ((try simp only [pn]) <;> omega) | fail) only [pn, pq]) <;> omega) | fail) only [pn, pq] at c6
    refine ⟨fun n x1q7 x2q7 x3q7 Sq7 => (J9 Sq7) ∧ (F_X9_least S Sq7) ∧ (x1q7 = a1) ∧ (0 ≤ (x3q7).toInt) ∧ n = (((b9g_levelMany Sq7)).toInt + 1 - (x3q7).toInt).toNat, ⟨_, hJu3, hFu3, rfl, (by (try simp (disch := first | ((try simp (disch := first | ((try simp only [pn]) <;> omega) | fail) only [pn, pq]) <;> omega) | fail) only [pn, pq]) <;> (intros; (try simp (disch := first | ((try simp (disch := first | ((try simp only [pn]) <;> omega) | fail) only [pn, pq]) <;> omega) | fail) only [pn, pq]) <;> omega)), rfl⟩, ?_⟩
    rintro n8 x1q7 x2q7 x3q7 Sq7 ⟨hJSq7, hFSq7, hkq7_0, hiq7_0, hn8⟩
    subst hkq7_0
    have rgx1q7 := pt_rg x1q7
    have rgx2q7 := pt_rg x2q7
    have rgx3q7 := pt_rg x3q7
    unfold wp_X9_least_25b
    have jf34 := J9g_levelMany hJSq7
    have je36 : ((b9g_now Sq7) 1).toInt = ((b9g_now S) 1).toInt := congrArg (fun z => (z 1).toInt) hFSq7.1
    have je38 : ((b9g_now Sq7) 4).toInt = ((b9g_now S) 4).toInt := congrArg (fun z => (z 4).toInt) hFSq7.1
    have je40 : ((b9g_now Sq7) 7).toInt = ((b9g_now S) 7).toInt := congrArg (fun z => (z 7).toInt) hFSq7.1
    have je42 : ((b9g_now Sq7) 8).toInt = ((b9g_now S) 8).toInt := congrArg (fun z => (z 8).toInt) hFSq7.1
    have je44 : ((b9g_now Sq7) 9).toInt = ((b9g_now S) 9).toInt := congrArg (fun z => (z 9).toInt) hFSq7.1
    have je46 : ((b9g_now Sq7) 10).toInt = ((b9g_now S) 10).toInt := congrArg (fun z => (z 10).toInt) hFSq7.1
    have je48 : ((b9g_now Sq7) 12).toInt = ((b9g_now S) 12).toInt := congrArg (fun z => (z 12).toInt) hFSq7.1
    have ju48_Sq7 := hJSq7.2.1
    refine ⟨fun c9 => ?_, fun c9 => ?_⟩
    · try simp (disch := first | ((try simp (disch := first | ((try simp only [pn]) <;> omega) | fail) only [pn, pq]) <;> omega) | fail) only [pn, pq] at c9
      refine ⟨fun c10 => ?_, fun c10 => ?_⟩
      · try simp (disch := first | ((try simp (disch := first | ((try simp only [pn]) <;> omega) | fail) only [pn, pq]) <;> omega) | fail) only [pn, pq] at c10
        refine sf_X9_bitsAbove hJSq7.1 (fun r11 hr11_0 hr11_1 hr11_2 => ?_)
        have rgr11 := pt_rg r11
        try simp (disch := first | ((try simp (disch := first | ((try simp only [pn]) <;> omega) | fail) only [pn, pq]) <;> omega) | fail) only [pn, pq] at hr11_0
        try simp (disch := first | ((try simp (disch := first | ((try simp only [pn]) <;> omega) | fail) only [pn, pq]) <;> omega) | fail) only [pn, pq] at hr11_1
        try simp (disch := first | ((try simp (disch := first | ((try simp only [pn]) <;> omega) | fail) only [pn, pq]) <;> omega) | fail) only [pn, pq] at hr11_2
        refine sf_X9_bitsBelow hJSq7.1 (fun r13 hr13_0 hr13_1 => ?_)
        have rgr13 := pt_rg r13
        try simp (disch := first | ((try simp (disch := first | ((try simp only [pn]) <;> omega) | fail) only [pn, pq]) <;> omega) | fail) only [pn, pq] at hr13_0
        try simp (disch := first | ((try simp (disch := first | ((try simp only [pn]) <;> omega) | fail) only [pn, pq]) <;> omega) | fail) only [pn, pq] at hr13_1
        refine sf_X9_tailBits hJSq7.1 (fun r15  => ?_)
        have rgr15 := pt_rg r15
        exact hq _ _ hJSq7 hFSq7 
      · try simp (disch := first | ((try simp (disch := first | ((try simp only [pn]) <;> omega) | fail) only [pn, pq]) <;> omega) | fail) only [pn, pq] at c10
        exact hq _ _ hJSq7 hFSq7 
    · try simp (disch := first | ((try simp (disch := first | ((try simp only [pn]) <;> omega) | fail) only [pn, pq]) <;> omega) | fail) only [pn, pq] at c9
      refine sf_X9_bitsAbove hJSq7.1 (fun r17 hr17_0 hr17_1 hr17_2 => ?_)
      have rgr17 := pt_rg r17
      try simp (disch := first | ((try simp (disch := first | ((try simp only [pn]) <;> omega) | fail) only [pn, pq]) <;> omega) | fail) only [pn, pq] at hr17_0
      try simp (disch := first | ((try simp (disch := first | ((try simp only [pn]) <;> omega) | fail) only [pn, pq]) <;> omega) | fail) only [pn, pq] at hr17_1
      try simp (disch := first | ((try simp (disch := first | ((try simp only [pn]) <;> omega) | fail) only [pn, pq]) <;> omega) | fail) only [pn, pq] at hr17_2
      refine sf_X9_bitsBelow hJSq7.1 (fun r19 hr19_0 hr19_1 => ?_)
      have rgr19 := pt_rg r19
      try simp (disch := first | ((try simp (disch := first | ((try simp only [pn]) <;> omega) | fail) only [pn, pq]) <;> omega) | fail) only [pn, pq] at hr19_0
      try simp (disch := first | ((try simp (disch := first | ((try simp only [pn]) <;> omega) | fail) only [pn, pq]) <;> omega) | fail) only [pn, pq] at hr19_1
      refine sf_X9_bitsAbove hJSq7.1 (fun r21 hr21_0 hr21_1 hr21_2 => ?_)
      have rgr21 := pt_rg r21
      try simp (disch := first | ((try simp (disch := first | ((try simp only [pn]) <;> omega) | fail) only [pn, pq]) <;> omega) | fail) only [pn, pq] at hr21_0
      try simp (disch := first | ((try simp (disch := first | ((try simp only [pn]) <;> omega) | fail) only [pn, pq]) <;> omega) | fail) only [pn, pq] at hr21_1
      try simp (disch := first | ((try simp (disch := first | ((try simp only [pn]) <;> omega) | fail) only [pn, pq]) <;> omega) | fail) only [pn, pq] at hr21_2
      refine sf_X9_bitsBelow hJSq7.1 (fun r23 hr23_0 hr23_1 => ?_)
      have rgr23 := pt_rg r23
      try simp (disch := first | ((try simp (disch := first | ((try simp only [pn]) <;> omega) | fail) only [pn, pq]) <;> omega) | fail) only [pn, pq] at hr23_0
      try simp (disch := first | ((try simp (disch := first | ((try simp only [pn]) <;> omega) | fail) only [pn, pq]) <;> omega) | fail) only [pn, pq] at hr23_1
      refine ⟨fun c25 => ?_, fun c25 => ?_⟩
      · try simp (disch := first | ((try simp (disch := first | ((try simp only [pn]) <;> omega) | fail) only [pn, pq]) <;> omega) | fail) only [pn, pq] at c25
        unfold wp_X9_least_60
        refine ⟨_, ?_, ?_, ?_, ?_, ?_, rfl⟩
        · (try simp (disch := first | ((try simp (disch := first | ((try simp only [pn]) <;> omega) | fail) only [pn, pq]) <;> omega) | fail) only [pn, pq]) <;> (intros; (try simp (disch := first | ((try simp (disch := first | ((try simp only [pn]) <;> omega) | fail) only [pn, pq]) <;> omega) | fail) only [pn, pq]) <;> omega)
        · exact hJSq7
        · exact hFSq7
        · first | rfl | assumption
        · (try simp (disch := first | ((try simp (disch := first | ((try simp only [pn]) <;> omega) | fail) only [pn, pq]) <;> omega) | fail) only [pn, pq]) <;> (intros; (try simp (disch := first | ((try simp (disch := first | ((try simp only [pn]) <;> omega) | fail) only [pn, pq]) <;> omega) | fail) only [pn, pq]) <;> omega)
      · try simp (disch := first | ((try simp (disch := first | ((try simp only [pn]) <;> omega) | fail) only [pn, pq]) <;> omega) | fail) only [pn, pq] at c25
        unfold wp_X9_least_60
        refine ⟨_, ?_, ?_, ?_, ?_, ?_, rfl⟩
        · (try simp (disch := first | ((try simp (disch := first | ((try simp only [pn]) <;> omega) | fail) only [pn, pq]) <;> omega) | fail) only [pn, pq]) <;> (intros; (try simp (disch := first | ((try simp (disch := first | ((try simp only [pn]) <;> omega) | fail) only [pn, pq]) <;> omega) | fail) only [pn, pq]) <;> omega)
        · exact hJSq7
        · exact hFSq7
        · first | rfl | assumption
        · (try simp (disch := first | ((try simp (disch := first | ((try simp only [pn]) <;> omega) | fail) only [pn, pq]) <;> omega) | fail) only [pn, pq]) <;> (intros; (try simp (disch := first | ((try simp (disch := first | ((try simp only [pn]) <;> omega) | fail) only [pn, pq]) <;> omega) | fail) only [pn, pq]) <;> omega)
  · try simp (disch := first | ((try simp (disch := first | ((try simp only [pn]) <;> omega) | fail) only [pn, pq]) <;> omega) | fail) only [pn, pq] at c6
    exact hq _ _ hJu3 hFu3 
