def F_X9_report (S u : bT9) : Prop := (b9g_now u) = (b9g_now S) ∧ (b9g_keys u) = (b9g_keys S) ∧ (b9g_lengths u) = (b9g_lengths S) ∧ (b9g_drawn u) = (b9g_drawn S) ∧ (b9g_drawnLength u) = (b9g_drawnLength S) ∧ (b9g_tape u) = (b9g_tape S) ∧ (b9g_taped u) = (b9g_taped S) ∧ (b9g_names u) = (b9g_names S) ∧ (b9g_chosen u) = (b9g_chosen S) ∧ (b9g_lowKey u) = (b9g_lowKey S) ∧ (b9g_highKey u) = (b9g_highKey S) ∧ (b9g_lowLength u) = (b9g_lowLength S) ∧ (b9g_highLength u) = (b9g_highLength S) ∧ (b9g_fromKey u) = (b9g_fromKey S) ∧ (b9g_toKey u) = (b9g_toKey S) ∧ (b9g_fromLength u) = (b9g_fromLength S) ∧ (b9g_toLength u) = (b9g_toLength S) ∧ (b9g_ones u) = (b9g_ones S) ∧ (b9g_oneMany u) = (b9g_oneMany S) ∧ (b9g_rowLong u) = (b9g_rowLong S) ∧ (b9g_hasImage u) = (b9g_hasImage S) ∧ (b9g_images u) = (b9g_images S) ∧ (b9g_keyImages u) = (b9g_keyImages S) ∧ (b9g_lengthImages u) = (b9g_lengthImages S)
set_option maxRecDepth 20000 in
set_option maxHeartbeats 1000000 in
theorem sf_X9_report {S : bT9} (hJ : J9 S) {a1 : Int32} {Q : Int32 → (bT9) → Prop} (hq : ∀ (r : Int32) (u : bT9), (J9 u) → F_X9_report S u → Q r u) : wp_X9_report S a1 Q := by
  unfold wp_X9_report
  have hFS : F_X9_report S S := ⟨rfl, rfl, rfl, rfl, rfl, rfl, rfl, rfl, rfl, rfl, rfl, rfl, rfl, rfl, rfl, rfl, rfl, rfl, rfl, rfl, rfl, rfl, rfl, rfl⟩
  have jf1 := J9g_signMany hJ
  have jf2 : (-4 ≤ ((b9g_now S) 1).toInt ∧ ((b9g_now S) 1).toInt ≤ 4) ∧ (-3 ≤ ((b9g_now S) 4).toInt ∧ ((b9g_now S) 4).toInt ≤ 252) ∧ (0 ≤ ((b9g_now S) 8).toInt ∧ ((b9g_now S) 8).toInt ≤ 64) ∧ (0 ≤ ((b9g_now S) 9).toInt ∧ ((b9g_now S) 9).toInt ≤ 64) ∧ (0 ≤ ((b9g_now S) 10).toInt ∧ ((b9g_now S) 10).toInt ≤ 16) ∧ (0 ≤ ((b9g_now S) 12).toInt ∧ ((b9g_now S) 12).toInt ≤ 8) := J9g_now hJ
  have ju2_S := hJ.2
  have rga1 := pt_rg a1
  intro S1 eS1
  have hJS1 : J9 S1 := by rw [eS1]; exact (J9s_told hJ)
  have hFS1 : F_X9_report S S1 := by rw [eS1]; exact hFS
  have je3 : ((b9g_signMany S1)).toInt = ((b9g_signMany S)).toInt := by rw [eS1]
  have jf4 := J9g_signMany hJS1
  have je5 : ((b9g_now S1) 1).toInt = ((b9g_now S) 1).toInt := congrArg (fun z => (z 1).toInt) hFS1.1
  have je6 : ((b9g_now S1) 4).toInt = ((b9g_now S) 4).toInt := congrArg (fun z => (z 4).toInt) hFS1.1
  have je7 : ((b9g_now S1) 8).toInt = ((b9g_now S) 8).toInt := congrArg (fun z => (z 8).toInt) hFS1.1
  have je8 : ((b9g_now S1) 9).toInt = ((b9g_now S) 9).toInt := congrArg (fun z => (z 9).toInt) hFS1.1
  have je9 : ((b9g_now S1) 10).toInt = ((b9g_now S) 10).toInt := congrArg (fun z => (z 10).toInt) hFS1.1
  have je10 : ((b9g_now S1) 12).toInt = ((b9g_now S) 12).toInt := congrArg (fun z => (z 12).toInt) hFS1.1
  have ju10_S1 := hJS1.2
  refine sf_X9_laysNodes hJS1 (fun u3 hJu3 hfu3  => ?_)
  have hFu3 : F_X9_report S u3 := ⟨(congrArg (fun z => z) hfu3.2.1).trans hFS1.1, (congrArg (fun z => z) hfu3.2.2.1).trans hFS1.2.1, (congrArg (fun z => z) hfu3.2.2.2.1).trans hFS1.2.2.1, (congrArg (fun z => z) hfu3.2.2.2.2.1).trans hFS1.2.2.2.1, (congrArg (fun z => z) hfu3.2.2.2.2.2.1).trans hFS1.2.2.2.2.1, (congrArg (fun z => z) hfu3.2.2.2.2.2.2.1).trans hFS1.2.2.2.2.2.1, (congrArg (fun z => z) hfu3.2.2.2.2.2.2.2.1).trans hFS1.2.2.2.2.2.2.1, (congrArg (fun z => z) hfu3.2.2.2.2.2.2.2.2.1).trans hFS1.2.2.2.2.2.2.2.1, (congrArg (fun z => z) hfu3.2.2.2.2.2.2.2.2.2.1).trans hFS1.2.2.2.2.2.2.2.2.1, (congrArg (fun z => z) hfu3.2.2.2.2.2.2.2.2.2.2.1).trans hFS1.2.2.2.2.2.2.2.2.2.1, (congrArg (fun z => z) hfu3.2.2.2.2.2.2.2.2.2.2.2.1).trans hFS1.2.2.2.2.2.2.2.2.2.2.1, (congrArg (fun z => z) hfu3.2.2.2.2.2.2.2.2.2.2.2.2.1).trans hFS1.2.2.2.2.2.2.2.2.2.2.2.1, (congrArg (fun z => z) hfu3.2.2.2.2.2.2.2.2.2.2.2.2.2.1).trans hFS1.2.2.2.2.2.2.2.2.2.2.2.2.1, (congrArg (fun z => z) hfu3.2.2.2.2.2.2.2.2.2.2.2.2.2.2.1).trans hFS1.2.2.2.2.2.2.2.2.2.2.2.2.2.1, (congrArg (fun z => z) hfu3.2.2.2.2.2.2.2.2.2.2.2.2.2.2.2.1).trans hFS1.2.2.2.2.2.2.2.2.2.2.2.2.2.2.1, (congrArg (fun z => z) hfu3.2.2.2.2.2.2.2.2.2.2.2.2.2.2.2.2.1).trans hFS1.2.2.2.2.2.2.2.2.2.2.2.2.2.2.2.1, (congrArg (fun z => z) hfu3.2.2.2.2.2.2.2.2.2.2.2.2.2.2.2.2.2.1).trans hFS1.2.2.2.2.2.2.2.2.2.2.2.2.2.2.2.2.1, (congrArg (fun z => z) hfu3.2.2.2.2.2.2.2.2.2.2.2.2.2.2.2.2.2.2.1).trans hFS1.2.2.2.2.2.2.2.2.2.2.2.2.2.2.2.2.2.1, (congrArg (fun z => z) hfu3.2.2.2.2.2.2.2.2.2.2.2.2.2.2.2.2.2.2.2.1).trans hFS1.2.2.2.2.2.2.2.2.2.2.2.2.2.2.2.2.2.2.1, (congrArg (fun z => z) hfu3.2.2.2.2.2.2.2.2.2.2.2.2.2.2.2.2.2.2.2.2.1).trans hFS1.2.2.2.2.2.2.2.2.2.2.2.2.2.2.2.2.2.2.2.1, (congrArg (fun z => z) hfu3.2.2.2.2.2.2.2.2.2.2.2.2.2.2.2.2.2.2.2.2.2.2.2.1).trans hFS1.2.2.2.2.2.2.2.2.2.2.2.2.2.2.2.2.2.2.2.2.1, (congrArg (fun z => z) hfu3.2.2.2.2.2.2.2.2.2.2.2.2.2.2.2.2.2.2.2.2.2.2.2.2.1).trans hFS1.2.2.2.2.2.2.2.2.2.2.2.2.2.2.2.2.2.2.2.2.2.1, (congrArg (fun z => z) hfu3.2.2.2.2.2.2.2.2.2.2.2.2.2.2.2.2.2.2.2.2.2.2.2.2.2.1).trans hFS1.2.2.2.2.2.2.2.2.2.2.2.2.2.2.2.2.2.2.2.2.2.2.1, (congrArg (fun z => z) hfu3.2.2.2.2.2.2.2.2.2.2.2.2.2.2.2.2.2.2.2.2.2.2.2.2.2.2).trans hFS1.2.2.2.2.2.2.2.2.2.2.2.2.2.2.2.2.2.2.2.2.2.2.2⟩
  have je11 : ((b9g_signMany u3)).toInt = ((b9g_signMany S1)).toInt := congrArg (fun z => (z).toInt) hfu3.2.2.2.2.2.2.2.2.2.2.2.2.2.2.2.2.2.2.2.2.2.2.1
  have jf12 := J9g_signMany hJu3
  have je13 : ((b9g_now u3) 1).toInt = ((b9g_now S) 1).toInt := congrArg (fun z => (z 1).toInt) hFu3.1
  have je14 : ((b9g_now u3) 4).toInt = ((b9g_now S) 4).toInt := congrArg (fun z => (z 4).toInt) hFu3.1
  have je15 : ((b9g_now u3) 8).toInt = ((b9g_now S) 8).toInt := congrArg (fun z => (z 8).toInt) hFu3.1
  have je16 : ((b9g_now u3) 9).toInt = ((b9g_now S) 9).toInt := congrArg (fun z => (z 9).toInt) hFu3.1
  have je17 : ((b9g_now u3) 10).toInt = ((b9g_now S) 10).toInt := congrArg (fun z => (z 10).toInt) hFu3.1
  have je18 : ((b9g_now u3) 12).toInt = ((b9g_now S) 12).toInt := congrArg (fun z => (z 12).toInt) hFu3.1
  have ju18_u3 := hJu3.2
  refine ⟨fun c4 => ?_, fun c4 => ?_⟩
  · try simp (disch := first | ((try simp (disch := first | ((try simp only [pn]) <;> omega) | fail) only [pn, pq]) <;> omega) | fail) only [pn, pq] at c4
    unfold wp_X9_report_24
    intro S5 eS5
    have hJS5 : J9 S5 := by rw [eS5]; exact (J9s_signMany hJu3 ⟨(by (try simp (disch := first | ((try simp (disch := first | ((try simp only [pn]) <;> omega) | fail) only [pn, pq]) <;> omega) | fail) only [pn, pq]) <;> (intros; (try simp (disch := first | ((try simp (disch := first | ((try simp only [pn]) <;> omega) | fail) only [pn, pq]) <;> omega) | fail) only [pn, pq]) <;> omega)), (by (try simp (disch := first | ((try simp (disch := first | ((try simp only [pn]) <;> omega) | fail) only [pn, pq]) <;> omega) | fail) only [pn, pq]) <;> (intros; (try simp (disch := first | ((try simp (disch := first | ((try simp only [pn]) <;> omega) | fail) only [pn, pq]) <;> omega) | fail) only [pn, pq]) <;> omega))⟩)
    have hFS5 : F_X9_report S S5 := by rw [eS5]; exact hFu3
    have je19 : ((b9g_signMany S5)).toInt = ((0 : Int32)).toInt := by rw [eS5]
    try simp (disch := first | ((try simp (disch := first | ((try simp only [pn]) <;> omega) | fail) only [pn, pq]) <;> omega) | fail) only [pn, pq] at je19
    have jf20 := J9g_signMany hJS5
    have je21 : ((b9g_now S5) 1).toInt = ((b9g_now S) 1).toInt := congrArg (fun z => (z 1).toInt) hFS5.1
    have je22 : ((b9g_now S5) 4).toInt = ((b9g_now S) 4).toInt := congrArg (fun z => (z 4).toInt) hFS5.1
    have je23 : ((b9g_now S5) 8).toInt = ((b9g_now S) 8).toInt := congrArg (fun z => (z 8).toInt) hFS5.1
    have je24 : ((b9g_now S5) 9).toInt = ((b9g_now S) 9).toInt := congrArg (fun z => (z 9).toInt) hFS5.1
    have je25 : ((b9g_now S5) 10).toInt = ((b9g_now S) 10).toInt := congrArg (fun z => (z 10).toInt) hFS5.1
    have je26 : ((b9g_now S5) 12).toInt = ((b9g_now S) 12).toInt := congrArg (fun z => (z 12).toInt) hFS5.1
    have ju26_S5 := hJS5.2
    refine ⟨fun c6 => ?_, fun c6 => ?_⟩
    · try simp (disch := first | ((try simp (disch := first | ((try simp only [pn]) <;> omega) | fail) only [pn, pq]) <;> omega) | fail) only [pn, pq] at c6
      refine sf_X9_reportsLeaf hJS5 (by (try simp (disch := first | ((try simp (disch := first | ((try simp only [pn]) <;> omega) | fail) only [pn, pq]) <;> omega) | fail) only [pn, pq]) <;> (intros; (try simp (disch := first | ((try simp (disch := first | ((try simp only [pn]) <;> omega) | fail) only [pn, pq]) <;> omega) | fail) only [pn, pq]) <;> omega)) (by (try simp (disch := first | ((try simp (disch := first | ((try simp only [pn]) <;> omega) | fail) only [pn, pq]) <;> omega) | fail) only [pn, pq]) <;> (intros; (try simp (disch := first | ((try simp (disch := first | ((try simp only [pn]) <;> omega) | fail) only [pn, pq]) <;> omega) | fail) only [pn, pq]) <;> omega)) (by (try simp (disch := first | ((try simp (disch := first | ((try simp only [pn]) <;> omega) | fail) only [pn, pq]) <;> omega) | fail) only [pn, pq]) <;> (intros; (try simp (disch := first | ((try simp (disch := first | ((try simp only [pn]) <;> omega) | fail) only [pn, pq]) <;> omega) | fail) only [pn, pq]) <;> omega)) (fun u8 hJu8 hfu8  => ?_)
      have hFu8 : F_X9_report S u8 := ⟨(congrArg (fun z => z) hfu8.2.1).trans hFS5.1, (congrArg (fun z => z) hfu8.2.2.1).trans hFS5.2.1, (congrArg (fun z => z) hfu8.2.2.2.1).trans hFS5.2.2.1, (congrArg (fun z => z) hfu8.2.2.2.2.1).trans hFS5.2.2.2.1, (congrArg (fun z => z) hfu8.2.2.2.2.2.1).trans hFS5.2.2.2.2.1, (congrArg (fun z => z) hfu8.2.2.2.2.2.2.1).trans hFS5.2.2.2.2.2.1, (congrArg (fun z => z) hfu8.2.2.2.2.2.2.2.1).trans hFS5.2.2.2.2.2.2.1, (congrArg (fun z => z) hfu8.2.2.2.2.2.2.2.2.1).trans hFS5.2.2.2.2.2.2.2.1, (congrArg (fun z => z) hfu8.2.2.2.2.2.2.2.2.2.1).trans hFS5.2.2.2.2.2.2.2.2.1, (congrArg (fun z => z) hfu8.2.2.2.2.2.2.2.2.2.2.2.2.2.2.2.2.2.2.2.2.2.2.2.2.2.2.2.2.1).trans hFS5.2.2.2.2.2.2.2.2.2.1, (congrArg (fun z => z) hfu8.2.2.2.2.2.2.2.2.2.2.2.2.2.2.2.2.2.2.2.2.2.2.2.2.2.2.2.2.2.1).trans hFS5.2.2.2.2.2.2.2.2.2.2.1, (congrArg (fun z => z) hfu8.2.2.2.2.2.2.2.2.2.2.2.2.2.2.2.2.2.2.2.2.2.2.2.2.2.2.2.2.2.2.1).trans hFS5.2.2.2.2.2.2.2.2.2.2.2.1, (congrArg (fun z => z) hfu8.2.2.2.2.2.2.2.2.2.2.2.2.2.2.2.2.2.2.2.2.2.2.2.2.2.2.2.2.2.2.2.1).trans hFS5.2.2.2.2.2.2.2.2.2.2.2.2.1, (congrArg (fun z => z) hfu8.2.2.2.2.2.2.2.2.2.2.2.2.2.2.2.2.2.2.2.2.2.2.2.2.2.2.2.2.2.2.2.2.1).trans hFS5.2.2.2.2.2.2.2.2.2.2.2.2.2.1, (congrArg (fun z => z) hfu8.2.2.2.2.2.2.2.2.2.2.2.2.2.2.2.2.2.2.2.2.2.2.2.2.2.2.2.2.2.2.2.2.2.1).trans hFS5.2.2.2.2.2.2.2.2.2.2.2.2.2.2.1, (congrArg (fun z => z) hfu8.2.2.2.2.2.2.2.2.2.2.2.2.2.2.2.2.2.2.2.2.2.2.2.2.2.2.2.2.2.2.2.2.2.2.1).trans hFS5.2.2.2.2.2.2.2.2.2.2.2.2.2.2.2.1, (congrArg (fun z => z) hfu8.2.2.2.2.2.2.2.2.2.2.2.2.2.2.2.2.2.2.2.2.2.2.2.2.2.2.2.2.2.2.2.2.2.2.2.1).trans hFS5.2.2.2.2.2.2.2.2.2.2.2.2.2.2.2.2.1, (congrArg (fun z => z) hfu8.2.2.2.2.2.2.2.2.2.2.2.2.2.2.2.2.2.2.2.2.2.2.2.2.2.2.2.2.2.2.2.2.2.2.2.2.1).trans hFS5.2.2.2.2.2.2.2.2.2.2.2.2.2.2.2.2.2.1, (congrArg (fun z => z) hfu8.2.2.2.2.2.2.2.2.2.2.2.2.2.2.2.2.2.2.2.2.2.2.2.2.2.2.2.2.2.2.2.2.2.2.2.2.2.1).trans hFS5.2.2.2.2.2.2.2.2.2.2.2.2.2.2.2.2.2.2.1, (congrArg (fun z => z) hfu8.2.2.2.2.2.2.2.2.2.2.2.2.2.2.2.2.2.2.2.2.2.2.2.2.2.2.2.2.2.2.2.2.2.2.2.2.2.2.1).trans hFS5.2.2.2.2.2.2.2.2.2.2.2.2.2.2.2.2.2.2.2.1, (congrArg (fun z => z) hfu8.2.2.2.2.2.2.2.2.2.2.2.2.2.2.2.2.2.2.2.2.2.2.2.2.2.2.2.2.2.2.2.2.2.2.2.2.2.2.2.2.1).trans hFS5.2.2.2.2.2.2.2.2.2.2.2.2.2.2.2.2.2.2.2.2.1, (congrArg (fun z => z) hfu8.2.2.2.2.2.2.2.2.2.2.2.2.2.2.2.2.2.2.2.2.2.2.2.2.2.2.2.2.2.2.2.2.2.2.2.2.2.2.2.2.2.1).trans hFS5.2.2.2.2.2.2.2.2.2.2.2.2.2.2.2.2.2.2.2.2.2.1, (congrArg (fun z => z) hfu8.2.2.2.2.2.2.2.2.2.2.2.2.2.2.2.2.2.2.2.2.2.2.2.2.2.2.2.2.2.2.2.2.2.2.2.2.2.2.2.2.2.2.1).trans hFS5.2.2.2.2.2.2.2.2.2.2.2.2.2.2.2.2.2.2.2.2.2.2.1, (congrArg (fun z => z) hfu8.2.2.2.2.2.2.2.2.2.2.2.2.2.2.2.2.2.2.2.2.2.2.2.2.2.2.2.2.2.2.2.2.2.2.2.2.2.2.2.2.2.2.2).trans hFS5.2.2.2.2.2.2.2.2.2.2.2.2.2.2.2.2.2.2.2.2.2.2.2⟩
      have jf27 := J9g_signMany hJu8
      have je28 : ((b9g_now u8) 1).toInt = ((b9g_now S) 1).toInt := congrArg (fun z => (z 1).toInt) hFu8.1
      have je29 : ((b9g_now u8) 4).toInt = ((b9g_now S) 4).toInt := congrArg (fun z => (z 4).toInt) hFu8.1
      have je30 : ((b9g_now u8) 8).toInt = ((b9g_now S) 8).toInt := congrArg (fun z => (z 8).toInt) hFu8.1
      have je31 : ((b9g_now u8) 9).toInt = ((b9g_now S) 9).toInt := congrArg (fun z => (z 9).toInt) hFu8.1
      have je32 : ((b9g_now u8) 10).toInt = ((b9g_now S) 10).toInt := congrArg (fun z => (z 10).toInt) hFu8.1
      have je33 : ((b9g_now u8) 12).toInt = ((b9g_now S) 12).toInt := congrArg (fun z => (z 12).toInt) hFu8.1
      have ju33_u8 := hJu8.2
      exact hq _ _ hJu8 hFu8 
    · try simp (disch := first | ((try simp (disch := first | ((try simp only [pn]) <;> omega) | fail) only [pn, pq]) <;> omega) | fail) only [pn, pq] at c6
      refine sf_X9_reportsAll hJS5 (by (try simp (disch := first | ((try simp (disch := first | ((try simp only [pn]) <;> omega) | fail) only [pn, pq]) <;> omega) | fail) only [pn, pq]) <;> (intros; (try simp (disch := first | ((try simp (disch := first | ((try simp only [pn]) <;> omega) | fail) only [pn, pq]) <;> omega) | fail) only [pn, pq]) <;> omega)) (fun u10 hJu10 hfu10  => ?_)
      have hFu10 : F_X9_report S u10 := ⟨(congrArg (fun z => z) hfu10.2.1).trans hFS5.1, (congrArg (fun z => z) hfu10.2.2.1).trans hFS5.2.1, (congrArg (fun z => z) hfu10.2.2.2.1).trans hFS5.2.2.1, (congrArg (fun z => z) hfu10.2.2.2.2.1).trans hFS5.2.2.2.1, (congrArg (fun z => z) hfu10.2.2.2.2.2.1).trans hFS5.2.2.2.2.1, (congrArg (fun z => z) hfu10.2.2.2.2.2.2.1).trans hFS5.2.2.2.2.2.1, (congrArg (fun z => z) hfu10.2.2.2.2.2.2.2.1).trans hFS5.2.2.2.2.2.2.1, (congrArg (fun z => z) hfu10.2.2.2.2.2.2.2.2.1).trans hFS5.2.2.2.2.2.2.2.1, (congrArg (fun z => z) hfu10.2.2.2.2.2.2.2.2.2.1).trans hFS5.2.2.2.2.2.2.2.2.1, (congrArg (fun z => z) hfu10.2.2.2.2.2.2.2.2.2.2.2.2.2.2.2.2.2.2.2.2.2.2.2.2.2.2.2.2.1).trans hFS5.2.2.2.2.2.2.2.2.2.1, (congrArg (fun z => z) hfu10.2.2.2.2.2.2.2.2.2.2.2.2.2.2.2.2.2.2.2.2.2.2.2.2.2.2.2.2.2.1).trans hFS5.2.2.2.2.2.2.2.2.2.2.1, (congrArg (fun z => z) hfu10.2.2.2.2.2.2.2.2.2.2.2.2.2.2.2.2.2.2.2.2.2.2.2.2.2.2.2.2.2.2.1).trans hFS5.2.2.2.2.2.2.2.2.2.2.2.1, (congrArg (fun z => z) hfu10.2.2.2.2.2.2.2.2.2.2.2.2.2.2.2.2.2.2.2.2.2.2.2.2.2.2.2.2.2.2.2.1).trans hFS5.2.2.2.2.2.2.2.2.2.2.2.2.1, (congrArg (fun z => z) hfu10.2.2.2.2.2.2.2.2.2.2.2.2.2.2.2.2.2.2.2.2.2.2.2.2.2.2.2.2.2.2.2.2.1).trans hFS5.2.2.2.2.2.2.2.2.2.2.2.2.2.1, (congrArg (fun z => z) hfu10.2.2.2.2.2.2.2.2.2.2.2.2.2.2.2.2.2.2.2.2.2.2.2.2.2.2.2.2.2.2.2.2.2.1).trans hFS5.2.2.2.2.2.2.2.2.2.2.2.2.2.2.1, (congrArg (fun z => z) hfu10.2.2.2.2.2.2.2.2.2.2.2.2.2.2.2.2.2.2.2.2.2.2.2.2.2.2.2.2.2.2.2.2.2.2.1).trans hFS5.2.2.2.2.2.2.2.2.2.2.2.2.2.2.2.1, (congrArg (fun z => z) hfu10.2.2.2.2.2.2.2.2.2.2.2.2.2.2.2.2.2.2.2.2.2.2.2.2.2.2.2.2.2.2.2.2.2.2.2.1).trans hFS5.2.2.2.2.2.2.2.2.2.2.2.2.2.2.2.2.1, (congrArg (fun z => z) hfu10.2.2.2.2.2.2.2.2.2.2.2.2.2.2.2.2.2.2.2.2.2.2.2.2.2.2.2.2.2.2.2.2.2.2.2.2.1).trans hFS5.2.2.2.2.2.2.2.2.2.2.2.2.2.2.2.2.2.1, (congrArg (fun z => z) hfu10.2.2.2.2.2.2.2.2.2.2.2.2.2.2.2.2.2.2.2.2.2.2.2.2.2.2.2.2.2.2.2.2.2.2.2.2.2.1).trans hFS5.2.2.2.2.2.2.2.2.2.2.2.2.2.2.2.2.2.2.1, (congrArg (fun z => z) hfu10.2.2.2.2.2.2.2.2.2.2.2.2.2.2.2.2.2.2.2.2.2.2.2.2.2.2.2.2.2.2.2.2.2.2.2.2.2.2.1).trans hFS5.2.2.2.2.2.2.2.2.2.2.2.2.2.2.2.2.2.2.2.1, (congrArg (fun z => z) hfu10.2.2.2.2.2.2.2.2.2.2.2.2.2.2.2.2.2.2.2.2.2.2.2.2.2.2.2.2.2.2.2.2.2.2.2.2.2.2.2.2.1).trans hFS5.2.2.2.2.2.2.2.2.2.2.2.2.2.2.2.2.2.2.2.2.1, (congrArg (fun z => z) hfu10.2.2.2.2.2.2.2.2.2.2.2.2.2.2.2.2.2.2.2.2.2.2.2.2.2.2.2.2.2.2.2.2.2.2.2.2.2.2.2.2.2.1).trans hFS5.2.2.2.2.2.2.2.2.2.2.2.2.2.2.2.2.2.2.2.2.2.1, (congrArg (fun z => z) hfu10.2.2.2.2.2.2.2.2.2.2.2.2.2.2.2.2.2.2.2.2.2.2.2.2.2.2.2.2.2.2.2.2.2.2.2.2.2.2.2.2.2.2.1).trans hFS5.2.2.2.2.2.2.2.2.2.2.2.2.2.2.2.2.2.2.2.2.2.2.1, (congrArg (fun z => z) hfu10.2.2.2.2.2.2.2.2.2.2.2.2.2.2.2.2.2.2.2.2.2.2.2.2.2.2.2.2.2.2.2.2.2.2.2.2.2.2.2.2.2.2.2).trans hFS5.2.2.2.2.2.2.2.2.2.2.2.2.2.2.2.2.2.2.2.2.2.2.2⟩
      have jf34 := J9g_signMany hJu10
      have je35 : ((b9g_now u10) 1).toInt = ((b9g_now S) 1).toInt := congrArg (fun z => (z 1).toInt) hFu10.1
      have je36 : ((b9g_now u10) 4).toInt = ((b9g_now S) 4).toInt := congrArg (fun z => (z 4).toInt) hFu10.1
      have je37 : ((b9g_now u10) 8).toInt = ((b9g_now S) 8).toInt := congrArg (fun z => (z 8).toInt) hFu10.1
      have je38 : ((b9g_now u10) 9).toInt = ((b9g_now S) 9).toInt := congrArg (fun z => (z 9).toInt) hFu10.1
      have je39 : ((b9g_now u10) 10).toInt = ((b9g_now S) 10).toInt := congrArg (fun z => (z 10).toInt) hFu10.1
      have je40 : ((b9g_now u10) 12).toInt = ((b9g_now S) 12).toInt := congrArg (fun z => (z 12).toInt) hFu10.1
      have ju40_u10 := hJu10.2
      exact hq _ _ hJu10 hFu10 
  · try simp (disch := first | ((try simp (disch := first | ((try simp only [pn]) <;> omega) | fail) only [pn, pq]) <;> omega) | fail) only [pn, pq] at c4
    refine sf_X9_isLeaf hJu3 (fun r11 u12 hJu12 hfu12 hzr11 hr11_0 => ?_)
    have hFu12 : F_X9_report S u12 := ⟨(congrArg (fun z => z) hfu12.2.1).trans hFu3.1, (congrArg (fun z => z) hfu12.2.2.1).trans hFu3.2.1, (congrArg (fun z => z) hfu12.2.2.2.1).trans hFu3.2.2.1, (congrArg (fun z => z) hfu12.2.2.2.2.1).trans hFu3.2.2.2.1, (congrArg (fun z => z) hfu12.2.2.2.2.2.1).trans hFu3.2.2.2.2.1, (congrArg (fun z => z) hfu12.2.2.2.2.2.2.1).trans hFu3.2.2.2.2.2.1, (congrArg (fun z => z) hfu12.2.2.2.2.2.2.2.1).trans hFu3.2.2.2.2.2.2.1, (congrArg (fun z => z) hfu12.2.2.2.2.2.2.2.2.1).trans hFu3.2.2.2.2.2.2.2.1, (congrArg (fun z => z) hfu12.2.2.2.2.2.2.2.2.2.1).trans hFu3.2.2.2.2.2.2.2.2.1, (congrArg (fun z => z) hfu12.2.2.2.2.2.2.2.2.2.2.2.2.2.2.2.2.2.2.2.2.2.2.2.2.2.1).trans hFu3.2.2.2.2.2.2.2.2.2.1, (congrArg (fun z => z) hfu12.2.2.2.2.2.2.2.2.2.2.2.2.2.2.2.2.2.2.2.2.2.2.2.2.2.2.1).trans hFu3.2.2.2.2.2.2.2.2.2.2.1, (congrArg (fun z => z) hfu12.2.2.2.2.2.2.2.2.2.2.2.2.2.2.2.2.2.2.2.2.2.2.2.2.2.2.2.1).trans hFu3.2.2.2.2.2.2.2.2.2.2.2.1, (congrArg (fun z => z) hfu12.2.2.2.2.2.2.2.2.2.2.2.2.2.2.2.2.2.2.2.2.2.2.2.2.2.2.2.2.1).trans hFu3.2.2.2.2.2.2.2.2.2.2.2.2.1, (congrArg (fun z => z) hfu12.2.2.2.2.2.2.2.2.2.2.2.2.2.2.2.2.2.2.2.2.2.2.2.2.2.2.2.2.2.1).trans hFu3.2.2.2.2.2.2.2.2.2.2.2.2.2.1, (congrArg (fun z => z) hfu12.2.2.2.2.2.2.2.2.2.2.2.2.2.2.2.2.2.2.2.2.2.2.2.2.2.2.2.2.2.2.1).trans hFu3.2.2.2.2.2.2.2.2.2.2.2.2.2.2.1, (congrArg (fun z => z) hfu12.2.2.2.2.2.2.2.2.2.2.2.2.2.2.2.2.2.2.2.2.2.2.2.2.2.2.2.2.2.2.2.1).trans hFu3.2.2.2.2.2.2.2.2.2.2.2.2.2.2.2.1, (congrArg (fun z => z) hfu12.2.2.2.2.2.2.2.2.2.2.2.2.2.2.2.2.2.2.2.2.2.2.2.2.2.2.2.2.2.2.2.2.1).trans hFu3.2.2.2.2.2.2.2.2.2.2.2.2.2.2.2.2.1, (congrArg (fun z => z) hfu12.2.2.2.2.2.2.2.2.2.2.2.2.2.2.2.2.2.2.2.2.2.2.2.2.2.2.2.2.2.2.2.2.2.1).trans hFu3.2.2.2.2.2.2.2.2.2.2.2.2.2.2.2.2.2.1, (congrArg (fun z => z) hfu12.2.2.2.2.2.2.2.2.2.2.2.2.2.2.2.2.2.2.2.2.2.2.2.2.2.2.2.2.2.2.2.2.2.2.1).trans hFu3.2.2.2.2.2.2.2.2.2.2.2.2.2.2.2.2.2.2.1, (congrArg (fun z => z) hfu12.2.2.2.2.2.2.2.2.2.2.2.2.2.2.2.2.2.2.2.2.2.2.2.2.2.2.2.2.2.2.2.2.2.2.2.1).trans hFu3.2.2.2.2.2.2.2.2.2.2.2.2.2.2.2.2.2.2.2.1, (congrArg (fun z => z) hfu12.2.2.2.2.2.2.2.2.2.2.2.2.2.2.2.2.2.2.2.2.2.2.2.2.2.2.2.2.2.2.2.2.2.2.2.2.2.2.2.1).trans hFu3.2.2.2.2.2.2.2.2.2.2.2.2.2.2.2.2.2.2.2.2.1, (congrArg (fun z => z) hfu12.2.2.2.2.2.2.2.2.2.2.2.2.2.2.2.2.2.2.2.2.2.2.2.2.2.2.2.2.2.2.2.2.2.2.2.2.2.2.2.2.1).trans hFu3.2.2.2.2.2.2.2.2.2.2.2.2.2.2.2.2.2.2.2.2.2.1, (congrArg (fun z => z) hfu12.2.2.2.2.2.2.2.2.2.2.2.2.2.2.2.2.2.2.2.2.2.2.2.2.2.2.2.2.2.2.2.2.2.2.2.2.2.2.2.2.2.1).trans hFu3.2.2.2.2.2.2.2.2.2.2.2.2.2.2.2.2.2.2.2.2.2.2.1, (congrArg (fun z => z) hfu12.2.2.2.2.2.2.2.2.2.2.2.2.2.2.2.2.2.2.2.2.2.2.2.2.2.2.2.2.2.2.2.2.2.2.2.2.2.2.2.2.2.2).trans hFu3.2.2.2.2.2.2.2.2.2.2.2.2.2.2.2.2.2.2.2.2.2.2.2⟩
    have je41 : ((b9g_signMany u12)).toInt = ((b9g_signMany u3)).toInt := congrArg (fun z => (z).toInt) hfu12.2.2.2.2.2.2.2.2.2.2.2.2.2.2.2.2.2.2.2.2.2.2.2.2.2.2.2.2.2.2.2.2.2.2.2.2.2.2.1
    have jf42 := J9g_signMany hJu12
    have je43 : ((b9g_now u12) 1).toInt = ((b9g_now S) 1).toInt := congrArg (fun z => (z 1).toInt) hFu12.1
    have je44 : ((b9g_now u12) 4).toInt = ((b9g_now S) 4).toInt := congrArg (fun z => (z 4).toInt) hFu12.1
    have je45 : ((b9g_now u12) 8).toInt = ((b9g_now S) 8).toInt := congrArg (fun z => (z 8).toInt) hFu12.1
    have je46 : ((b9g_now u12) 9).toInt = ((b9g_now S) 9).toInt := congrArg (fun z => (z 9).toInt) hFu12.1
    have je47 : ((b9g_now u12) 10).toInt = ((b9g_now S) 10).toInt := congrArg (fun z => (z 10).toInt) hFu12.1
    have je48 : ((b9g_now u12) 12).toInt = ((b9g_now S) 12).toInt := congrArg (fun z => (z 12).toInt) hFu12.1
    have ju48_u12 := hJu12.2
    try simp (disch := first | ((try simp (disch := first | ((try simp only [pn]) <;> omega) | fail) only [pn, pq]) <;> omega) | fail) only [pn, pq] at hr11_0
    refine ⟨fun c13 => ?_, fun c13 => ?_⟩
    · try simp (disch := first | ((try simp (disch := first | ((try simp only [pn]) <;> omega) | fail) only [pn, pq]) <;> omega) | fail) only [pn, pq] at c13
      unfold wp_X9_report_24
      intro S14 eS14
      have hJS14 : J9 S14 := by rw [eS14]; exact (J9s_signMany hJu12 ⟨(by (try simp (disch := first | ((try simp (disch := first | ((try simp only [pn]) <;> omega) | fail) only [pn, pq]) <;> omega) | fail) only [pn, pq]) <;> (intros; (try simp (disch := first | ((try simp (disch := first | ((try simp only [pn]) <;> omega) | fail) only [pn, pq]) <;> omega) | fail) only [pn, pq]) <;> omega)), (by (try simp (disch := first | ((try simp (disch := first | ((try simp only [pn]) <;> omega) | fail) only [pn, pq]) <;> omega) | fail) only [pn, pq]) <;> (intros; (try simp (disch := first | ((try simp (disch := first | ((try simp only [pn]) <;> omega) | fail) only [pn, pq]) <;> omega) | fail) only [pn, pq]) <;> omega))⟩)
      have hFS14 : F_X9_report S S14 := by rw [eS14]; exact hFu12
      have je49 : ((b9g_signMany S14)).toInt = ((0 : Int32)).toInt := by rw [eS14]
      try simp (disch := first | ((try simp (disch := first | ((try simp only [pn]) <;> omega) | fail) only [pn, pq]) <;> omega) | fail) only [pn, pq] at je49
      have jf50 := J9g_signMany hJS14
      have je51 : ((b9g_now S14) 1).toInt = ((b9g_now S) 1).toInt := congrArg (fun z => (z 1).toInt) hFS14.1
      have je52 : ((b9g_now S14) 4).toInt = ((b9g_now S) 4).toInt := congrArg (fun z => (z 4).toInt) hFS14.1
      have je53 : ((b9g_now S14) 8).toInt = ((b9g_now S) 8).toInt := congrArg (fun z => (z 8).toInt) hFS14.1
      have je54 : ((b9g_now S14) 9).toInt = ((b9g_now S) 9).toInt := congrArg (fun z => (z 9).toInt) hFS14.1
      have je55 : ((b9g_now S14) 10).toInt = ((b9g_now S) 10).toInt := congrArg (fun z => (z 10).toInt) hFS14.1
      have je56 : ((b9g_now S14) 12).toInt = ((b9g_now S) 12).toInt := congrArg (fun z => (z 12).toInt) hFS14.1
      have ju56_S14 := hJS14.2
      refine ⟨fun c15 => ?_, fun c15 => ?_⟩
      · try simp (disch := first | ((try simp (disch := first | ((try simp only [pn]) <;> omega) | fail) only [pn, pq]) <;> omega) | fail) only [pn, pq] at c15
        refine sf_X9_reportsLeaf hJS14 (by (try simp (disch := first | ((try simp (disch := first | ((try simp only [pn]) <;> omega) | fail) only [pn, pq]) <;> omega) | fail) only [pn, pq]) <;> (intros; (try simp (disch := first | ((try simp (disch := first | ((try simp only [pn]) <;> omega) | fail) only [pn, pq]) <;> omega) | fail) only [pn, pq]) <;> omega)) (by (try simp (disch := first | ((try simp (disch := first | ((try simp only [pn]) <;> omega) | fail) only [pn, pq]) <;> omega) | fail) only [pn, pq]) <;> (intros; (try simp (disch := first | ((try simp (disch := first | ((try simp only [pn]) <;> omega) | fail) only [pn, pq]) <;> omega) | fail) only [pn, pq]) <;> omega)) (by (try simp (disch := first | ((try simp (disch := first | ((try simp only [pn]) <;> omega) | fail) only [pn, pq]) <;> omega) | fail) only [pn, pq]) <;> (intros; (try simp (disch := first | ((try simp (disch := first | ((try simp only [pn]) <;> omega) | fail) only [pn, pq]) <;> omega) | fail) only [pn, pq]) <;> omega)) (fun u17 hJu17 hfu17  => ?_)
        have hFu17 : F_X9_report S u17 := ⟨(congrArg (fun z => z) hfu17.2.1).trans hFS14.1, (congrArg (fun z => z) hfu17.2.2.1).trans hFS14.2.1, (congrArg (fun z => z) hfu17.2.2.2.1).trans hFS14.2.2.1, (congrArg (fun z => z) hfu17.2.2.2.2.1).trans hFS14.2.2.2.1, (congrArg (fun z => z) hfu17.2.2.2.2.2.1).trans hFS14.2.2.2.2.1, (congrArg (fun z => z) hfu17.2.2.2.2.2.2.1).trans hFS14.2.2.2.2.2.1, (congrArg (fun z => z) hfu17.2.2.2.2.2.2.2.1).trans hFS14.2.2.2.2.2.2.1, (congrArg (fun z => z) hfu17.2.2.2.2.2.2.2.2.1).trans hFS14.2.2.2.2.2.2.2.1, (congrArg (fun z => z) hfu17.2.2.2.2.2.2.2.2.2.1).trans hFS14.2.2.2.2.2.2.2.2.1, (congrArg (fun z => z) hfu17.2.2.2.2.2.2.2.2.2.2.2.2.2.2.2.2.2.2.2.2.2.2.2.2.2.2.2.2.1).trans hFS14.2.2.2.2.2.2.2.2.2.1, (congrArg (fun z => z) hfu17.2.2.2.2.2.2.2.2.2.2.2.2.2.2.2.2.2.2.2.2.2.2.2.2.2.2.2.2.2.1).trans hFS14.2.2.2.2.2.2.2.2.2.2.1, (congrArg (fun z => z) hfu17.2.2.2.2.2.2.2.2.2.2.2.2.2.2.2.2.2.2.2.2.2.2.2.2.2.2.2.2.2.2.1).trans hFS14.2.2.2.2.2.2.2.2.2.2.2.1, (congrArg (fun z => z) hfu17.2.2.2.2.2.2.2.2.2.2.2.2.2.2.2.2.2.2.2.2.2.2.2.2.2.2.2.2.2.2.2.1).trans hFS14.2.2.2.2.2.2.2.2.2.2.2.2.1, (congrArg (fun z => z) hfu17.2.2.2.2.2.2.2.2.2.2.2.2.2.2.2.2.2.2.2.2.2.2.2.2.2.2.2.2.2.2.2.2.1).trans hFS14.2.2.2.2.2.2.2.2.2.2.2.2.2.1, (congrArg (fun z => z) hfu17.2.2.2.2.2.2.2.2.2.2.2.2.2.2.2.2.2.2.2.2.2.2.2.2.2.2.2.2.2.2.2.2.2.1).trans hFS14.2.2.2.2.2.2.2.2.2.2.2.2.2.2.1, (congrArg (fun z => z) hfu17.2.2.2.2.2.2.2.2.2.2.2.2.2.2.2.2.2.2.2.2.2.2.2.2.2.2.2.2.2.2.2.2.2.2.1).trans hFS14.2.2.2.2.2.2.2.2.2.2.2.2.2.2.2.1, (congrArg (fun z => z) hfu17.2.2.2.2.2.2.2.2.2.2.2.2.2.2.2.2.2.2.2.2.2.2.2.2.2.2.2.2.2.2.2.2.2.2.2.1).trans hFS14.2.2.2.2.2.2.2.2.2.2.2.2.2.2.2.2.1, (congrArg (fun z => z) hfu17.2.2.2.2.2.2.2.2.2.2.2.2.2.2.2.2.2.2.2.2.2.2.2.2.2.2.2.2.2.2.2.2.2.2.2.2.1).trans hFS14.2.2.2.2.2.2.2.2.2.2.2.2.2.2.2.2.2.1, (congrArg (fun z => z) hfu17.2.2.2.2.2.2.2.2.2.2.2.2.2.2.2.2.2.2.2.2.2.2.2.2.2.2.2.2.2.2.2.2.2.2.2.2.2.1).trans hFS14.2.2.2.2.2.2.2.2.2.2.2.2.2.2.2.2.2.2.1, (congrArg (fun z => z) hfu17.2.2.2.2.2.2.2.2.2.2.2.2.2.2.2.2.2.2.2.2.2.2.2.2.2.2.2.2.2.2.2.2.2.2.2.2.2.2.1).trans hFS14.2.2.2.2.2.2.2.2.2.2.2.2.2.2.2.2.2.2.2.1, (congrArg (fun z => z) hfu17.2.2.2.2.2.2.2.2.2.2.2.2.2.2.2.2.2.2.2.2.2.2.2.2.2.2.2.2.2.2.2.2.2.2.2.2.2.2.2.2.1).trans hFS14.2.2.2.2.2.2.2.2.2.2.2.2.2.2.2.2.2.2.2.2.1, (congrArg (fun z => z) hfu17.2.2.2.2.2.2.2.2.2.2.2.2.2.2.2.2.2.2.2.2.2.2.2.2.2.2.2.2.2.2.2.2.2.2.2.2.2.2.2.2.2.1).trans hFS14.2.2.2.2.2.2.2.2.2.2.2.2.2.2.2.2.2.2.2.2.2.1, (congrArg (fun z => z) hfu17.2.2.2.2.2.2.2.2.2.2.2.2.2.2.2.2.2.2.2.2.2.2.2.2.2.2.2.2.2.2.2.2.2.2.2.2.2.2.2.2.2.2.1).trans hFS14.2.2.2.2.2.2.2.2.2.2.2.2.2.2.2.2.2.2.2.2.2.2.1, (congrArg (fun z => z) hfu17.2.2.2.2.2.2.2.2.2.2.2.2.2.2.2.2.2.2.2.2.2.2.2.2.2.2.2.2.2.2.2.2.2.2.2.2.2.2.2.2.2.2.2).trans hFS14.2.2.2.2.2.2.2.2.2.2.2.2.2.2.2.2.2.2.2.2.2.2.2⟩
        have jf57 := J9g_signMany hJu17
        have je58 : ((b9g_now u17) 1).toInt = ((b9g_now S) 1).toInt := congrArg (fun z => (z 1).toInt) hFu17.1
        have je59 : ((b9g_now u17) 4).toInt = ((b9g_now S) 4).toInt := congrArg (fun z => (z 4).toInt) hFu17.1
        have je60 : ((b9g_now u17) 8).toInt = ((b9g_now S) 8).toInt := congrArg (fun z => (z 8).toInt) hFu17.1
        have je61 : ((b9g_now u17) 9).toInt = ((b9g_now S) 9).toInt := congrArg (fun z => (z 9).toInt) hFu17.1
        have je62 : ((b9g_now u17) 10).toInt = ((b9g_now S) 10).toInt := congrArg (fun z => (z 10).toInt) hFu17.1
        have je63 : ((b9g_now u17) 12).toInt = ((b9g_now S) 12).toInt := congrArg (fun z => (z 12).toInt) hFu17.1
        have ju63_u17 := hJu17.2
        exact hq _ _ hJu17 hFu17 
      · try simp (disch := first | ((try simp (disch := first | ((try simp only [pn]) <;> omega) | fail) only [pn, pq]) <;> omega) | fail) only [pn, pq] at c15
        refine sf_X9_reportsAll hJS14 (by (try simp (disch := first | ((try simp (disch := first | ((try simp only [pn]) <;> omega) | fail) only [pn, pq]) <;> omega) | fail) only [pn, pq]) <;> (intros; (try simp (disch := first | ((try simp (disch := first | ((try simp only [pn]) <;> omega) | fail) only [pn, pq]) <;> omega) | fail) only [pn, pq]) <;> omega)) (fun u19 hJu19 hfu19  => ?_)
        have hFu19 : F_X9_report S u19 := ⟨(congrArg (fun z => z) hfu19.2.1).trans hFS14.1, (congrArg (fun z => z) hfu19.2.2.1).trans hFS14.2.1, (congrArg (fun z => z) hfu19.2.2.2.1).trans hFS14.2.2.1, (congrArg (fun z => z) hfu19.2.2.2.2.1).trans hFS14.2.2.2.1, (congrArg (fun z => z) hfu19.2.2.2.2.2.1).trans hFS14.2.2.2.2.1, (congrArg (fun z => z) hfu19.2.2.2.2.2.2.1).trans hFS14.2.2.2.2.2.1, (congrArg (fun z => z) hfu19.2.2.2.2.2.2.2.1).trans hFS14.2.2.2.2.2.2.1, (congrArg (fun z => z) hfu19.2.2.2.2.2.2.2.2.1).trans hFS14.2.2.2.2.2.2.2.1, (congrArg (fun z => z) hfu19.2.2.2.2.2.2.2.2.2.1).trans hFS14.2.2.2.2.2.2.2.2.1, (congrArg (fun z => z) hfu19.2.2.2.2.2.2.2.2.2.2.2.2.2.2.2.2.2.2.2.2.2.2.2.2.2.2.2.2.1).trans hFS14.2.2.2.2.2.2.2.2.2.1, (congrArg (fun z => z) hfu19.2.2.2.2.2.2.2.2.2.2.2.2.2.2.2.2.2.2.2.2.2.2.2.2.2.2.2.2.2.1).trans hFS14.2.2.2.2.2.2.2.2.2.2.1, (congrArg (fun z => z) hfu19.2.2.2.2.2.2.2.2.2.2.2.2.2.2.2.2.2.2.2.2.2.2.2.2.2.2.2.2.2.2.1).trans hFS14.2.2.2.2.2.2.2.2.2.2.2.1, (congrArg (fun z => z) hfu19.2.2.2.2.2.2.2.2.2.2.2.2.2.2.2.2.2.2.2.2.2.2.2.2.2.2.2.2.2.2.2.1).trans hFS14.2.2.2.2.2.2.2.2.2.2.2.2.1, (congrArg (fun z => z) hfu19.2.2.2.2.2.2.2.2.2.2.2.2.2.2.2.2.2.2.2.2.2.2.2.2.2.2.2.2.2.2.2.2.1).trans hFS14.2.2.2.2.2.2.2.2.2.2.2.2.2.1, (congrArg (fun z => z) hfu19.2.2.2.2.2.2.2.2.2.2.2.2.2.2.2.2.2.2.2.2.2.2.2.2.2.2.2.2.2.2.2.2.2.1).trans hFS14.2.2.2.2.2.2.2.2.2.2.2.2.2.2.1, (congrArg (fun z => z) hfu19.2.2.2.2.2.2.2.2.2.2.2.2.2.2.2.2.2.2.2.2.2.2.2.2.2.2.2.2.2.2.2.2.2.2.1).trans hFS14.2.2.2.2.2.2.2.2.2.2.2.2.2.2.2.1, (congrArg (fun z => z) hfu19.2.2.2.2.2.2.2.2.2.2.2.2.2.2.2.2.2.2.2.2.2.2.2.2.2.2.2.2.2.2.2.2.2.2.2.1).trans hFS14.2.2.2.2.2.2.2.2.2.2.2.2.2.2.2.2.1, (congrArg (fun z => z) hfu19.2.2.2.2.2.2.2.2.2.2.2.2.2.2.2.2.2.2.2.2.2.2.2.2.2.2.2.2.2.2.2.2.2.2.2.2.1).trans hFS14.2.2.2.2.2.2.2.2.2.2.2.2.2.2.2.2.2.1, (congrArg (fun z => z) hfu19.2.2.2.2.2.2.2.2.2.2.2.2.2.2.2.2.2.2.2.2.2.2.2.2.2.2.2.2.2.2.2.2.2.2.2.2.2.1).trans hFS14.2.2.2.2.2.2.2.2.2.2.2.2.2.2.2.2.2.2.1, (congrArg (fun z => z) hfu19.2.2.2.2.2.2.2.2.2.2.2.2.2.2.2.2.2.2.2.2.2.2.2.2.2.2.2.2.2.2.2.2.2.2.2.2.2.2.1).trans hFS14.2.2.2.2.2.2.2.2.2.2.2.2.2.2.2.2.2.2.2.1, (congrArg (fun z => z) hfu19.2.2.2.2.2.2.2.2.2.2.2.2.2.2.2.2.2.2.2.2.2.2.2.2.2.2.2.2.2.2.2.2.2.2.2.2.2.2.2.2.1).trans hFS14.2.2.2.2.2.2.2.2.2.2.2.2.2.2.2.2.2.2.2.2.1, (congrArg (fun z => z) hfu19.2.2.2.2.2.2.2.2.2.2.2.2.2.2.2.2.2.2.2.2.2.2.2.2.2.2.2.2.2.2.2.2.2.2.2.2.2.2.2.2.2.1).trans hFS14.2.2.2.2.2.2.2.2.2.2.2.2.2.2.2.2.2.2.2.2.2.1, (congrArg (fun z => z) hfu19.2.2.2.2.2.2.2.2.2.2.2.2.2.2.2.2.2.2.2.2.2.2.2.2.2.2.2.2.2.2.2.2.2.2.2.2.2.2.2.2.2.2.1).trans hFS14.2.2.2.2.2.2.2.2.2.2.2.2.2.2.2.2.2.2.2.2.2.2.1, (congrArg (fun z => z) hfu19.2.2.2.2.2.2.2.2.2.2.2.2.2.2.2.2.2.2.2.2.2.2.2.2.2.2.2.2.2.2.2.2.2.2.2.2.2.2.2.2.2.2.2).trans hFS14.2.2.2.2.2.2.2.2.2.2.2.2.2.2.2.2.2.2.2.2.2.2.2⟩
        have jf64 := J9g_signMany hJu19
        have je65 : ((b9g_now u19) 1).toInt = ((b9g_now S) 1).toInt := congrArg (fun z => (z 1).toInt) hFu19.1
        have je66 : ((b9g_now u19) 4).toInt = ((b9g_now S) 4).toInt := congrArg (fun z => (z 4).toInt) hFu19.1
        have je67 : ((b9g_now u19) 8).toInt = ((b9g_now S) 8).toInt := congrArg (fun z => (z 8).toInt) hFu19.1
        have je68 : ((b9g_now u19) 9).toInt = ((b9g_now S) 9).toInt := congrArg (fun z => (z 9).toInt) hFu19.1
        have je69 : ((b9g_now u19) 10).toInt = ((b9g_now S) 10).toInt := congrArg (fun z => (z 10).toInt) hFu19.1
        have je70 : ((b9g_now u19) 12).toInt = ((b9g_now S) 12).toInt := congrArg (fun z => (z 12).toInt) hFu19.1
        have ju70_u19 := hJu19.2
        exact hq _ _ hJu19 hFu19 
    · try simp (disch := first | ((try simp (disch := first | ((try simp only [pn]) <;> omega) | fail) only [pn, pq]) <;> omega) | fail) only [pn, pq] at c13
      exact hq _ _ hJu12 hFu12 
def F_X9_sign (S u : bT9) : Prop := (b9g_now u) = (b9g_now S) ∧ (b9g_keys u) = (b9g_keys S) ∧ (b9g_lengths u) = (b9g_lengths S) ∧ (b9g_drawn u) = (b9g_drawn S) ∧ (b9g_drawnLength u) = (b9g_drawnLength S) ∧ (b9g_tape u) = (b9g_tape S) ∧ (b9g_taped u) = (b9g_taped S) ∧ (b9g_names u) = (b9g_names S) ∧ (b9g_chosen u) = (b9g_chosen S) ∧ (b9g_common u) = (b9g_common S) ∧ (b9g_beginning u) = (b9g_beginning S) ∧ (b9g_isLaid u) = (b9g_isLaid S) ∧ (b9g_nodeLevel u) = (b9g_nodeLevel S) ∧ (b9g_nodeLeaf u) = (b9g_nodeLeaf S) ∧ (b9g_nodeLeaves u) = (b9g_nodeLeaves S) ∧ (b9g_nodeMany u) = (b9g_nodeMany S) ∧ (b9g_levelMany u) = (b9g_levelMany S) ∧ (b9g_upper u) = (b9g_upper S) ∧ (b9g_upperNodes u) = (b9g_upperNodes S) ∧ (b9g_areNodesLaid u) = (b9g_areNodesLaid S) ∧ (b9g_itemNode u) = (b9g_itemNode S) ∧ (b9g_itemByte u) = (b9g_itemByte S) ∧ (b9g_itemChild u) = (b9g_itemChild S) ∧ (b9g_itemMany u) = (b9g_itemMany S) ∧ (b9g_placeOf u) = (b9g_placeOf S) ∧ (b9g_leafOfPlace u) = (b9g_leafOfPlace S) ∧ (b9g_places u) = (b9g_places S) ∧ (b9g_lowKey u) = (b9g_lowKey S) ∧ (b9g_highKey u) = (b9g_highKey S) ∧ (b9g_lowLength u) = (b9g_lowLength S) ∧ (b9g_highLength u) = (b9g_highLength S) ∧ (b9g_fromKey u) = (b9g_fromKey S) ∧ (b9g_toKey u) = (b9g_toKey S) ∧ (b9g_fromLength u) = (b9g_fromLength S) ∧ (b9g_toLength u) = (b9g_toLength S) ∧ (b9g_ones u) = (b9g_ones S) ∧ (b9g_oneMany u) = (b9g_oneMany S) ∧ (b9g_rowLong u) = (b9g_rowLong S) ∧ (b9g_laidFor u) = (b9g_laidFor S) ∧ (b9g_signs u) = (b9g_signs S) ∧ (b9g_signMany u) = (b9g_signMany S) ∧ (b9g_hasImage u) = (b9g_hasImage S) ∧ (b9g_images u) = (b9g_images S) ∧ (b9g_keyImages u) = (b9g_keyImages S) ∧ (b9g_lengthImages u) = (b9g_lengthImages S)
set_option maxRecDepth 20000 in
set_option maxHeartbeats 1000000 in
theorem sf_X9_sign {S : bT9} (hJ : J9 S) {a1 : Int32} {Q : Int32 → (bT9) → Prop} (hq : ∀ (r : Int32) (u : bT9), (J9 u) → F_X9_sign S u → Q r u) : wp_X9_sign S a1 Q := by
  unfold wp_X9_sign
  have hFS : F_X9_sign S S := ⟨rfl, rfl, rfl, rfl, rfl, rfl, rfl, rfl, rfl, rfl, rfl, rfl, rfl, rfl, rfl, rfl, rfl, rfl, rfl, rfl, rfl, rfl, rfl, rfl, rfl, rfl, rfl, rfl, rfl, rfl, rfl, rfl, rfl, rfl, rfl, rfl, rfl, rfl, rfl, rfl, rfl, rfl, rfl, rfl, rfl⟩
  have jf1 := J9g_signMany hJ
  have jf2 : (-4 ≤ ((b9g_now S) 1).toInt ∧ ((b9g_now S) 1).toInt ≤ 4) ∧ (-3 ≤ ((b9g_now S) 4).toInt ∧ ((b9g_now S) 4).toInt ≤ 252) ∧ (0 ≤ ((b9g_now S) 8).toInt ∧ ((b9g_now S) 8).toInt ≤ 64) ∧ (0 ≤ ((b9g_now S) 9).toInt ∧ ((b9g_now S) 9).toInt ≤ 64) ∧ (0 ≤ ((b9g_now S) 10).toInt ∧ ((b9g_now S) 10).toInt ≤ 16) ∧ (0 ≤ ((b9g_now S) 12).toInt ∧ ((b9g_now S) 12).toInt ≤ 8) := J9g_now hJ
  have ju2_S := hJ.2
  have rga1 := pt_rg a1
  intro S1 eS1
  have hJS1 : J9 S1 := by rw [eS1]; exact (J9s_told hJ)
  have hFS1 : F_X9_sign S S1 := by rw [eS1]; exact hFS
  have je3 : ((b9g_signMany S1)).toInt = ((b9g_signMany S)).toInt := congrArg (fun z => (z).toInt) hFS1.2.2.2.2.2.2.2.2.2.2.2.2.2.2.2.2.2.2.2.2.2.2.2.2.2.2.2.2.2.2.2.2.2.2.2.2.2.2.2.2.1
  have je4 : ((b9g_now S1) 1).toInt = ((b9g_now S) 1).toInt := congrArg (fun z => (z 1).toInt) hFS1.1
  have je5 : ((b9g_now S1) 4).toInt = ((b9g_now S) 4).toInt := congrArg (fun z => (z 4).toInt) hFS1.1
  have je6 : ((b9g_now S1) 8).toInt = ((b9g_now S) 8).toInt := congrArg (fun z => (z 8).toInt) hFS1.1
  have je7 : ((b9g_now S1) 9).toInt = ((b9g_now S) 9).toInt := congrArg (fun z => (z 9).toInt) hFS1.1
  have je8 : ((b9g_now S1) 10).toInt = ((b9g_now S) 10).toInt := congrArg (fun z => (z 10).toInt) hFS1.1
  have je9 : ((b9g_now S1) 12).toInt = ((b9g_now S) 12).toInt := congrArg (fun z => (z 12).toInt) hFS1.1
  have ju9_S1 := hJS1.2
  refine sf_X9_isIn hJS1.1 (fun r2 hzr2 hr2_0 => ?_)
  try simp (disch := first | ((try simp (disch := first | ((try simp only [pn]) <;> omega) | fail) only [pn, pq]) <;> omega) | fail) only [pn, pq] at hr2_0
  refine ⟨fun c4 => ?_, fun c4 => ?_⟩
  · try simp (disch := first | ((try simp (disch := first | ((try simp only [pn]) <;> omega) | fail) only [pn, pq]) <;> omega) | fail) only [pn, pq] at c4
    exact hq _ _ hJS1 hFS1 
  · try simp (disch := first | ((try simp (disch := first | ((try simp only [pn]) <;> omega) | fail) only [pn, pq]) <;> omega) | fail) only [pn, pq] at c4
    refine ⟨pt_in (by (try simp (disch := first | ((try simp (disch := first | ((try simp only [pn]) <;> omega) | fail) only [pn, pq]) <;> omega) | fail) only [pn, pq]) <;> (intros; (try simp (disch := first | ((try simp (disch := first | ((try simp only [pn]) <;> omega) | fail) only [pn, pq]) <;> omega) | fail) only [pn, pq]) <;> omega)) (by (try simp (disch := first | ((try simp (disch := first | ((try simp only [pn]) <;> omega) | fail) only [pn, pq]) <;> omega) | fail) only [pn, pq]) <;> (intros; (try simp (disch := first | ((try simp (disch := first | ((try simp only [pn]) <;> omega) | fail) only [pn, pq]) <;> omega) | fail) only [pn, pq]) <;> omega)), ?_⟩
    exact hq _ _ hJS1 hFS1 
def F_X9_image (S u : bT9) : Prop := (b9g_drawn u) = (b9g_drawn S) ∧ (b9g_drawnLength u) = (b9g_drawnLength S) ∧ (b9g_tape u) = (b9g_tape S) ∧ (b9g_taped u) = (b9g_taped S) ∧ (b9g_names u) = (b9g_names S) ∧ (b9g_chosen u) = (b9g_chosen S) ∧ (b9g_common u) = (b9g_common S) ∧ (b9g_beginning u) = (b9g_beginning S) ∧ (b9g_nodeLevel u) = (b9g_nodeLevel S) ∧ (b9g_nodeLeaf u) = (b9g_nodeLeaf S) ∧ (b9g_nodeLeaves u) = (b9g_nodeLeaves S) ∧ (b9g_nodeMany u) = (b9g_nodeMany S) ∧ (b9g_levelMany u) = (b9g_levelMany S) ∧ (b9g_upper u) = (b9g_upper S) ∧ (b9g_upperNodes u) = (b9g_upperNodes S) ∧ (b9g_itemNode u) = (b9g_itemNode S) ∧ (b9g_itemByte u) = (b9g_itemByte S) ∧ (b9g_itemChild u) = (b9g_itemChild S) ∧ (b9g_itemMany u) = (b9g_itemMany S) ∧ (b9g_placeOf u) = (b9g_placeOf S) ∧ (b9g_leafOfPlace u) = (b9g_leafOfPlace S) ∧ (b9g_places u) = (b9g_places S) ∧ (b9g_lowKey u) = (b9g_lowKey S) ∧ (b9g_highKey u) = (b9g_highKey S) ∧ (b9g_lowLength u) = (b9g_lowLength S) ∧ (b9g_highLength u) = (b9g_highLength S) ∧ (b9g_fromKey u) = (b9g_fromKey S) ∧ (b9g_toKey u) = (b9g_toKey S) ∧ (b9g_fromLength u) = (b9g_fromLength S) ∧ (b9g_toLength u) = (b9g_toLength S) ∧ (b9g_ones u) = (b9g_ones S) ∧ (b9g_oneMany u) = (b9g_oneMany S) ∧ (b9g_rowLong u) = (b9g_rowLong S) ∧ (b9g_laidFor u) = (b9g_laidFor S) ∧ (b9g_signs u) = (b9g_signs S) ∧ (b9g_signMany u) = (b9g_signMany S)
set_option maxRecDepth 20000 in
set_option maxHeartbeats 1000000 in
theorem sf_X9_image {S : bT9} (hJ : J9 S) {a1 : Int32} {Q : Int32 → (bT9) → Prop} (hq : ∀ (r : Int32) (u : bT9), (J9 u) → F_X9_image S u → bf_bool r → Q r u) : wp_X9_image S a1 Q := by
  unfold wp_X9_image
  have hFS : F_X9_image S S := ⟨rfl, rfl, rfl, rfl, rfl, rfl, rfl, rfl, rfl, rfl, rfl, rfl, rfl, rfl, rfl, rfl, rfl, rfl, rfl, rfl, rfl, rfl, rfl, rfl, rfl, rfl, rfl, rfl, rfl, rfl, rfl, rfl, rfl, rfl, rfl, rfl⟩
  have jf1 : (-4 ≤ ((b9g_now S) 1).toInt ∧ ((b9g_now S) 1).toInt ≤ 4) ∧ (-3 ≤ ((b9g_now S) 4).toInt ∧ ((b9g_now S) 4).toInt ≤ 252) ∧ (0 ≤ ((b9g_now S) 8).toInt ∧ ((b9g_now S) 8).toInt ≤ 64) ∧ (0 ≤ ((b9g_now S) 9).toInt ∧ ((b9g_now S) 9).toInt ≤ 64) ∧ (0 ≤ ((b9g_now S) 10).toInt ∧ ((b9g_now S) 10).toInt ≤ 16) ∧ (0 ≤ ((b9g_now S) 12).toInt ∧ ((b9g_now S) 12).toInt ≤ 8) := J9g_now hJ
  have ju1_S := hJ.2
  have rga1 := pt_rg a1
  intro S1 eS1
  have hJS1 : J9 S1 := by rw [eS1]; exact (J9s_told hJ)
  have hFS1 : F_X9_image S S1 := by rw [eS1]; exact hFS
  have je2 : ((b9g_hasImage S1)).toInt = ((b9g_hasImage S)).toInt := by rw [eS1]
  have je3 : ((b9g_now S1) 1).toInt = ((b9g_now S) 1).toInt := by rw [eS1]
  have je4 : ((b9g_now S1) 4).toInt = ((b9g_now S) 4).toInt := by rw [eS1]
  have je5 : ((b9g_now S1) 8).toInt = ((b9g_now S) 8).toInt := by rw [eS1]
  have je6 : ((b9g_now S1) 9).toInt = ((b9g_now S) 9).toInt := by rw [eS1]
  have je7 : ((b9g_now S1) 10).toInt = ((b9g_now S) 10).toInt := by rw [eS1]
  have je8 : ((b9g_now S1) 12).toInt = ((b9g_now S) 12).toInt := by rw [eS1]
  have jf9 : (-4 ≤ ((b9g_now S1) 1).toInt ∧ ((b9g_now S1) 1).toInt ≤ 4) ∧ (-3 ≤ ((b9g_now S1) 4).toInt ∧ ((b9g_now S1) 4).toInt ≤ 252) ∧ (0 ≤ ((b9g_now S1) 8).toInt ∧ ((b9g_now S1) 8).toInt ≤ 64) ∧ (0 ≤ ((b9g_now S1) 9).toInt ∧ ((b9g_now S1) 9).toInt ≤ 64) ∧ (0 ≤ ((b9g_now S1) 10).toInt ∧ ((b9g_now S1) 10).toInt ≤ 16) ∧ (0 ≤ ((b9g_now S1) 12).toInt ∧ ((b9g_now S1) 12).toInt ≤ 8) := J9g_now hJS1
  have ju9_S1 := hJS1.2
  refine ⟨fun c2 => ?_, fun c2 => ?_⟩
  · try simp (disch := first | ((try simp (disch := first | ((try simp only [pn]) <;> omega) | fail) only [pn, pq]) <;> omega) | fail) only [pn, pq] at c2
    unfold wp_X9_image_18
    intro S3 eS3
    have hJS3 : J9 S3 := by rw [eS3]; exact (J9s_hasImage hJS1)
    have hFS3 : F_X9_image S S3 := by rw [eS3]; exact hFS1
    have je10 : ((b9g_hasImage S3)).toInt = ((1 : Int32)).toInt := by rw [eS3]
    try simp (disch := first | ((try simp (disch := first | ((try simp only [pn]) <;> omega) | fail) only [pn, pq]) <;> omega) | fail) only [pn, pq] at je10
    have je11 : ((b9g_now S3) 1).toInt = ((b9g_now S1) 1).toInt := by rw [eS3]
    have je12 : ((b9g_now S3) 4).toInt = ((b9g_now S1) 4).toInt := by rw [eS3]
    have je13 : ((b9g_now S3) 8).toInt = ((b9g_now S1) 8).toInt := by rw [eS3]
    have je14 : ((b9g_now S3) 9).toInt = ((b9g_now S1) 9).toInt := by rw [eS3]
    have je15 : ((b9g_now S3) 10).toInt = ((b9g_now S1) 10).toInt := by rw [eS3]
    have je16 : ((b9g_now S3) 12).toInt = ((b9g_now S1) 12).toInt := by rw [eS3]
    have jf17 : (-4 ≤ ((b9g_now S3) 1).toInt ∧ ((b9g_now S3) 1).toInt ≤ 4) ∧ (-3 ≤ ((b9g_now S3) 4).toInt ∧ ((b9g_now S3) 4).toInt ≤ 252) ∧ (0 ≤ ((b9g_now S3) 8).toInt ∧ ((b9g_now S3) 8).toInt ≤ 64) ∧ (0 ≤ ((b9g_now S3) 9).toInt ∧ ((b9g_now S3) 9).toInt ≤ 64) ∧ (0 ≤ ((b9g_now S3) 10).toInt ∧ ((b9g_now S3) 10).toInt ≤ 16) ∧ (0 ≤ ((b9g_now S3) 12).toInt ∧ ((b9g_now S3) 12).toInt ≤ 8) := J9g_now hJS3
    have ju17_S3 := hJS3.2
    intro S4 eS4
    have hJS4 : J9 S4 := by rw [eS4]; exact (J9s_isLaid hJS3)
    have hFS4 : F_X9_image S S4 := by rw [eS4]; exact hFS3
    have je18 : ((b9g_hasImage S4)).toInt = ((b9g_hasImage S3)).toInt := by rw [eS4]
    have je19 : ((b9g_now S4) 1).toInt = ((b9g_now S3) 1).toInt := by rw [eS4]
    have je20 : ((b9g_now S4) 4).toInt = ((b9g_now S3) 4).toInt := by rw [eS4]
    have je21 : ((b9g_now S4) 8).toInt = ((b9g_now S3) 8).toInt := by rw [eS4]
    have je22 : ((b9g_now S4) 9).toInt = ((b9g_now S3) 9).toInt := by rw [eS4]
    have je23 : ((b9g_now S4) 10).toInt = ((b9g_now S3) 10).toInt := by rw [eS4]
    have je24 : ((b9g_now S4) 12).toInt = ((b9g_now S3) 12).toInt := by rw [eS4]
    have jf25 : (-4 ≤ ((b9g_now S4) 1).toInt ∧ ((b9g_now S4) 1).toInt ≤ 4) ∧ (-3 ≤ ((b9g_now S4) 4).toInt ∧ ((b9g_now S4) 4).toInt ≤ 252) ∧ (0 ≤ ((b9g_now S4) 8).toInt ∧ ((b9g_now S4) 8).toInt ≤ 64) ∧ (0 ≤ ((b9g_now S4) 9).toInt ∧ ((b9g_now S4) 9).toInt ≤ 64) ∧ (0 ≤ ((b9g_now S4) 10).toInt ∧ ((b9g_now S4) 10).toInt ≤ 16) ∧ (0 ≤ ((b9g_now S4) 12).toInt ∧ ((b9g_now S4) 12).toInt ≤ 8) := J9g_now hJS4
    have ju25_S4 := hJS4.2
    intro S5 eS5
    have hJS5 : J9 S5 := by rw [eS5]; exact (J9s_areNodesLaid hJS4)
    have hFS5 : F_X9_image S S5 := by rw [eS5]; exact hFS4
    have je26 : ((b9g_hasImage S5)).toInt = ((b9g_hasImage S4)).toInt := by rw [eS5]
    have je27 : ((b9g_now S5) 1).toInt = ((b9g_now S4) 1).toInt := by rw [eS5]
    have je28 : ((b9g_now S5) 4).toInt = ((b9g_now S4) 4).toInt := by rw [eS5]
    have je29 : ((b9g_now S5) 8).toInt = ((b9g_now S4) 8).toInt := by rw [eS5]
    have je30 : ((b9g_now S5) 9).toInt = ((b9g_now S4) 9).toInt := by rw [eS5]
    have je31 : ((b9g_now S5) 10).toInt = ((b9g_now S4) 10).toInt := by rw [eS5]
    have je32 : ((b9g_now S5) 12).toInt = ((b9g_now S4) 12).toInt := by rw [eS5]
    have jf33 : (-4 ≤ ((b9g_now S5) 1).toInt ∧ ((b9g_now S5) 1).toInt ≤ 4) ∧ (-3 ≤ ((b9g_now S5) 4).toInt ∧ ((b9g_now S5) 4).toInt ≤ 252) ∧ (0 ≤ ((b9g_now S5) 8).toInt ∧ ((b9g_now S5) 8).toInt ≤ 64) ∧ (0 ≤ ((b9g_now S5) 9).toInt ∧ ((b9g_now S5) 9).toInt ≤ 64) ∧ (0 ≤ ((b9g_now S5) 10).toInt ∧ ((b9g_now S5) 10).toInt ≤ 16) ∧ (0 ≤ ((b9g_now S5) 12).toInt ∧ ((b9g_now S5) 12).toInt ≤ 8) := J9g_now hJS5
    have ju33_S5 := hJS5.2
    refine ⟨fun n x1q6 x2q6 Sq6 => (J9 Sq6) ∧ (F_X9_image S Sq6) ∧ (x1q6 = a1) ∧ (0 ≤ (x2q6).toInt) ∧ n = (23 + 1 - (x2q6).toInt).toNat, ⟨_, hJS5, hFS5, rfl, (by (try simp (disch := first | ((try simp (disch := first | ((try simp only [pn]) <;> omega) | fail) only [pn, pq]) <;> omega) | fail) only [pn, pq]) <;> (intros; (try simp (disch := first | ((try simp (disch := first | ((try simp only [pn]) <;> omega) | fail) only [pn, pq]) <;> omega) | fail) only [pn, pq]) <;> omega)), rfl⟩, ?_⟩
    rintro n7 x1q6 x2q6 Sq6 ⟨hJSq6, hFSq6, hkq6_0, hiq6_0, hn7⟩
    subst hkq6_0
    have rgx1q6 := pt_rg x1q6
    have rgx2q6 := pt_rg x2q6
    unfold wp_X9_image_35b
    have jf34 : (-4 ≤ ((b9g_now Sq6) 1).toInt ∧ ((b9g_now Sq6) 1).toInt ≤ 4) ∧ (-3 ≤ ((b9g_now Sq6) 4).toInt ∧ ((b9g_now Sq6) 4).toInt ≤ 252) ∧ (0 ≤ ((b9g_now Sq6) 8).toInt ∧ ((b9g_now Sq6) 8).toInt ≤ 64) ∧ (0 ≤ ((b9g_now Sq6) 9).toInt ∧ ((b9g_now Sq6) 9).toInt ≤ 64) ∧ (0 ≤ ((b9g_now Sq6) 10).toInt ∧ ((b9g_now Sq6) 10).toInt ≤ 16) ∧ (0 ≤ ((b9g_now Sq6) 12).toInt ∧ ((b9g_now Sq6) 12).toInt ≤ 8) := J9g_now hJSq6
    have ju34_Sq6 := hJSq6.2
    refine ⟨fun c8 => ?_, fun c8 => ?_⟩
    · try simp (disch := first | ((try simp (disch := first | ((try simp only [pn]) <;> omega) | fail) only [pn, pq]) <;> omega) | fail) only [pn, pq] at c8
      refine ⟨fun n x1q9 x2q9 Sq9 => (J9 Sq9) ∧ (F_X9_image S Sq9) ∧ (x1q9 = x1q6) ∧ (0 ≤ (x2q9).toInt) ∧ n = (144 + 1 - (x2q9).toInt).toNat, ⟨_, hJSq6, hFSq6, rfl, (by (try simp (disch := first | ((try simp (disch := first | ((try simp only [pn]) <;> omega) | fail) only [pn, pq]) <;> omega) | fail) only [pn, pq]) <;> (intros; (try simp (disch := first | ((try simp (disch := first | ((try simp only [pn]) <;> omega) | fail) only [pn, pq]) <;> omega) | fail) only [pn, pq]) <;> omega)), rfl⟩, ?_⟩
      rintro n10 x1q9 x2q9 Sq9 ⟨hJSq9, hFSq9, hkq9_0, hiq9_0, hn10⟩
      subst hkq9_0
      have rgx1q9 := pt_rg x1q9
      have rgx2q9 := pt_rg x2q9
      unfold wp_X9_image_80b
      have jf35 : (-4 ≤ ((b9g_now Sq9) 1).toInt ∧ ((b9g_now Sq9) 1).toInt ≤ 4) ∧ (-3 ≤ ((b9g_now Sq9) 4).toInt ∧ ((b9g_now Sq9) 4).toInt ≤ 252) ∧ (0 ≤ ((b9g_now Sq9) 8).toInt ∧ ((b9g_now Sq9) 8).toInt ≤ 64) ∧ (0 ≤ ((b9g_now Sq9) 9).toInt ∧ ((b9g_now Sq9) 9).toInt ≤ 64) ∧ (0 ≤ ((b9g_now Sq9) 10).toInt ∧ ((b9g_now Sq9) 10).toInt ≤ 16) ∧ (0 ≤ ((b9g_now Sq9) 12).toInt ∧ ((b9g_now Sq9) 12).toInt ≤ 8) := J9g_now hJSq9
      have ju35_Sq9 := hJSq9.2
      refine ⟨fun c11 => ?_, fun c11 => ?_⟩
      · try simp (disch := first | ((try simp (disch := first | ((try simp only [pn]) <;> omega) | fail) only [pn, pq]) <;> omega) | fail) only [pn, pq] at c11
        exact ⟨by first | rfl | assumption, hq _ _ hJSq9 hFSq9 (by first | rfl | assumption) ⟩
      · try simp (disch := first | ((try simp (disch := first | ((try simp only [pn]) <;> omega) | fail) only [pn, pq]) <;> omega) | fail) only [pn, pq] at c11
        refine ⟨fun c12 => ?_, fun c12 => ?_⟩
        · try simp (disch := first | ((try simp (disch := first | ((try simp only [pn]) <;> omega) | fail) only [pn, pq]) <;> omega) | fail) only [pn, pq] at c12
          refine ⟨pt_in (by (try simp (disch := first | ((try simp (disch := first | ((try simp only [pn]) <;> omega) | fail) only [pn, pq]) <;> omega) | fail) only [pn, pq]) <;> (intros; (try simp (disch := first | ((try simp (disch := first | ((try simp only [pn]) <;> omega) | fail) only [pn, pq]) <;> omega) | fail) only [pn, pq]) <;> omega)) (by (try simp (disch := first | ((try simp (disch := first | ((try simp only [pn]) <;> omega) | fail) only [pn, pq]) <;> omega) | fail) only [pn, pq]) <;> (intros; (try simp (disch := first | ((try simp (disch := first | ((try simp only [pn]) <;> omega) | fail) only [pn, pq]) <;> omega) | fail) only [pn, pq]) <;> omega)), ?_⟩
          refine ⟨pt_in (by (try simp (disch := first | ((try simp (disch := first | ((try simp only [pn]) <;> omega) | fail) only [pn, pq]) <;> omega) | fail) only [pn, pq]) <;> (intros; (try simp (disch := first | ((try simp (disch := first | ((try simp only [pn]) <;> omega) | fail) only [pn, pq]) <;> omega) | fail) only [pn, pq]) <;> omega)) (by (try simp (disch := first | ((try simp (disch := first | ((try simp only [pn]) <;> omega) | fail) only [pn, pq]) <;> omega) | fail) only [pn, pq]) <;> (intros; (try simp (disch := first | ((try simp (disch := first | ((try simp only [pn]) <;> omega) | fail) only [pn, pq]) <;> omega) | fail) only [pn, pq]) <;> omega)), ?_⟩
          intro S13 eS13
          have hJS13 : J9 S13 := by rw [eS13]; exact (J9s_keys hJSq9)
          have hFS13 : F_X9_image S S13 := by rw [eS13]; exact hFSq9
          have je36 : ((b9g_hasImage S13)).toInt = ((b9g_hasImage Sq9)).toInt := by rw [eS13]
          have je37 : ((b9g_now S13) 1).toInt = ((b9g_now Sq9) 1).toInt := by rw [eS13]
          have je38 : ((b9g_now S13) 4).toInt = ((b9g_now Sq9) 4).toInt := by rw [eS13]
          have je39 : ((b9g_now S13) 8).toInt = ((b9g_now Sq9) 8).toInt := by rw [eS13]
          have je40 : ((b9g_now S13) 9).toInt = ((b9g_now Sq9) 9).toInt := by rw [eS13]
          have je41 : ((b9g_now S13) 10).toInt = ((b9g_now Sq9) 10).toInt := by rw [eS13]
          have je42 : ((b9g_now S13) 12).toInt = ((b9g_now Sq9) 12).toInt := by rw [eS13]
          have jf43 : (-4 ≤ ((b9g_now S13) 1).toInt ∧ ((b9g_now S13) 1).toInt ≤ 4) ∧ (-3 ≤ ((b9g_now S13) 4).toInt ∧ ((b9g_now S13) 4).toInt ≤ 252) ∧ (0 ≤ ((b9g_now S13) 8).toInt ∧ ((b9g_now S13) 8).toInt ≤ 64) ∧ (0 ≤ ((b9g_now S13) 9).toInt ∧ ((b9g_now S13) 9).toInt ≤ 64) ∧ (0 ≤ ((b9g_now S13) 10).toInt ∧ ((b9g_now S13) 10).toInt ≤ 16) ∧ (0 ≤ ((b9g_now S13) 12).toInt ∧ ((b9g_now S13) 12).toInt ≤ 8) := J9g_now hJS13
          have ju43_S13 := hJS13.2
          unfold wp_X9_image_118
          refine ⟨fun c14 => ?_, fun c14 => ?_⟩
          · try simp (disch := first | ((try simp (disch := first | ((try simp only [pn]) <;> omega) | fail) only [pn, pq]) <;> omega) | fail) only [pn, pq] at c14
            refine ⟨pt_in (by (try simp (disch := first | ((try simp (disch := first | ((try simp only [pn]) <;> omega) | fail) only [pn, pq]) <;> omega) | fail) only [pn, pq]) <;> (intros; (try simp (disch := first | ((try simp (disch := first | ((try simp only [pn]) <;> omega) | fail) only [pn, pq]) <;> omega) | fail) only [pn, pq]) <;> omega)) (by (try simp (disch := first | ((try simp (disch := first | ((try simp only [pn]) <;> omega) | fail) only [pn, pq]) <;> omega) | fail) only [pn, pq]) <;> (intros; (try simp (disch := first | ((try simp (disch := first | ((try simp only [pn]) <;> omega) | fail) only [pn, pq]) <;> omega) | fail) only [pn, pq]) <;> omega)), ?_⟩
            have jr44 := J9g_lengthImages hJS13 (x2q9).toNatClampNeg
            try simp (disch := first | ((try simp (disch := first | ((try simp only [pn]) <;> omega) | fail) only [pn, pq]) <;> omega) | fail) only [pn, pq] at jr44
            refine ⟨pt_in (by (try simp (disch := first | ((try simp (disch := first | ((try simp only [pn]) <;> omega) | fail) only [pn, pq]) <;> omega) | fail) only [pn, pq]) <;> (intros; (try simp (disch := first | ((try simp (disch := first | ((try simp only [pn]) <;> omega) | fail) only [pn, pq]) <;> omega) | fail) only [pn, pq]) <;> omega)) (by (try simp (disch := first | ((try simp (disch := first | ((try simp only [pn]) <;> omega) | fail) only [pn, pq]) <;> omega) | fail) only [pn, pq]) <;> (intros; (try simp (disch := first | ((try simp (disch := first | ((try simp only [pn]) <;> omega) | fail) only [pn, pq]) <;> omega) | fail) only [pn, pq]) <;> omega)), ?_⟩
            intro S15 eS15
            have hJS15 : J9 S15 := by rw [eS15]; exact (J9s_lengths hJS13 (pt_updr (J9g_lengths hJS13) ⟨(by (try simp (disch := first | ((try simp (disch := first | ((try simp only [pn]) <;> omega) | fail) only [pn, pq]) <;> omega) | fail) only [pn, pq]) <;> (intros; (try simp (disch := first | ((try simp (disch := first | ((try simp only [pn]) <;> omega) | fail) only [pn, pq]) <;> omega) | fail) only [pn, pq]) <;> omega)), (by (try simp (disch := first | ((try simp (disch := first | ((try simp only [pn]) <;> omega) | fail) only [pn, pq]) <;> omega) | fail) only [pn, pq]) <;> (intros; (try simp (disch := first | ((try simp (disch := first | ((try simp only [pn]) <;> omega) | fail) only [pn, pq]) <;> omega) | fail) only [pn, pq]) <;> omega))⟩))
            have hFS15 : F_X9_image S S15 := by rw [eS15]; exact hFS13
            have je45 : ((b9g_hasImage S15)).toInt = ((b9g_hasImage S13)).toInt := by rw [eS15]
            have je46 : ((b9g_now S15) 1).toInt = ((b9g_now S13) 1).toInt := by rw [eS15]
            have je47 : ((b9g_now S15) 4).toInt = ((b9g_now S13) 4).toInt := by rw [eS15]
            have je48 : ((b9g_now S15) 8).toInt = ((b9g_now S13) 8).toInt := by rw [eS15]
            have je49 : ((b9g_now S15) 9).toInt = ((b9g_now S13) 9).toInt := by rw [eS15]
            have je50 : ((b9g_now S15) 10).toInt = ((b9g_now S13) 10).toInt := by rw [eS15]
            have je51 : ((b9g_now S15) 12).toInt = ((b9g_now S13) 12).toInt := by rw [eS15]
            have jf52 : (-4 ≤ ((b9g_now S15) 1).toInt ∧ ((b9g_now S15) 1).toInt ≤ 4) ∧ (-3 ≤ ((b9g_now S15) 4).toInt ∧ ((b9g_now S15) 4).toInt ≤ 252) ∧ (0 ≤ ((b9g_now S15) 8).toInt ∧ ((b9g_now S15) 8).toInt ≤ 64) ∧ (0 ≤ ((b9g_now S15) 9).toInt ∧ ((b9g_now S15) 9).toInt ≤ 64) ∧ (0 ≤ ((b9g_now S15) 10).toInt ∧ ((b9g_now S15) 10).toInt ≤ 16) ∧ (0 ≤ ((b9g_now S15) 12).toInt ∧ ((b9g_now S15) 12).toInt ≤ 8) := J9g_now hJS15
            have ju52_S15 := hJS15.2
            have ja53 : ((b9g_lengths S15) (x2q9).toNatClampNeg).toInt = (((b9g_lengthImages S13) (x2q9).toNatClampNeg)).toInt := by rw [eS15]; exact pt_upds
            try simp (disch := first | ((try simp (disch := first | ((try simp only [pn]) <;> omega) | fail) only [pn, pq]) <;> omega) | fail) only [pn, pq] at ja53
            unfold wp_X9_image_149
            refine ⟨_, ?_, ?_, ?_, ?_, ?_, rfl⟩
            · (try simp (disch := first | ((try simp (disch := first | ((try simp only [pn]) <;> omega) | fail) only [pn, pq]) <;> omega) | fail) only [pn, pq]) <;> (intros; (try simp (disch := first | ((try simp (disch := first | ((try simp only [pn]) <;> omega) | fail) only [pn, pq]) <;> omega) | fail) only [pn, pq]) <;> omega)
            · exact hJS15
            · exact hFS15
            · first | rfl | assumption
            · (try simp (disch := first | ((try simp (disch := first | ((try simp only [pn]) <;> omega) | fail) only [pn, pq]) <;> omega) | fail) only [pn, pq]) <;> (intros; (try simp (disch := first | ((try simp (disch := first | ((try simp only [pn]) <;> omega) | fail) only [pn, pq]) <;> omega) | fail) only [pn, pq]) <;> omega)
          · try simp (disch := first | ((try simp (disch := first | ((try simp only [pn]) <;> omega) | fail) only [pn, pq]) <;> omega) | fail) only [pn, pq] at c14
            refine ⟨pt_in (by (try simp (disch := first | ((try simp (disch := first | ((try simp only [pn]) <;> omega) | fail) only [pn, pq]) <;> omega) | fail) only [pn, pq]) <;> (intros; (try simp (disch := first | ((try simp (disch := first | ((try simp only [pn]) <;> omega) | fail) only [pn, pq]) <;> omega) | fail) only [pn, pq]) <;> omega)) (by (try simp (disch := first | ((try simp (disch := first | ((try simp only [pn]) <;> omega) | fail) only [pn, pq]) <;> omega) | fail) only [pn, pq]) <;> (intros; (try simp (disch := first | ((try simp (disch := first | ((try simp only [pn]) <;> omega) | fail) only [pn, pq]) <;> omega) | fail) only [pn, pq]) <;> omega)), ?_⟩
            have jr54 := J9g_lengths hJS13 (x2q9).toNatClampNeg
            try simp (disch := first | ((try simp (disch := first | ((try simp only [pn]) <;> omega) | fail) only [pn, pq]) <;> omega) | fail) only [pn, pq] at jr54
            refine ⟨pt_in (by (try simp (disch := first | ((try simp (disch := first | ((try simp only [pn]) <;> omega) | fail) only [pn, pq]) <;> omega) | fail) only [pn, pq]) <;> (intros; (try simp (disch := first | ((try simp (disch := first | ((try simp only [pn]) <;> omega) | fail) only [pn, pq]) <;> omega) | fail) only [pn, pq]) <;> omega)) (by (try simp (disch := first | ((try simp (disch := first | ((try simp only [pn]) <;> omega) | fail) only [pn, pq]) <;> omega) | fail) only [pn, pq]) <;> (intros; (try simp (disch := first | ((try simp (disch := first | ((try simp only [pn]) <;> omega) | fail) only [pn, pq]) <;> omega) | fail) only [pn, pq]) <;> omega)), ?_⟩
            intro S16 eS16
            have hJS16 : J9 S16 := by rw [eS16]; exact (J9s_lengthImages hJS13 (pt_updr (J9g_lengthImages hJS13) ⟨(by (try simp (disch := first | ((try simp (disch := first | ((try simp only [pn]) <;> omega) | fail) only [pn, pq]) <;> omega) | fail) only [pn, pq]) <;> (intros; (try simp (disch := first | ((try simp (disch := first | ((try simp only [pn]) <;> omega) | fail) only [pn, pq]) <;> omega) | fail) only [pn, pq]) <;> omega)), (by (try simp (disch := first | ((try simp (disch := first | ((try simp only [pn]) <;> omega) | fail) only [pn, pq]) <;> omega) | fail) only [pn, pq]) <;> (intros; (try simp (disch := first | ((try simp (disch := first | ((try simp only [pn]) <;> omega) | fail) only [pn, pq]) <;> omega) | fail) only [pn, pq]) <;> omega))⟩))
            have hFS16 : F_X9_image S S16 := by rw [eS16]; exact hFS13
            have je55 : ((b9g_hasImage S16)).toInt = ((b9g_hasImage S13)).toInt := by rw [eS16]
            have je56 : ((b9g_now S16) 1).toInt = ((b9g_now S13) 1).toInt := by rw [eS16]
            have je57 : ((b9g_now S16) 4).toInt = ((b9g_now S13) 4).toInt := by rw [eS16]
            have je58 : ((b9g_now S16) 8).toInt = ((b9g_now S13) 8).toInt := by rw [eS16]
            have je59 : ((b9g_now S16) 9).toInt = ((b9g_now S13) 9).toInt := by rw [eS16]
            have je60 : ((b9g_now S16) 10).toInt = ((b9g_now S13) 10).toInt := by rw [eS16]
            have je61 : ((b9g_now S16) 12).toInt = ((b9g_now S13) 12).toInt := by rw [eS16]
            have jf62 : (-4 ≤ ((b9g_now S16) 1).toInt ∧ ((b9g_now S16) 1).toInt ≤ 4) ∧ (-3 ≤ ((b9g_now S16) 4).toInt ∧ ((b9g_now S16) 4).toInt ≤ 252) ∧ (0 ≤ ((b9g_now S16) 8).toInt ∧ ((b9g_now S16) 8).toInt ≤ 64) ∧ (0 ≤ ((b9g_now S16) 9).toInt ∧ ((b9g_now S16) 9).toInt ≤ 64) ∧ (0 ≤ ((b9g_now S16) 10).toInt ∧ ((b9g_now S16) 10).toInt ≤ 16) ∧ (0 ≤ ((b9g_now S16) 12).toInt ∧ ((b9g_now S16) 12).toInt ≤ 8) := J9g_now hJS16
            have ju62_S16 := hJS16.2
            have ja63 : ((b9g_lengthImages S16) (x2q9).toNatClampNeg).toInt = (((b9g_lengths S13) (x2q9).toNatClampNeg)).toInt := by rw [eS16]; exact pt_upds
            try simp (disch := first | ((try simp (disch := first | ((try simp only [pn]) <;> omega) | fail) only [pn, pq]) <;> omega) | fail) only [pn, pq] at ja63
            unfold wp_X9_image_149
            refine ⟨_, ?_, ?_, ?_, ?_, ?_, rfl⟩
            · (try simp (disch := first | ((try simp (disch := first | ((try simp only [pn]) <;> omega) | fail) only [pn, pq]) <;> omega) | fail) only [pn, pq]) <;> (intros; (try simp (disch := first | ((try simp (disch := first | ((try simp only [pn]) <;> omega) | fail) only [pn, pq]) <;> omega) | fail) only [pn, pq]) <;> omega)
            · exact hJS16
            · exact hFS16
            · first | rfl | assumption
            · (try simp (disch := first | ((try simp (disch := first | ((try simp only [pn]) <;> omega) | fail) only [pn, pq]) <;> omega) | fail) only [pn, pq]) <;> (intros; (try simp (disch := first | ((try simp (disch := first | ((try simp only [pn]) <;> omega) | fail) only [pn, pq]) <;> omega) | fail) only [pn, pq]) <;> omega)
        · try simp (disch := first | ((try simp (disch := first | ((try simp only [pn]) <;> omega) | fail) only [pn, pq]) <;> omega) | fail) only [pn, pq] at c12
          refine ⟨pt_in (by (try simp (disch := first | ((try simp (disch := first | ((try simp only [pn]) <;> omega) | fail) only [pn, pq]) <;> omega) | fail) only [pn, pq]) <;> (intros; (try simp (disch := first | ((try simp (disch := first | ((try simp only [pn]) <;> omega) | fail) only [pn, pq]) <;> omega) | fail) only [pn, pq]) <;> omega)) (by (try simp (disch := first | ((try simp (disch := first | ((try simp only [pn]) <;> omega) | fail) only [pn, pq]) <;> omega) | fail) only [pn, pq]) <;> (intros; (try simp (disch := first | ((try simp (disch := first | ((try simp only [pn]) <;> omega) | fail) only [pn, pq]) <;> omega) | fail) only [pn, pq]) <;> omega)), ?_⟩
          refine ⟨pt_in (by (try simp (disch := first | ((try simp (disch := first | ((try simp only [pn]) <;> omega) | fail) only [pn, pq]) <;> omega) | fail) only [pn, pq]) <;> (intros; (try simp (disch := first | ((try simp (disch := first | ((try simp only [pn]) <;> omega) | fail) only [pn, pq]) <;> omega) | fail) only [pn, pq]) <;> omega)) (by (try simp (disch := first | ((try simp (disch := first | ((try simp only [pn]) <;> omega) | fail) only [pn, pq]) <;> omega) | fail) only [pn, pq]) <;> (intros; (try simp (disch := first | ((try simp (disch := first | ((try simp only [pn]) <;> omega) | fail) only [pn, pq]) <;> omega) | fail) only [pn, pq]) <;> omega)), ?_⟩
          intro S17 eS17
          have hJS17 : J9 S17 := by rw [eS17]; exact (J9s_keyImages hJSq9)
          have hFS17 : F_X9_image S S17 := by rw [eS17]; exact hFSq9
          have je64 : ((b9g_hasImage S17)).toInt = ((b9g_hasImage Sq9)).toInt := by rw [eS17]
          have je65 : ((b9g_now S17) 1).toInt = ((b9g_now Sq9) 1).toInt := by rw [eS17]
          have je66 : ((b9g_now S17) 4).toInt = ((b9g_now Sq9) 4).toInt := by rw [eS17]
          have je67 : ((b9g_now S17) 8).toInt = ((b9g_now Sq9) 8).toInt := by rw [eS17]
          have je68 : ((b9g_now S17) 9).toInt = ((b9g_now Sq9) 9).toInt := by rw [eS17]
          have je69 : ((b9g_now S17) 10).toInt = ((b9g_now Sq9) 10).toInt := by rw [eS17]
          have je70 : ((b9g_now S17) 12).toInt = ((b9g_now Sq9) 12).toInt := by rw [eS17]
          have jf71 : (-4 ≤ ((b9g_now S17) 1).toInt ∧ ((b9g_now S17) 1).toInt ≤ 4) ∧ (-3 ≤ ((b9g_now S17) 4).toInt ∧ ((b9g_now S17) 4).toInt ≤ 252) ∧ (0 ≤ ((b9g_now S17) 8).toInt ∧ ((b9g_now S17) 8).toInt ≤ 64) ∧ (0 ≤ ((b9g_now S17) 9).toInt ∧ ((b9g_now S17) 9).toInt ≤ 64) ∧ (0 ≤ ((b9g_now S17) 10).toInt ∧ ((b9g_now S17) 10).toInt ≤ 16) ∧ (0 ≤ ((b9g_now S17) 12).toInt ∧ ((b9g_now S17) 12).toInt ≤ 8) := J9g_now hJS17
          have ju71_S17 := hJS17.2
          unfold wp_X9_image_118
          refine ⟨fun c18 => ?_, fun c18 => ?_⟩
          · try simp (disch := first | ((try simp (disch := first | ((try simp only [pn]) <;> omega) | fail) only [pn, pq]) <;> omega) | fail) only [pn, pq] at c18
            refine ⟨pt_in (by (try simp (disch := first | ((try simp (disch := first | ((try simp only [pn]) <;> omega) | fail) only [pn, pq]) <;> omega) | fail) only [pn, pq]) <;> (intros; (try simp (disch := first | ((try simp (disch := first | ((try simp only [pn]) <;> omega) | fail) only [pn, pq]) <;> omega) | fail) only [pn, pq]) <;> omega)) (by (try simp (disch := first | ((try simp (disch := first | ((try simp only [pn]) <;> omega) | fail) only [pn, pq]) <;> omega) | fail) only [pn, pq]) <;> (intros; (try simp (disch := first | ((try simp (disch := first | ((try simp only [pn]) <;> omega) | fail) only [pn, pq]) <;> omega) | fail) only [pn, pq]) <;> omega)), ?_⟩
            have jr72 := J9g_lengthImages hJS17 (x2q9).toNatClampNeg
            try simp (disch := first | ((try simp (disch := first | ((try simp only [pn]) <;> omega) | fail) only [pn, pq]) <;> omega) | fail) only [pn, pq] at jr72
            refine ⟨pt_in (by (try simp (disch := first | ((try simp (disch := first | ((try simp only [pn]) <;> omega) | fail) only [pn, pq]) <;> omega) | fail) only [pn, pq]) <;> (intros; (try simp (disch := first | ((try simp (disch := first | ((try simp only [pn]) <;> omega) | fail) only [pn, pq]) <;> omega) | fail) only [pn, pq]) <;> omega)) (by (try simp (disch := first | ((try simp (disch := first | ((try simp only [pn]) <;> omega) | fail) only [pn, pq]) <;> omega) | fail) only [pn, pq]) <;> (intros; (try simp (disch := first | ((try simp (disch := first | ((try simp only [pn]) <;> omega) | fail) only [pn, pq]) <;> omega) | fail) only [pn, pq]) <;> omega)), ?_⟩
            intro S19 eS19
            have hJS19 : J9 S19 := by rw [eS19]; exact (J9s_lengths hJS17 (pt_updr (J9g_lengths hJS17) ⟨(by (try simp (disch := first | ((try simp (disch := first | ((try simp only [pn]) <;> omega) | fail) only [pn, pq]) <;> omega) | fail) only [pn, pq]) <;> (intros; (try simp (disch := first | ((try simp (disch := first | ((try simp only [pn]) <;> omega) | fail) only [pn, pq]) <;> omega) | fail) only [pn, pq]) <;> omega)), (by (try simp (disch := first | ((try simp (disch := first | ((try simp only [pn]) <;> omega) | fail) only [pn, pq]) <;> omega) | fail) only [pn, pq]) <;> (intros; (try simp (disch := first | ((try simp (disch := first | ((try simp only [pn]) <;> omega) | fail) only [pn, pq]) <;> omega) | fail) only [pn, pq]) <;> omega))⟩))
            have hFS19 : F_X9_image S S19 := by rw [eS19]; exact hFS17
            have je73 : ((b9g_hasImage S19)).toInt = ((b9g_hasImage S17)).toInt := by rw [eS19]
            have je74 : ((b9g_now S19) 1).toInt = ((b9g_now S17) 1).toInt := by rw [eS19]
            have je75 : ((b9g_now S19) 4).toInt = ((b9g_now S17) 4).toInt := by rw [eS19]
            have je76 : ((b9g_now S19) 8).toInt = ((b9g_now S17) 8).toInt := by rw [eS19]
            have je77 : ((b9g_now S19) 9).toInt = ((b9g_now S17) 9).toInt := by rw [eS19]
            have je78 : ((b9g_now S19) 10).toInt = ((b9g_now S17) 10).toInt := by rw [eS19]
            have je79 : ((b9g_now S19) 12).toInt = ((b9g_now S17) 12).toInt := by rw [eS19]
            have jf80 : (-4 ≤ ((b9g_now S19) 1).toInt ∧ ((b9g_now S19) 1).toInt ≤ 4) ∧ (-3 ≤ ((b9g_now S19) 4).toInt ∧ ((b9g_now S19) 4).toInt ≤ 252) ∧ (0 ≤ ((b9g_now S19) 8).toInt ∧ ((b9g_now S19) 8).toInt ≤ 64) ∧ (0 ≤ ((b9g_now S19) 9).toInt ∧ ((b9g_now S19) 9).toInt ≤ 64) ∧ (0 ≤ ((b9g_now S19) 10).toInt ∧ ((b9g_now S19) 10).toInt ≤ 16) ∧ (0 ≤ ((b9g_now S19) 12).toInt ∧ ((b9g_now S19) 12).toInt ≤ 8) := J9g_now hJS19
            have ju80_S19 := hJS19.2
            have ja81 : ((b9g_lengths S19) (x2q9).toNatClampNeg).toInt = (((b9g_lengthImages S17) (x2q9).toNatClampNeg)).toInt := by rw [eS19]; exact pt_upds
            try simp (disch := first | ((try simp (disch := first | ((try simp only [pn]) <;> omega) | fail) only [pn, pq]) <;> omega) | fail) only [pn, pq] at ja81
            unfold wp_X9_image_149
            refine ⟨_, ?_, ?_, ?_, ?_, ?_, rfl⟩
            · (try simp (disch := first | ((try simp (disch := first | ((try simp only [pn]) <;> omega) | fail) only [pn, pq]) <;> omega) | fail) only [pn, pq]) <;> (intros; (try simp (disch := first | ((try simp (disch := first | ((try simp only [pn]) <;> omega) | fail) only [pn, pq]) <;> omega) | fail) only [pn, pq]) <;> omega)
            · exact hJS19
            · exact hFS19
            · first | rfl | assumption
            · (try simp (disch := first | ((try simp (disch := first | ((try simp only [pn]) <;> omega) | fail) only [pn, pq]) <;> omega) | fail) only [pn, pq]) <;> (intros; (try simp (disch := first | ((try simp (disch := first | ((try simp only [pn]) <;> omega) | fail) only [pn, pq]) <;> omega) | fail) only [pn, pq]) <;> omega)
          · try simp (disch := first | ((try simp (disch := first | ((try simp only [pn]) <;> omega) | fail) only [pn, pq]) <;> omega) | fail) only [pn, pq] at c18
            refine ⟨pt_in (by (try simp (disch := first | ((try simp (disch := first | ((try simp only [pn]) <;> omega) | fail) only [pn, pq]) <;> omega) | fail) only [pn, pq]) <;> (intros; (try simp (disch := first | ((try simp (disch := first | ((try simp only [pn]) <;> omega) | fail) only [pn, pq]) <;> omega) | fail) only [pn, pq]) <;> omega)) (by (try simp (disch := first | ((try simp (disch := first | ((try simp only [pn]) <;> omega) | fail) only [pn, pq]) <;> omega) | fail) only [pn, pq]) <;> (intros; (try simp (disch := first | ((try simp (disch := first | ((try simp only [pn]) <;> omega) | fail) only [pn, pq]) <;> omega) | fail) only [pn, pq]) <;> omega)), ?_⟩
            have jr82 := J9g_lengths hJS17 (x2q9).toNatClampNeg
            try simp (disch := first | ((try simp (disch := first | ((try simp only [pn]) <;> omega) | fail) only [pn, pq]) <;> omega) | fail) only [pn, pq] at jr82
            refine ⟨pt_in (by (try simp (disch := first | ((try simp (disch := first | ((try simp only [pn]) <;> omega) | fail) only [pn, pq]) <;> omega) | fail) only [pn, pq]) <;> (intros; (try simp (disch := first | ((try simp (disch := first | ((try simp only [pn]) <;> omega) | fail) only [pn, pq]) <;> omega) | fail) only [pn, pq]) <;> omega)) (by (try simp (disch := first | ((try simp (disch := first | ((try simp only [pn]) <;> omega) | fail) only [pn, pq]) <;> omega) | fail) only [pn, pq]) <;> (intros; (try simp (disch := first | ((try simp (disch := first | ((try simp only [pn]) <;> omega) | fail) only [pn, pq]) <;> omega) | fail) only [pn, pq]) <;> omega)), ?_⟩
            intro S20 eS20
            have hJS20 : J9 S20 := by rw [eS20]; exact (J9s_lengthImages hJS17 (pt_updr (J9g_lengthImages hJS17) ⟨(by (try simp (disch := first | ((try simp (disch := first | ((try simp only [pn]) <;> omega) | fail) only [pn, pq]) <;> omega) | fail) only [pn, pq]) <;> (intros; (try simp (disch := first | ((try simp (disch := first | ((try simp only [pn]) <;> omega) | fail) only [pn, pq]) <;> omega) | fail) only [pn, pq]) <;> omega)), (by (try simp (disch := first | ((try simp (disch := first | ((try simp only [pn]) <;> omega) | fail) only [pn, pq]) <;> omega) | fail) only [pn, pq]) <;> (intros; (try simp (disch := first | ((try simp (disch := first | ((try simp only [pn]) <;> omega) | fail) only [pn, pq]) <;> omega) | fail) only [pn, pq]) <;> omega))⟩))
            have hFS20 : F_X9_image S S20 := by rw [eS20]; exact hFS17
            have je83 : ((b9g_hasImage S20)).toInt = ((b9g_hasImage S17)).toInt := by rw [eS20]
            have je84 : ((b9g_now S20) 1).toInt = ((b9g_now S17) 1).toInt := by rw [eS20]
            have je85 : ((b9g_now S20) 4).toInt = ((b9g_now S17) 4).toInt := by rw [eS20]
            have je86 : ((b9g_now S20) 8).toInt = ((b9g_now S17) 8).toInt := by rw [eS20]
            have je87 : ((b9g_now S20) 9).toInt = ((b9g_now S17) 9).toInt := by rw [eS20]
            have je88 : ((b9g_now S20) 10).toInt = ((b9g_now S17) 10).toInt := by rw [eS20]
            have je89 : ((b9g_now S20) 12).toInt = ((b9g_now S17) 12).toInt := by rw [eS20]
            have jf90 : (-4 ≤ ((b9g_now S20) 1).toInt ∧ ((b9g_now S20) 1).toInt ≤ 4) ∧ (-3 ≤ ((b9g_now S20) 4).toInt ∧ ((b9g_now S20) 4).toInt ≤ 252) ∧ (0 ≤ ((b9g_now S20) 8).toInt ∧ ((b9g_now S20) 8).toInt ≤ 64) ∧ (0 ≤ ((b9g_now S20) 9).toInt ∧ ((b9g_now S20) 9).toInt ≤ 64) ∧ (0 ≤ ((b9g_now S20) 10).toInt ∧ ((b9g_now S20) 10).toInt ≤ 16) ∧ (0 ≤ ((b9g_now S20) 12).toInt ∧ ((b9g_now S20) 12).toInt ≤ 8) := J9g_now hJS20
            have ju90_S20 := hJS20.2
            have ja91 : ((b9g_lengthImages S20) (x2q9).toNatClampNeg).toInt = (((b9g_lengths S17) (x2q9).toNatClampNeg)).toInt := by rw [eS20]; exact pt_upds
            try simp (disch := first | ((try simp (disch := first | ((try simp only [pn]) <;> omega) | fail) only [pn, pq]) <;> omega) | fail) only [pn, pq] at ja91
            unfold wp_X9_image_149
            refine ⟨_, ?_, ?_, ?_, ?_, ?_, rfl⟩
            · (try simp (disch := first | ((try simp (disch := first | ((try simp only [pn]) <;> omega) | fail) only [pn, pq]) <;> omega) | fail) only [pn, pq]) <;> (intros; (try simp (disch := first | ((try simp (disch := first | ((try simp only [pn]) <;> omega) | fail) only [pn, pq]) <;> omega) | fail) only [pn, pq]) <;> omega)
            · exact hJS20
            · exact hFS20
            · first | rfl | assumption
            · (try simp (disch := first | ((try simp (disch := first | ((try simp only [pn]) <;> omega) | fail) only [pn, pq]) <;> omega) | fail) only [pn, pq]) <;> (intros; (try simp (disch := first | ((try simp (disch := first | ((try simp only [pn]) <;> omega) | fail) only [pn, pq]) <;> omega) | fail) only [pn, pq]) <;> omega)
    · try simp (disch := first | ((try simp (disch := first | ((try simp only [pn]) <;> omega) | fail) only [pn, pq]) <;> omega) | fail) only [pn, pq] at c8
      refine ⟨fun c21 => ?_, fun c21 => ?_⟩
      · try simp (disch := first | ((try simp (disch := first | ((try simp only [pn]) <;> omega) | fail) only [pn, pq]) <;> omega) | fail) only [pn, pq] at c21
        refine ⟨pt_in (by (try simp (disch := first | ((try simp (disch := first | ((try simp only [pn]) <;> omega) | fail) only [pn, pq]) <;> omega) | fail) only [pn, pq]) <;> (intros; (try simp (disch := first | ((try simp (disch := first | ((try simp only [pn]) <;> omega) | fail) only [pn, pq]) <;> omega) | fail) only [pn, pq]) <;> omega)) (by (try simp (disch := first | ((try simp (disch := first | ((try simp only [pn]) <;> omega) | fail) only [pn, pq]) <;> omega) | fail) only [pn, pq]) <;> (intros; (try simp (disch := first | ((try simp (disch := first | ((try simp only [pn]) <;> omega) | fail) only [pn, pq]) <;> omega) | fail) only [pn, pq]) <;> omega)), ?_⟩
        have jr92 := NW_at (J9g_images hJSq6) (x2q6)
        try simp (disch := first | ((try simp (disch := first | ((try simp only [pn]) <;> omega) | fail) only [pn, pq]) <;> omega) | fail) only [pn, pq] at jr92
        refine ⟨pt_in (by (try simp (disch := first | ((try simp (disch := first | ((try simp only [pn]) <;> omega) | fail) only [pn, pq]) <;> omega) | fail) only [pn, pq]) <;> (intros; (try simp (disch := first | ((try simp (disch := first | ((try simp only [pn]) <;> omega) | fail) only [pn, pq]) <;> omega) | fail) only [pn, pq]) <;> omega)) (by (try simp (disch := first | ((try simp (disch := first | ((try simp only [pn]) <;> omega) | fail) only [pn, pq]) <;> omega) | fail) only [pn, pq]) <;> (intros; (try simp (disch := first | ((try simp (disch := first | ((try simp only [pn]) <;> omega) | fail) only [pn, pq]) <;> omega) | fail) only [pn, pq]) <;> omega)), ?_⟩
        intro S22 eS22
        have hJS22 : J9 S22 := by rw [eS22]; exact (J9s_now hJSq6 (NW_set (J9g_now hJSq6) (by (try simp (disch := first | ((try simp (disch := first | ((try simp only [pn]) <;> omega) | fail) only [pn, pq]) <;> omega) | fail) only [pn, pq]) <;> (intros; (try simp (disch := first | ((try simp (disch := first | ((try simp only [pn]) <;> omega) | fail) only [pn, pq]) <;> omega) | fail) only [pn, pq]) <;> omega)) (by (try simp (disch := first | ((try simp (disch := first | ((try simp only [pn]) <;> omega) | fail) only [pn, pq]) <;> omega) | fail) only [pn, pq]) <;> (intros; (try simp (disch := first | ((try simp (disch := first | ((try simp only [pn]) <;> omega) | fail) only [pn, pq]) <;> omega) | fail) only [pn, pq]) <;> omega)) (by (try simp (disch := first | ((try simp (disch := first | ((try simp only [pn]) <;> omega) | fail) only [pn, pq]) <;> omega) | fail) only [pn, pq]) <;> (intros; (try simp (disch := first | ((try simp (disch := first | ((try simp only [pn]) <;> omega) | fail) only [pn, pq]) <;> omega) | fail) only [pn, pq]) <;> omega)) (by (try simp (disch := first | ((try simp (disch := first | ((try simp only [pn]) <;> omega) | fail) only [pn, pq]) <;> omega) | fail) only [pn, pq]) <;> (intros; (try simp (disch := first | ((try simp (disch := first | ((try simp only [pn]) <;> omega) | fail) only [pn, pq]) <;> omega) | fail) only [pn, pq]) <;> omega)) (by (try simp (disch := first | ((try simp (disch := first | ((try simp only [pn]) <;> omega) | fail) only [pn, pq]) <;> omega) | fail) only [pn, pq]) <;> (intros; (try simp (disch := first | ((try simp (disch := first | ((try simp only [pn]) <;> omega) | fail) only [pn, pq]) <;> omega) | fail) only [pn, pq]) <;> omega)) (by (try simp (disch := first | ((try simp (disch := first | ((try simp only [pn]) <;> omega) | fail) only [pn, pq]) <;> omega) | fail) only [pn, pq]) <;> (intros; (try simp (disch := first | ((try simp (disch := first | ((try simp only [pn]) <;> omega) | fail) only [pn, pq]) <;> omega) | fail) only [pn, pq]) <;> omega))))
        have hFS22 : F_X9_image S S22 := by rw [eS22]; exact hFSq6
        have je93 : ((b9g_hasImage S22)).toInt = ((b9g_hasImage Sq6)).toInt := by rw [eS22]
        have jf94 : (-4 ≤ ((b9g_now S22) 1).toInt ∧ ((b9g_now S22) 1).toInt ≤ 4) ∧ (-3 ≤ ((b9g_now S22) 4).toInt ∧ ((b9g_now S22) 4).toInt ≤ 252) ∧ (0 ≤ ((b9g_now S22) 8).toInt ∧ ((b9g_now S22) 8).toInt ≤ 64) ∧ (0 ≤ ((b9g_now S22) 9).toInt ∧ ((b9g_now S22) 9).toInt ≤ 64) ∧ (0 ≤ ((b9g_now S22) 10).toInt ∧ ((b9g_now S22) 10).toInt ≤ 16) ∧ (0 ≤ ((b9g_now S22) 12).toInt ∧ ((b9g_now S22) 12).toInt ≤ 8) := J9g_now hJS22
        have ju94_S22 := hJS22.2
        unfold wp_X9_image_72
        refine ⟨_, ?_, ?_, ?_, ?_, ?_, rfl⟩
        · (try simp (disch := first | ((try simp (disch := first | ((try simp only [pn]) <;> omega) | fail) only [pn, pq]) <;> omega) | fail) only [pn, pq]) <;> (intros; (try simp (disch := first | ((try simp (disch := first | ((try simp only [pn]) <;> omega) | fail) only [pn, pq]) <;> omega) | fail) only [pn, pq]) <;> omega)
        · exact hJS22
        · exact hFS22
        · first | rfl | assumption
        · (try simp (disch := first | ((try simp (disch := first | ((try simp only [pn]) <;> omega) | fail) only [pn, pq]) <;> omega) | fail) only [pn, pq]) <;> (intros; (try simp (disch := first | ((try simp (disch := first | ((try simp only [pn]) <;> omega) | fail) only [pn, pq]) <;> omega) | fail) only [pn, pq]) <;> omega)
      · try simp (disch := first | ((try simp (disch := first | ((try simp only [pn]) <;> omega) | fail) only [pn, pq]) <;> omega) | fail) only [pn, pq] at c21
        refine ⟨pt_in (by (try simp (disch := first | ((try simp (disch := first | ((try simp only [pn]) <;> omega) | fail) only [pn, pq]) <;> omega) | fail) only [pn, pq]) <;> (intros; (try simp (disch := first | ((try simp (disch := first | ((try simp only [pn]) <;> omega) | fail) only [pn, pq]) <;> omega) | fail) only [pn, pq]) <;> omega)) (by (try simp (disch := first | ((try simp (disch := first | ((try simp only [pn]) <;> omega) | fail) only [pn, pq]) <;> omega) | fail) only [pn, pq]) <;> (intros; (try simp (disch := first | ((try simp (disch := first | ((try simp only [pn]) <;> omega) | fail) only [pn, pq]) <;> omega) | fail) only [pn, pq]) <;> omega)), ?_⟩
        have jr95 := NW_at (J9g_now hJSq6) (x2q6)
        try simp (disch := first | ((try simp (disch := first | ((try simp only [pn]) <;> omega) | fail) only [pn, pq]) <;> omega) | fail) only [pn, pq] at jr95
        refine ⟨pt_in (by (try simp (disch := first | ((try simp (disch := first | ((try simp only [pn]) <;> omega) | fail) only [pn, pq]) <;> omega) | fail) only [pn, pq]) <;> (intros; (try simp (disch := first | ((try simp (disch := first | ((try simp only [pn]) <;> omega) | fail) only [pn, pq]) <;> omega) | fail) only [pn, pq]) <;> omega)) (by (try simp (disch := first | ((try simp (disch := first | ((try simp only [pn]) <;> omega) | fail) only [pn, pq]) <;> omega) | fail) only [pn, pq]) <;> (intros; (try simp (disch := first | ((try simp (disch := first | ((try simp only [pn]) <;> omega) | fail) only [pn, pq]) <;> omega) | fail) only [pn, pq]) <;> omega)), ?_⟩
        intro S23 eS23
        have hJS23 : J9 S23 := by rw [eS23]; exact (J9s_images hJSq6 (NW_set (J9g_images hJSq6) (by (try simp (disch := first | ((try simp (disch := first | ((try simp only [pn]) <;> omega) | fail) only [pn, pq]) <;> omega) | fail) only [pn, pq]) <;> (intros; (try simp (disch := first | ((try simp (disch := first | ((try simp only [pn]) <;> omega) | fail) only [pn, pq]) <;> omega) | fail) only [pn, pq]) <;> omega)) (by (try simp (disch := first | ((try simp (disch := first | ((try simp only [pn]) <;> omega) | fail) only [pn, pq]) <;> omega) | fail) only [pn, pq]) <;> (intros; (try simp (disch := first | ((try simp (disch := first | ((try simp only [pn]) <;> omega) | fail) only [pn, pq]) <;> omega) | fail) only [pn, pq]) <;> omega)) (by (try simp (disch := first | ((try simp (disch := first | ((try simp only [pn]) <;> omega) | fail) only [pn, pq]) <;> omega) | fail) only [pn, pq]) <;> (intros; (try simp (disch := first | ((try simp (disch := first | ((try simp only [pn]) <;> omega) | fail) only [pn, pq]) <;> omega) | fail) only [pn, pq]) <;> omega)) (by (try simp (disch := first | ((try simp (disch := first | ((try simp only [pn]) <;> omega) | fail) only [pn, pq]) <;> omega) | fail) only [pn, pq]) <;> (intros; (try simp (disch := first | ((try simp (disch := first | ((try simp only [pn]) <;> omega) | fail) only [pn, pq]) <;> omega) | fail) only [pn, pq]) <;> omega)) (by (try simp (disch := first | ((try simp (disch := first | ((try simp only [pn]) <;> omega) | fail) only [pn, pq]) <;> omega) | fail) only [pn, pq]) <;> (intros; (try simp (disch := first | ((try simp (disch := first | ((try simp only [pn]) <;> omega) | fail) only [pn, pq]) <;> omega) | fail) only [pn, pq]) <;> omega)) (by (try simp (disch := first | ((try simp (disch := first | ((try simp only [pn]) <;> omega) | fail) only [pn, pq]) <;> omega) | fail) only [pn, pq]) <;> (intros; (try simp (disch := first | ((try simp (disch := first | ((try simp only [pn]) <;> omega) | fail) only [pn, pq]) <;> omega) | fail) only [pn, pq]) <;> omega))))
        have hFS23 : F_X9_image S S23 := by rw [eS23]; exact hFSq6
        have je96 : ((b9g_hasImage S23)).toInt = ((b9g_hasImage Sq6)).toInt := by rw [eS23]
        have je97 : ((b9g_now S23) 1).toInt = ((b9g_now Sq6) 1).toInt := by rw [eS23]
        have je98 : ((b9g_now S23) 4).toInt = ((b9g_now Sq6) 4).toInt := by rw [eS23]
        have je99 : ((b9g_now S23) 8).toInt = ((b9g_now Sq6) 8).toInt := by rw [eS23]
        have je100 : ((b9g_now S23) 9).toInt = ((b9g_now Sq6) 9).toInt := by rw [eS23]
        have je101 : ((b9g_now S23) 10).toInt = ((b9g_now Sq6) 10).toInt := by rw [eS23]
        have je102 : ((b9g_now S23) 12).toInt = ((b9g_now Sq6) 12).toInt := by rw [eS23]
        have jf103 : (-4 ≤ ((b9g_now S23) 1).toInt ∧ ((b9g_now S23) 1).toInt ≤ 4) ∧ (-3 ≤ ((b9g_now S23) 4).toInt ∧ ((b9g_now S23) 4).toInt ≤ 252) ∧ (0 ≤ ((b9g_now S23) 8).toInt ∧ ((b9g_now S23) 8).toInt ≤ 64) ∧ (0 ≤ ((b9g_now S23) 9).toInt ∧ ((b9g_now S23) 9).toInt ≤ 64) ∧ (0 ≤ ((b9g_now S23) 10).toInt ∧ ((b9g_now S23) 10).toInt ≤ 16) ∧ (0 ≤ ((b9g_now S23) 12).toInt ∧ ((b9g_now S23) 12).toInt ≤ 8) := J9g_now hJS23
        have ju103_S23 := hJS23.2
        have ja104 : ((b9g_images S23) (x2q6).toNatClampNeg).toInt = (((b9g_now Sq6) (x2q6).toNatClampNeg)).toInt := by rw [eS23]; exact pt_upds
        try simp (disch := first | ((try simp (disch := first | ((try simp only [pn]) <;> omega) | fail) only [pn, pq]) <;> omega) | fail) only [pn, pq] at ja104
        unfold wp_X9_image_72
        refine ⟨_, ?_, ?_, ?_, ?_, ?_, rfl⟩
        · (try simp (disch := first | ((try simp (disch := first | ((try simp only [pn]) <;> omega) | fail) only [pn, pq]) <;> omega) | fail) only [pn, pq]) <;> (intros; (try simp (disch := first | ((try simp (disch := first | ((try simp only [pn]) <;> omega) | fail) only [pn, pq]) <;> omega) | fail) only [pn, pq]) <;> omega)
        · exact hJS23
        · exact hFS23
        · first | rfl | assumption
        · (try simp (disch := first | ((try simp (disch := first | ((try simp only [pn]) <;> omega) | fail) only [pn, pq]) <;> omega) | fail) only [pn, pq]) <;> (intros; (try simp (disch := first | ((try simp (disch := first | ((try simp only [pn]) <;> omega) | fail) only [pn, pq]) <;> omega) | fail) only [pn, pq]) <;> omega)
  · try simp (disch := first | ((try simp (disch := first | ((try simp only [pn]) <;> omega) | fail) only [pn, pq]) <;> omega) | fail) only [pn, pq] at c2
    refine ⟨fun c24 => ?_, fun c24 => ?_⟩
    · try simp (disch := first | ((try simp (disch := first | ((try simp only [pn]) <;> omega) | fail) only [pn, pq]) <;> omega) | fail) only [pn, pq] at c24
      unfold wp_X9_image_18
      intro S25 eS25
      have hJS25 : J9 S25 := by rw [eS25]; exact (J9s_hasImage hJS1)
      have hFS25 : F_X9_image S S25 := by rw [eS25]; exact hFS1
      have je105 : ((b9g_hasImage S25)).toInt = ((1 : Int32)).toInt := by rw [eS25]
      try simp (disch := first | ((try simp (disch := first | ((try simp only [pn]) <;> omega) | fail) only [pn, pq]) <;> omega) | fail) only [pn, pq] at je105
      have je106 : ((b9g_now S25) 1).toInt = ((b9g_now S1) 1).toInt := by rw [eS25]
      have je107 : ((b9g_now S25) 4).toInt = ((b9g_now S1) 4).toInt := by rw [eS25]
      have je108 : ((b9g_now S25) 8).toInt = ((b9g_now S1) 8).toInt := by rw [eS25]
      have je109 : ((b9g_now S25) 9).toInt = ((b9g_now S1) 9).toInt := by rw [eS25]
      have je110 : ((b9g_now S25) 10).toInt = ((b9g_now S1) 10).toInt := by rw [eS25]
      have je111 : ((b9g_now S25) 12).toInt = ((b9g_now S1) 12).toInt := by rw [eS25]
      have jf112 : (-4 ≤ ((b9g_now S25) 1).toInt ∧ ((b9g_now S25) 1).toInt ≤ 4) ∧ (-3 ≤ ((b9g_now S25) 4).toInt ∧ ((b9g_now S25) 4).toInt ≤ 252) ∧ (0 ≤ ((b9g_now S25) 8).toInt ∧ ((b9g_now S25) 8).toInt ≤ 64) ∧ (0 ≤ ((b9g_now S25) 9).toInt ∧ ((b9g_now S25) 9).toInt ≤ 64) ∧ (0 ≤ ((b9g_now S25) 10).toInt ∧ ((b9g_now S25) 10).toInt ≤ 16) ∧ (0 ≤ ((b9g_now S25) 12).toInt ∧ ((b9g_now S25) 12).toInt ≤ 8) := J9g_now hJS25
      have ju112_S25 := hJS25.2
      intro S26 eS26
      have hJS26 : J9 S26 := by rw [eS26]; exact (J9s_isLaid hJS25)
      have hFS26 : F_X9_image S S26 := by rw [eS26]; exact hFS25
      have je113 : ((b9g_hasImage S26)).toInt = ((b9g_hasImage S25)).toInt := by rw [eS26]
      have je114 : ((b9g_now S26) 1).toInt = ((b9g_now S25) 1).toInt := by rw [eS26]
      have je115 : ((b9g_now S26) 4).toInt = ((b9g_now S25) 4).toInt := by rw [eS26]
      have je116 : ((b9g_now S26) 8).toInt = ((b9g_now S25) 8).toInt := by rw [eS26]
      have je117 : ((b9g_now S26) 9).toInt = ((b9g_now S25) 9).toInt := by rw [eS26]
      have je118 : ((b9g_now S26) 10).toInt = ((b9g_now S25) 10).toInt := by rw [eS26]
      have je119 : ((b9g_now S26) 12).toInt = ((b9g_now S25) 12).toInt := by rw [eS26]
      have jf120 : (-4 ≤ ((b9g_now S26) 1).toInt ∧ ((b9g_now S26) 1).toInt ≤ 4) ∧ (-3 ≤ ((b9g_now S26) 4).toInt ∧ ((b9g_now S26) 4).toInt ≤ 252) ∧ (0 ≤ ((b9g_now S26) 8).toInt ∧ ((b9g_now S26) 8).toInt ≤ 64) ∧ (0 ≤ ((b9g_now S26) 9).toInt ∧ ((b9g_now S26) 9).toInt ≤ 64) ∧ (0 ≤ ((b9g_now S26) 10).toInt ∧ ((b9g_now S26) 10).toInt ≤ 16) ∧ (0 ≤ ((b9g_now S26) 12).toInt ∧ ((b9g_now S26) 12).toInt ≤ 8) := J9g_now hJS26
      have ju120_S26 := hJS26.2
      intro S27 eS27
      have hJS27 : J9 S27 := by rw [eS27]; exact (J9s_areNodesLaid hJS26)
      have hFS27 : F_X9_image S S27 := by rw [eS27]; exact hFS26
      have je121 : ((b9g_hasImage S27)).toInt = ((b9g_hasImage S26)).toInt := by rw [eS27]
      have je122 : ((b9g_now S27) 1).toInt = ((b9g_now S26) 1).toInt := by rw [eS27]
      have je123 : ((b9g_now S27) 4).toInt = ((b9g_now S26) 4).toInt := by rw [eS27]
      have je124 : ((b9g_now S27) 8).toInt = ((b9g_now S26) 8).toInt := by rw [eS27]
      have je125 : ((b9g_now S27) 9).toInt = ((b9g_now S26) 9).toInt := by rw [eS27]
      have je126 : ((b9g_now S27) 10).toInt = ((b9g_now S26) 10).toInt := by rw [eS27]
      have je127 : ((b9g_now S27) 12).toInt = ((b9g_now S26) 12).toInt := by rw [eS27]
      have jf128 : (-4 ≤ ((b9g_now S27) 1).toInt ∧ ((b9g_now S27) 1).toInt ≤ 4) ∧ (-3 ≤ ((b9g_now S27) 4).toInt ∧ ((b9g_now S27) 4).toInt ≤ 252) ∧ (0 ≤ ((b9g_now S27) 8).toInt ∧ ((b9g_now S27) 8).toInt ≤ 64) ∧ (0 ≤ ((b9g_now S27) 9).toInt ∧ ((b9g_now S27) 9).toInt ≤ 64) ∧ (0 ≤ ((b9g_now S27) 10).toInt ∧ ((b9g_now S27) 10).toInt ≤ 16) ∧ (0 ≤ ((b9g_now S27) 12).toInt ∧ ((b9g_now S27) 12).toInt ≤ 8) := J9g_now hJS27
      have ju128_S27 := hJS27.2
      refine ⟨fun n x1q28 x2q28 Sq28 => (J9 Sq28) ∧ (F_X9_image S Sq28) ∧ (x1q28 = a1) ∧ (0 ≤ (x2q28).toInt) ∧ n = (23 + 1 - (x2q28).toInt).toNat, ⟨_, hJS27, hFS27, rfl, (by (try simp (disch := first | ((try simp (disch := first | ((try simp only [pn]) <;> omega) | fail) only [pn, pq]) <;> omega) | fail) only [pn, pq]) <;> (intros; (try simp (disch := first | ((try simp (disch := first | ((try simp only [pn]) <;> omega) | fail) only [pn, pq]) <;> omega) | fail) only [pn, pq]) <;> omega)), rfl⟩, ?_⟩
      rintro n29 x1q28 x2q28 Sq28 ⟨hJSq28, hFSq28, hkq28_0, hiq28_0, hn29⟩
      subst hkq28_0
      have rgx1q28 := pt_rg x1q28
      have rgx2q28 := pt_rg x2q28
      unfold wp_X9_image_35b
      have jf129 : (-4 ≤ ((b9g_now Sq28) 1).toInt ∧ ((b9g_now Sq28) 1).toInt ≤ 4) ∧ (-3 ≤ ((b9g_now Sq28) 4).toInt ∧ ((b9g_now Sq28) 4).toInt ≤ 252) ∧ (0 ≤ ((b9g_now Sq28) 8).toInt ∧ ((b9g_now Sq28) 8).toInt ≤ 64) ∧ (0 ≤ ((b9g_now Sq28) 9).toInt ∧ ((b9g_now Sq28) 9).toInt ≤ 64) ∧ (0 ≤ ((b9g_now Sq28) 10).toInt ∧ ((b9g_now Sq28) 10).toInt ≤ 16) ∧ (0 ≤ ((b9g_now Sq28) 12).toInt ∧ ((b9g_now Sq28) 12).toInt ≤ 8) := J9g_now hJSq28
      have ju129_Sq28 := hJSq28.2
      refine ⟨fun c30 => ?_, fun c30 => ?_⟩
      · try simp (disch := first | ((try simp (disch := first | ((try simp only [pn]) <;> omega) | fail) only [pn, pq]) <;> omega) | fail) only [pn, pq] at c30
        refine ⟨fun n x1q31 x2q31 Sq31 => (J9 Sq31) ∧ (F_X9_image S Sq31) ∧ (x1q31 = x1q28) ∧ (0 ≤ (x2q31).toInt) ∧ n = (144 + 1 - (x2q31).toInt).toNat, ⟨_, hJSq28, hFSq28, rfl, (by (try simp (disch := first | ((try simp (disch := first | ((try simp only [pn]) <;> omega) | fail) only [pn, pq]) <;> omega) | fail) only [pn, pq]) <;> (intros; (try simp (disch := first | ((try simp (disch := first | ((try simp only [pn]) <;> omega) | fail) only [pn, pq]) <;> omega) | fail) only [pn, pq]) <;> omega)), rfl⟩, ?_⟩
        rintro n32 x1q31 x2q31 Sq31 ⟨hJSq31, hFSq31, hkq31_0, hiq31_0, hn32⟩
        subst hkq31_0
        have rgx1q31 := pt_rg x1q31
        have rgx2q31 := pt_rg x2q31
        unfold wp_X9_image_80b
        have jf130 : (-4 ≤ ((b9g_now Sq31) 1).toInt ∧ ((b9g_now Sq31) 1).toInt ≤ 4) ∧ (-3 ≤ ((b9g_now Sq31) 4).toInt ∧ ((b9g_now Sq31) 4).toInt ≤ 252) ∧ (0 ≤ ((b9g_now Sq31) 8).toInt ∧ ((b9g_now Sq31) 8).toInt ≤ 64) ∧ (0 ≤ ((b9g_now Sq31) 9).toInt ∧ ((b9g_now Sq31) 9).toInt ≤ 64) ∧ (0 ≤ ((b9g_now Sq31) 10).toInt ∧ ((b9g_now Sq31) 10).toInt ≤ 16) ∧ (0 ≤ ((b9g_now Sq31) 12).toInt ∧ ((b9g_now Sq31) 12).toInt ≤ 8) := J9g_now hJSq31
        have ju130_Sq31 := hJSq31.2
        refine ⟨fun c33 => ?_, fun c33 => ?_⟩
        · try simp (disch := first | ((try simp (disch := first | ((try simp only [pn]) <;> omega) | fail) only [pn, pq]) <;> omega) | fail) only [pn, pq] at c33
          exact ⟨by first | rfl | assumption, hq _ _ hJSq31 hFSq31 (by first | rfl | assumption) ⟩
        · try simp (disch := first | ((try simp (disch := first | ((try simp only [pn]) <;> omega) | fail) only [pn, pq]) <;> omega) | fail) only [pn, pq] at c33
          refine ⟨fun c34 => ?_, fun c34 => ?_⟩
          · try simp (disch := first | ((try simp (disch := first | ((try simp only [pn]) <;> omega) | fail) only [pn, pq]) <;> omega) | fail) only [pn, pq] at c34
            refine ⟨pt_in (by (try simp (disch := first | ((try simp (disch := first | ((try simp only [pn]) <;> omega) | fail) only [pn, pq]) <;> omega) | fail) only [pn, pq]) <;> (intros; (try simp (disch := first | ((try simp (disch := first | ((try simp only [pn]) <;> omega) | fail) only [pn, pq]) <;> omega) | fail) only [pn, pq]) <;> omega)) (by (try simp (disch := first | ((try simp (disch := first | ((try simp only [pn]) <;> omega) | fail) only [pn, pq]) <;> omega) | fail) only [pn, pq]) <;> (intros; (try simp (disch := first | ((try simp (disch := first | ((try simp only [pn]) <;> omega) | fail) only [pn, pq]) <;> omega) | fail) only [pn, pq]) <;> omega)), ?_⟩
            refine ⟨pt_in (by (try simp (disch := first | ((try simp (disch := first | ((try simp only [pn]) <;> omega) | fail) only [pn, pq]) <;> omega) | fail) only [pn, pq]) <;> (intros; (try simp (disch := first | ((try simp (disch := first | ((try simp only [pn]) <;> omega) | fail) only [pn, pq]) <;> omega) | fail) only [pn, pq]) <;> omega)) (by (try simp (disch := first | ((try simp (disch := first | ((try simp only [pn]) <;> omega) | fail) only [pn, pq]) <;> omega) | fail) only [pn, pq]) <;> (intros; (try simp (disch := first | ((try simp (disch := first | ((try simp only [pn]) <;> omega) | fail) only [pn, pq]) <;> omega) | fail) only [pn, pq]) <;> omega)), ?_⟩
            intro S35 eS35
            have hJS35 : J9 S35 := by rw [eS35]; exact (J9s_keys hJSq31)
            have hFS35 : F_X9_image S S35 := by rw [eS35]; exact hFSq31
            have je131 : ((b9g_hasImage S35)).toInt = ((b9g_hasImage Sq31)).toInt := by rw [eS35]
            have je132 : ((b9g_now S35) 1).toInt = ((b9g_now Sq31) 1).toInt := by rw [eS35]
            have je133 : ((b9g_now S35) 4).toInt = ((b9g_now Sq31) 4).toInt := by rw [eS35]
            have je134 : ((b9g_now S35) 8).toInt = ((b9g_now Sq31) 8).toInt := by rw [eS35]
            have je135 : ((b9g_now S35) 9).toInt = ((b9g_now Sq31) 9).toInt := by rw [eS35]
            have je136 : ((b9g_now S35) 10).toInt = ((b9g_now Sq31) 10).toInt := by rw [eS35]
            have je137 : ((b9g_now S35) 12).toInt = ((b9g_now Sq31) 12).toInt := by rw [eS35]
            have jf138 : (-4 ≤ ((b9g_now S35) 1).toInt ∧ ((b9g_now S35) 1).toInt ≤ 4) ∧ (-3 ≤ ((b9g_now S35) 4).toInt ∧ ((b9g_now S35) 4).toInt ≤ 252) ∧ (0 ≤ ((b9g_now S35) 8).toInt ∧ ((b9g_now S35) 8).toInt ≤ 64) ∧ (0 ≤ ((b9g_now S35) 9).toInt ∧ ((b9g_now S35) 9).toInt ≤ 64) ∧ (0 ≤ ((b9g_now S35) 10).toInt ∧ ((b9g_now S35) 10).toInt ≤ 16) ∧ (0 ≤ ((b9g_now S35) 12).toInt ∧ ((b9g_now S35) 12).toInt ≤ 8) := J9g_now hJS35
            have ju138_S35 := hJS35.2
            unfold wp_X9_image_118
            refine ⟨fun c36 => ?_, fun c36 => ?_⟩
            · try simp (disch := first | ((try simp (disch := first | ((try simp only [pn]) <;> omega) | fail) only [pn, pq]) <;> omega) | fail) only [pn, pq] at c36
              refine ⟨pt_in (by (try simp (disch := first | ((try simp (disch := first | ((try simp only [pn]) <;> omega) | fail) only [pn, pq]) <;> omega) | fail) only [pn, pq]) <;> (intros; (try simp (disch := first | ((try simp (disch := first | ((try simp only [pn]) <;> omega) | fail) only [pn, pq]) <;> omega) | fail) only [pn, pq]) <;> omega)) (by (try simp (disch := first | ((try simp (disch := first | ((try simp only [pn]) <;> omega) | fail) only [pn, pq]) <;> omega) | fail) only [pn, pq]) <;> (intros; (try simp (disch := first | ((try simp (disch := first | ((try simp only [pn]) <;> omega) | fail) only [pn, pq]) <;> omega) | fail) only [pn, pq]) <;> omega)), ?_⟩
              have jr139 := J9g_lengthImages hJS35 (x2q31).toNatClampNeg
              try simp (disch := first | ((try simp (disch := first | ((try simp only [pn]) <;> omega) | fail) only [pn, pq]) <;> omega) | fail) only [pn, pq] at jr139
              refine ⟨pt_in (by (try simp (disch := first | ((try simp (disch := first | ((try simp only [pn]) <;> omega) | fail) only [pn, pq]) <;> omega) | fail) only [pn, pq]) <;> (intros; (try simp (disch := first | ((try simp (disch := first | ((try simp only [pn]) <;> omega) | fail) only [pn, pq]) <;> omega) | fail) only [pn, pq]) <;> omega)) (by (try simp (disch := first | ((try simp (disch := first | ((try simp only [pn]) <;> omega) | fail) only [pn, pq]) <;> omega) | fail) only [pn, pq]) <;> (intros; (try simp (disch := first | ((try simp (disch := first | ((try simp only [pn]) <;> omega) | fail) only [pn, pq]) <;> omega) | fail) only [pn, pq]) <;> omega)), ?_⟩
              intro S37 eS37
              have hJS37 : J9 S37 := by rw [eS37]; exact (J9s_lengths hJS35 (pt_updr (J9g_lengths hJS35) ⟨(by (try simp (disch := first | ((try simp (disch := first | ((try simp only [pn]) <;> omega) | fail) only [pn, pq]) <;> omega) | fail) only [pn, pq]) <;> (intros; (try simp (disch := first | ((try simp (disch := first | ((try simp only [pn]) <;> omega) | fail) only [pn, pq]) <;> omega) | fail) only [pn, pq]) <;> omega)), (by (try simp (disch := first | ((try simp (disch := first | ((try simp only [pn]) <;> omega) | fail) only [pn, pq]) <;> omega) | fail) only [pn, pq]) <;> (intros; (try simp (disch := first | ((try simp (disch := first | ((try simp only [pn]) <;> omega) | fail) only [pn, pq]) <;> omega) | fail) only [pn, pq]) <;> omega))⟩))
              have hFS37 : F_X9_image S S37 := by rw [eS37]; exact hFS35
              have je140 : ((b9g_hasImage S37)).toInt = ((b9g_hasImage S35)).toInt := by rw [eS37]
              have je141 : ((b9g_now S37) 1).toInt = ((b9g_now S35) 1).toInt := by rw [eS37]
              have je142 : ((b9g_now S37) 4).toInt = ((b9g_now S35) 4).toInt := by rw [eS37]
              have je143 : ((b9g_now S37) 8).toInt = ((b9g_now S35) 8).toInt := by rw [eS37]
              have je144 : ((b9g_now S37) 9).toInt = ((b9g_now S35) 9).toInt := by rw [eS37]
              have je145 : ((b9g_now S37) 10).toInt = ((b9g_now S35) 10).toInt := by rw [eS37]
              have je146 : ((b9g_now S37) 12).toInt = ((b9g_now S35) 12).toInt := by rw [eS37]
              have jf147 : (-4 ≤ ((b9g_now S37) 1).toInt ∧ ((b9g_now S37) 1).toInt ≤ 4) ∧ (-3 ≤ ((b9g_now S37) 4).toInt ∧ ((b9g_now S37) 4).toInt ≤ 252) ∧ (0 ≤ ((b9g_now S37) 8).toInt ∧ ((b9g_now S37) 8).toInt ≤ 64) ∧ (0 ≤ ((b9g_now S37) 9).toInt ∧ ((b9g_now S37) 9).toInt ≤ 64) ∧ (0 ≤ ((b9g_now S37) 10).toInt ∧ ((b9g_now S37) 10).toInt ≤ 16) ∧ (0 ≤ ((b9g_now S37) 12).toInt ∧ ((b9g_now S37) 12).toInt ≤ 8) := J9g_now hJS37
              have ju147_S37 := hJS37.2
              have ja148 : ((b9g_lengths S37) (x2q31).toNatClampNeg).toInt = (((b9g_lengthImages S35) (x2q31).toNatClampNeg)).toInt := by rw [eS37]; exact pt_upds
              try simp (disch := first | ((try simp (disch := first | ((try simp only [pn]) <;> omega) | fail) only [pn, pq]) <;> omega) | fail) only [pn, pq] at ja148
              unfold wp_X9_image_149
              refine ⟨_, ?_, ?_, ?_, ?_, ?_, rfl⟩
              · (try simp (disch := first | ((try simp (disch := first | ((try simp only [pn]) <;> omega) | fail) only [pn, pq]) <;> omega) | fail) only [pn, pq]) <;> (intros; (try simp (disch := first | ((try simp (disch := first | ((try simp only [pn]) <;> omega) | fail) only [pn, pq]) <;> omega) | fail) only [pn, pq]) <;> omega)
              · exact hJS37
              · exact hFS37
              · first | rfl | assumption
              · (try simp (disch := first | ((try simp (disch := first | ((try simp only [pn]) <;> omega) | fail) only [pn, pq]) <;> omega) | fail) only [pn, pq]) <;> (intros; (try simp (disch := first | ((try simp (disch := first | ((try simp only [pn]) <;> omega) | fail) only [pn, pq]) <;> omega) | fail) only [pn, pq]) <;> omega)
            · try simp (disch := first | ((try simp (disch := first | ((try simp only [pn]) <;> omega) | fail) only [pn, pq]) <;> omega) | fail) only [pn, pq] at c36
              refine ⟨pt_in (by (try simp (disch := first | ((try simp (disch := first | ((try simp only [pn]) <;> omega) | fail) only [pn, pq]) <;> omega) | fail) only [pn, pq]) <;> (intros; (try simp (disch := first | ((try simp (disch := first | ((try simp only [pn]) <;> omega) | fail) only [pn, pq]) <;> omega) | fail) only [pn, pq]) <;> omega)) (by (try simp (disch := first | ((try simp (disch := first | ((try simp only [pn]) <;> omega) | fail) only [pn, pq]) <;> omega) | fail) only [pn, pq]) <;> (intros; (try simp (disch := first | ((try simp (disch := first | ((try simp only [pn]) <;> omega) | fail) only [pn, pq]) <;> omega) | fail) only [pn, pq]) <;> omega)), ?_⟩
              have jr149 := J9g_lengths hJS35 (x2q31).toNatClampNeg
              try simp (disch := first | ((try simp (disch := first | ((try simp only [pn]) <;> omega) | fail) only [pn, pq]) <;> omega) | fail) only [pn, pq] at jr149
              refine ⟨pt_in (by (try simp (disch := first | ((try simp (disch := first | ((try simp only [pn]) <;> omega) | fail) only [pn, pq]) <;> omega) | fail) only [pn, pq]) <;> (intros; (try simp (disch := first | ((try simp (disch := first | ((try simp only [pn]) <;> omega) | fail) only [pn, pq]) <;> omega) | fail) only [pn, pq]) <;> omega)) (by (try simp (disch := first | ((try simp (disch := first | ((try simp only [pn]) <;> omega) | fail) only [pn, pq]) <;> omega) | fail) only [pn, pq]) <;> (intros; (try simp (disch := first | ((try simp (disch := first | ((try simp only [pn]) <;> omega) | fail) only [pn, pq]) <;> omega) | fail) only [pn, pq]) <;> omega)), ?_⟩
              intro S38 eS38
              have hJS38 : J9 S38 := by rw [eS38]; exact (J9s_lengthImages hJS35 (pt_updr (J9g_lengthImages hJS35) ⟨(by (try simp (disch := first | ((try simp (disch := first | ((try simp only [pn]) <;> omega) | fail) only [pn, pq]) <;> omega) | fail) only [pn, pq]) <;> (intros; (try simp (disch := first | ((try simp (disch := first | ((try simp only [pn]) <;> omega) | fail) only [pn, pq]) <;> omega) | fail) only [pn, pq]) <;> omega)), (by (try simp (disch := first | ((try simp (disch := first | ((try simp only [pn]) <;> omega) | fail) only [pn, pq]) <;> omega) | fail) only [pn, pq]) <;> (intros; (try simp (disch := first | ((try simp (disch := first | ((try simp only [pn]) <;> omega) | fail) only [pn, pq]) <;> omega) | fail) only [pn, pq]) <;> omega))⟩))
              have hFS38 : F_X9_image S S38 := by rw [eS38]; exact hFS35
              have je150 : ((b9g_hasImage S38)).toInt = ((b9g_hasImage S35)).toInt := by rw [eS38]
              have je151 : ((b9g_now S38) 1).toInt = ((b9g_now S35) 1).toInt := by rw [eS38]
              have je152 : ((b9g_now S38) 4).toInt = ((b9g_now S35) 4).toInt := by rw [eS38]
              have je153 : ((b9g_now S38) 8).toInt = ((b9g_now S35) 8).toInt := by rw [eS38]
              have je154 : ((b9g_now S38) 9).toInt = ((b9g_now S35) 9).toInt := by rw [eS38]
              have je155 : ((b9g_now S38) 10).toInt = ((b9g_now S35) 10).toInt := by rw [eS38]
              have je156 : ((b9g_now S38) 12).toInt = ((b9g_now S35) 12).toInt := by rw [eS38]
              have jf157 : (-4 ≤ ((b9g_now S38) 1).toInt ∧ ((b9g_now S38) 1).toInt ≤ 4) ∧ (-3 ≤ ((b9g_now S38) 4).toInt ∧ ((b9g_now S38) 4).toInt ≤ 252) ∧ (0 ≤ ((b9g_now S38) 8).toInt ∧ ((b9g_now S38) 8).toInt ≤ 64) ∧ (0 ≤ ((b9g_now S38) 9).toInt ∧ ((b9g_now S38) 9).toInt ≤ 64) ∧ (0 ≤ ((b9g_now S38) 10).toInt ∧ ((b9g_now S38) 10).toInt ≤ 16) ∧ (0 ≤ ((b9g_now S38) 12).toInt ∧ ((b9g_now S38) 12).toInt ≤ 8) := J9g_now hJS38
              have ju157_S38 := hJS38.2
              have ja158 : ((b9g_lengthImages S38) (x2q31).toNatClampNeg).toInt = (((b9g_lengths S35) (x2q31).toNatClampNeg)).toInt := by rw [eS38]; exact pt_upds
              try simp (disch := first | ((try simp (disch := first | ((try simp only [pn]) <;> omega) | fail) only [pn, pq]) <;> omega) | fail) only [pn, pq] at ja158
              unfold wp_X9_image_149
              refine ⟨_, ?_, ?_, ?_, ?_, ?_, rfl⟩
              · (try simp (disch := first | ((try simp (disch := first | ((try simp only [pn]) <;> omega) | fail) only [pn, pq]) <;> omega) | fail) only [pn, pq]) <;> (intros; (try simp (disch := first | ((try simp (disch := first | ((try simp only [pn]) <;> omega) | fail) only [pn, pq]) <;> omega) | fail) only [pn, pq]) <;> omega)
              · exact hJS38
              · exact hFS38
              · first | rfl | assumption
              · (try simp (disch := first | ((try simp (disch := first | ((try simp only [pn]) <;> omega) | fail) only [pn, pq]) <;> omega) | fail) only [pn, pq]) <;> (intros; (try simp (disch := first | ((try simp (disch := first | ((try simp only [pn]) <;> omega) | fail) only [pn, pq]) <;> omega) | fail) only [pn, pq]) <;> omega)
          · try simp (disch := first | ((try simp (disch := first | ((try simp only [pn]) <;> omega) | fail) only [pn, pq]) <;> omega) | fail) only [pn, pq] at c34
            refine ⟨pt_in (by (try simp (disch := first | ((try simp (disch := first | ((try simp only [pn]) <;> omega) | fail) only [pn, pq]) <;> omega) | fail) only [pn, pq]) <;> (intros; (try simp (disch := first | ((try simp (disch := first | ((try simp only [pn]) <;> omega) | fail) only [pn, pq]) <;> omega) | fail) only [pn, pq]) <;> omega)) (by (try simp (disch := first | ((try simp (disch := first | ((try simp only [pn]) <;> omega) | fail) only [pn, pq]) <;> omega) | fail) only [pn, pq]) <;> (intros; (try simp (disch := first | ((try simp (disch := first | ((try simp only [pn]) <;> omega) | fail) only [pn, pq]) <;> omega) | fail) only [pn, pq]) <;> omega)), ?_⟩
            refine ⟨pt_in (by (try simp (disch := first | ((try simp (disch := first | ((try simp only [pn]) <;> omega) | fail) only [pn, pq]) <;> omega) | fail) only [pn, pq]) <;> (intros; (try simp (disch := first | ((try simp (disch := first | ((try simp only [pn]) <;> omega) | fail) only [pn, pq]) <;> omega) | fail) only [pn, pq]) <;> omega)) (by (try simp (disch := first | ((try simp (disch := first | ((try simp only [pn]) <;> omega) | fail) only [pn, pq]) <;> omega) | fail) only [pn, pq]) <;> (intros; (try simp (disch := first | ((try simp (disch := first | ((try simp only [pn]) <;> omega) | fail) only [pn, pq]) <;> omega) | fail) only [pn, pq]) <;> omega)), ?_⟩
            intro S39 eS39
            have hJS39 : J9 S39 := by rw [eS39]; exact (J9s_keyImages hJSq31)
            have hFS39 : F_X9_image S S39 := by rw [eS39]; exact hFSq31
            have je159 : ((b9g_hasImage S39)).toInt = ((b9g_hasImage Sq31)).toInt := by rw [eS39]
            have je160 : ((b9g_now S39) 1).toInt = ((b9g_now Sq31) 1).toInt := by rw [eS39]
            have je161 : ((b9g_now S39) 4).toInt = ((b9g_now Sq31) 4).toInt := by rw [eS39]
            have je162 : ((b9g_now S39) 8).toInt = ((b9g_now Sq31) 8).toInt := by rw [eS39]
            have je163 : ((b9g_now S39) 9).toInt = ((b9g_now Sq31) 9).toInt := by rw [eS39]
            have je164 : ((b9g_now S39) 10).toInt = ((b9g_now Sq31) 10).toInt := by rw [eS39]
            have je165 : ((b9g_now S39) 12).toInt = ((b9g_now Sq31) 12).toInt := by rw [eS39]
            have jf166 : (-4 ≤ ((b9g_now S39) 1).toInt ∧ ((b9g_now S39) 1).toInt ≤ 4) ∧ (-3 ≤ ((b9g_now S39) 4).toInt ∧ ((b9g_now S39) 4).toInt ≤ 252) ∧ (0 ≤ ((b9g_now S39) 8).toInt ∧ ((b9g_now S39) 8).toInt ≤ 64) ∧ (0 ≤ ((b9g_now S39) 9).toInt ∧ ((b9g_now S39) 9).toInt ≤ 64) ∧ (0 ≤ ((b9g_now S39) 10).toInt ∧ ((b9g_now S39) 10).toInt ≤ 16) ∧ (0 ≤ ((b9g_now S39) 12).toInt ∧ ((b9g_now S39) 12).toInt ≤ 8) := J9g_now hJS39
            have ju166_S39 := hJS39.2
            unfold wp_X9_image_118
            refine ⟨fun c40 => ?_, fun c40 => ?_⟩
            · try simp (disch := first | ((try simp (disch := first | ((try simp only [pn]) <;> omega) | fail) only [pn, pq]) <;> omega) | fail) only [pn, pq] at c40
              refine ⟨pt_in (by (try simp (disch := first | ((try simp (disch := first | ((try simp only [pn]) <;> omega) | fail) only [pn, pq]) <;> omega) | fail) only [pn, pq]) <;> (intros; (try simp (disch := first | ((try simp (disch := first | ((try simp only [pn]) <;> omega) | fail) only [pn, pq]) <;> omega) | fail) only [pn, pq]) <;> omega)) (by (try simp (disch := first | ((try simp (disch := first | ((try simp only [pn]) <;> omega) | fail) only [pn, pq]) <;> omega) | fail) only [pn, pq]) <;> (intros; (try simp (disch := first | ((try simp (disch := first | ((try simp only [pn]) <;> omega) | fail) only [pn, pq]) <;> omega) | fail) only [pn, pq]) <;> omega)), ?_⟩
              have jr167 := J9g_lengthImages hJS39 (x2q31).toNatClampNeg
              try simp (disch := first | ((try simp (disch := first | ((try simp only [pn]) <;> omega) | fail) only [pn, pq]) <;> omega) | fail) only [pn, pq] at jr167
              refine ⟨pt_in (by (try simp (disch := first | ((try simp (disch := first | ((try simp only [pn]) <;> omega) | fail) only [pn, pq]) <;> omega) | fail) only [pn, pq]) <;> (intros; (try simp (disch := first | ((try simp (disch := first | ((try simp only [pn]) <;> omega) | fail) only [pn, pq]) <;> omega) | fail) only [pn, pq]) <;> omega)) (by (try simp (disch := first | ((try simp (disch := first | ((try simp only [pn]) <;> omega) | fail) only [pn, pq]) <;> omega) | fail) only [pn, pq]) <;> (intros; (try simp (disch := first | ((try simp (disch := first | ((try simp only [pn]) <;> omega) | fail) only [pn, pq]) <;> omega) | fail) only [pn, pq]) <;> omega)), ?_⟩
              intro S41 eS41
              have hJS41 : J9 S41 := by rw [eS41]; exact (J9s_lengths hJS39 (pt_updr (J9g_lengths hJS39) ⟨(by (try simp (disch := first | ((try simp (disch := first | ((try simp only [pn]) <;> omega) | fail) only [pn, pq]) <;> omega) | fail) only [pn, pq]) <;> (intros; (try simp (disch := first | ((try simp (disch := first | ((try simp only [pn]) <;> omega) | fail) only [pn, pq]) <;> omega) | fail) only [pn, pq]) <;> omega)), (by (try simp (disch := first | ((try simp (disch := first | ((try simp only [pn]) <;> omega) | fail) only [pn, pq]) <;> omega) | fail) only [pn, pq]) <;> (intros; (try simp (disch := first | ((try simp (disch := first | ((try simp only [pn]) <;> omega) | fail) only [pn, pq]) <;> omega) | fail) only [pn, pq]) <;> omega))⟩))
              have hFS41 : F_X9_image S S41 := by rw [eS41]; exact hFS39
              have je168 : ((b9g_hasImage S41)).toInt = ((b9g_hasImage S39)).toInt := by rw [eS41]
              have je169 : ((b9g_now S41) 1).toInt = ((b9g_now S39) 1).toInt := by rw [eS41]
              have je170 : ((b9g_now S41) 4).toInt = ((b9g_now S39) 4).toInt := by rw [eS41]
              have je171 : ((b9g_now S41) 8).toInt = ((b9g_now S39) 8).toInt := by rw [eS41]
              have je172 : ((b9g_now S41) 9).toInt = ((b9g_now S39) 9).toInt := by rw [eS41]
              have je173 : ((b9g_now S41) 10).toInt = ((b9g_now S39) 10).toInt := by rw [eS41]
              have je174 : ((b9g_now S41) 12).toInt = ((b9g_now S39) 12).toInt := by rw [eS41]
              have jf175 : (-4 ≤ ((b9g_now S41) 1).toInt ∧ ((b9g_now S41) 1).toInt ≤ 4) ∧ (-3 ≤ ((b9g_now S41) 4).toInt ∧ ((b9g_now S41) 4).toInt ≤ 252) ∧ (0 ≤ ((b9g_now S41) 8).toInt ∧ ((b9g_now S41) 8).toInt ≤ 64) ∧ (0 ≤ ((b9g_now S41) 9).toInt ∧ ((b9g_now S41) 9).toInt ≤ 64) ∧ (0 ≤ ((b9g_now S41) 10).toInt ∧ ((b9g_now S41) 10).toInt ≤ 16) ∧ (0 ≤ ((b9g_now S41) 12).toInt ∧ ((b9g_now S41) 12).toInt ≤ 8) := J9g_now hJS41
              have ju175_S41 := hJS41.2
              have ja176 : ((b9g_lengths S41) (x2q31).toNatClampNeg).toInt = (((b9g_lengthImages S39) (x2q31).toNatClampNeg)).toInt := by rw [eS41]; exact pt_upds
              try simp (disch := first | ((try simp (disch := first | ((try simp only [pn]) <;> omega) | fail) only [pn, pq]) <;> omega) | fail) only [pn, pq] at ja176
              unfold wp_X9_image_149
              refine ⟨_, ?_, ?_, ?_, ?_, ?_, rfl⟩
              · (try simp (disch := first | ((try simp (disch := first | ((try simp only [pn]) <;> omega) | fail) only [pn, pq]) <;> omega) | fail) only [pn, pq]) <;> (intros; (try simp (disch := first | ((try simp (disch := first | ((try simp only [pn]) <;> omega) | fail) only [pn, pq]) <;> omega) | fail) only [pn, pq]) <;> omega)
              · exact hJS41
              · exact hFS41
              · first | rfl | assumption
              · (try simp (disch := first | ((try simp (disch := first | ((try simp only [pn]) <;> omega) | fail) only [pn, pq]) <;> omega) | fail) only [pn, pq]) <;> (intros; (try simp (disch := first | ((try simp (disch := first | ((try simp only [pn]) <;> omega) | fail) only [pn, pq]) <;> omega) | fail) only [pn, pq]) <;> omega)
            · try simp (disch := first | ((try simp (disch := first | ((try simp only [pn]) <;> omega) | fail) only [pn, pq]) <;> omega) | fail) only [pn, pq] at c40
              refine ⟨pt_in (by (try simp (disch := first | ((try simp (disch := first | ((try simp only [pn]) <;> omega) | fail) only [pn, pq]) <;> omega) | fail) only [pn, pq]) <;> (intros; (try simp (disch := first | ((try simp (disch := first | ((try simp only [pn]) <;> omega) | fail) only [pn, pq]) <;> omega) | fail) only [pn, pq]) <;> omega)) (by (try simp (disch := first | ((try simp (disch := first | ((try simp only [pn]) <;> omega) | fail) only [pn, pq]) <;> omega) | fail) only [pn, pq]) <;> (intros; (try simp (disch := first | ((try simp (disch := first | ((try simp only [pn]) <;> omega) | fail) only [pn, pq]) <;> omega) | fail) only [pn, pq]) <;> omega)), ?_⟩
              have jr177 := J9g_lengths hJS39 (x2q31).toNatClampNeg
              try simp (disch := first | ((try simp (disch := first | ((try simp only [pn]) <;> omega) | fail) only [pn, pq]) <;> omega) | fail) only [pn, pq] at jr177
              refine ⟨pt_in (by (try simp (disch := first | ((try simp (disch := first | ((try simp only [pn]) <;> omega) | fail) only [pn, pq]) <;> omega) | fail) only [pn, pq]) <;> (intros; (try simp (disch := first | ((try simp (disch := first | ((try simp only [pn]) <;> omega) | fail) only [pn, pq]) <;> omega) | fail) only [pn, pq]) <;> omega)) (by (try simp (disch := first | ((try simp (disch := first | ((try simp only [pn]) <;> omega) | fail) only [pn, pq]) <;> omega) | fail) only [pn, pq]) <;> (intros; (try simp (disch := first | ((try simp (disch := first | ((try simp only [pn]) <;> omega) | fail) only [pn, pq]) <;> omega) | fail) only [pn, pq]) <;> omega)), ?_⟩
              intro S42 eS42
              have hJS42 : J9 S42 := by rw [eS42]; exact (J9s_lengthImages hJS39 (pt_updr (J9g_lengthImages hJS39) ⟨(by (try simp (disch := first | ((try simp (disch := first | ((try simp only [pn]) <;> omega) | fail) only [pn, pq]) <;> omega) | fail) only [pn, pq]) <;> (intros; (try simp (disch := first | ((try simp (disch := first | ((try simp only [pn]) <;> omega) | fail) only [pn, pq]) <;> omega) | fail) only [pn, pq]) <;> omega)), (by (try simp (disch := first | ((try simp (disch := first | ((try simp only [pn]) <;> omega) | fail) only [pn, pq]) <;> omega) | fail) only [pn, pq]) <;> (intros; (try simp (disch := first | ((try simp (disch := first | ((try simp only [pn]) <;> omega) | fail) only [pn, pq]) <;> omega) | fail) only [pn, pq]) <;> omega))⟩))
              have hFS42 : F_X9_image S S42 := by rw [eS42]; exact hFS39
              have je178 : ((b9g_hasImage S42)).toInt = ((b9g_hasImage S39)).toInt := by rw [eS42]
              have je179 : ((b9g_now S42) 1).toInt = ((b9g_now S39) 1).toInt := by rw [eS42]
              have je180 : ((b9g_now S42) 4).toInt = ((b9g_now S39) 4).toInt := by rw [eS42]
              have je181 : ((b9g_now S42) 8).toInt = ((b9g_now S39) 8).toInt := by rw [eS42]
              have je182 : ((b9g_now S42) 9).toInt = ((b9g_now S39) 9).toInt := by rw [eS42]
              have je183 : ((b9g_now S42) 10).toInt = ((b9g_now S39) 10).toInt := by rw [eS42]
              have je184 : ((b9g_now S42) 12).toInt = ((b9g_now S39) 12).toInt := by rw [eS42]
              have jf185 : (-4 ≤ ((b9g_now S42) 1).toInt ∧ ((b9g_now S42) 1).toInt ≤ 4) ∧ (-3 ≤ ((b9g_now S42) 4).toInt ∧ ((b9g_now S42) 4).toInt ≤ 252) ∧ (0 ≤ ((b9g_now S42) 8).toInt ∧ ((b9g_now S42) 8).toInt ≤ 64) ∧ (0 ≤ ((b9g_now S42) 9).toInt ∧ ((b9g_now S42) 9).toInt ≤ 64) ∧ (0 ≤ ((b9g_now S42) 10).toInt ∧ ((b9g_now S42) 10).toInt ≤ 16) ∧ (0 ≤ ((b9g_now S42) 12).toInt ∧ ((b9g_now S42) 12).toInt ≤ 8) := J9g_now hJS42
              have ju185_S42 := hJS42.2
              have ja186 : ((b9g_lengthImages S42) (x2q31).toNatClampNeg).toInt = (((b9g_lengths S39) (x2q31).toNatClampNeg)).toInt := by rw [eS42]; exact pt_upds
              try simp (disch := first | ((try simp (disch := first | ((try simp only [pn]) <;> omega) | fail) only [pn, pq]) <;> omega) | fail) only [pn, pq] at ja186
              unfold wp_X9_image_149
              refine ⟨_, ?_, ?_, ?_, ?_, ?_, rfl⟩
              · (try simp (disch := first | ((try simp (disch := first | ((try simp only [pn]) <;> omega) | fail) only [pn, pq]) <;> omega) | fail) only [pn, pq]) <;> (intros; (try simp (disch := first | ((try simp (disch := first | ((try simp only [pn]) <;> omega) | fail) only [pn, pq]) <;> omega) | fail) only [pn, pq]) <;> omega)
              · exact hJS42
              · exact hFS42
              · first | rfl | assumption
              · (try simp (disch := first | ((try simp (disch := first | ((try simp only [pn]) <;> omega) | fail) only [pn, pq]) <;> omega) | fail) only [pn, pq]) <;> (intros; (try simp (disch := first | ((try simp (disch := first | ((try simp only [pn]) <;> omega) | fail) only [pn, pq]) <;> omega) | fail) only [pn, pq]) <;> omega)
      · try simp (disch := first | ((try simp (disch := first | ((try simp only [pn]) <;> omega) | fail) only [pn, pq]) <;> omega) | fail) only [pn, pq] at c30
        refine ⟨fun c43 => ?_, fun c43 => ?_⟩
        · try simp (disch := first | ((try simp (disch := first | ((try simp only [pn]) <;> omega) | fail) only [pn, pq]) <;> omega) | fail) only [pn, pq] at c43
          refine ⟨pt_in (by (try simp (disch := first | ((try simp (disch := first | ((try simp only [pn]) <;> omega) | fail) only [pn, pq]) <;> omega) | fail) only [pn, pq]) <;> (intros; (try simp (disch := first | ((try simp (disch := first | ((try simp only [pn]) <;> omega) | fail) only [pn, pq]) <;> omega) | fail) only [pn, pq]) <;> omega)) (by (try simp (disch := first | ((try simp (disch := first | ((try simp only [pn]) <;> omega) | fail) only [pn, pq]) <;> omega) | fail) only [pn, pq]) <;> (intros; (try simp (disch := first | ((try simp (disch := first | ((try simp only [pn]) <;> omega) | fail) only [pn, pq]) <;> omega) | fail) only [pn, pq]) <;> omega)), ?_⟩
          have jr187 := NW_at (J9g_images hJSq28) (x2q28)
          try simp (disch := first | ((try simp (disch := first | ((try simp only [pn]) <;> omega) | fail) only [pn, pq]) <;> omega) | fail) only [pn, pq] at jr187
          refine ⟨pt_in (by (try simp (disch := first | ((try simp (disch := first | ((try simp only [pn]) <;> omega) | fail) only [pn, pq]) <;> omega) | fail) only [pn, pq]) <;> (intros; (try simp (disch := first | ((try simp (disch := first | ((try simp only [pn]) <;> omega) | fail) only [pn, pq]) <;> omega) | fail) only [pn, pq]) <;> omega)) (by (try simp (disch := first | ((try simp (disch := first | ((try simp only [pn]) <;> omega) | fail) only [pn, pq]) <;> omega) | fail) only [pn, pq]) <;> (intros; (try simp (disch := first | ((try simp (disch := first | ((try simp only [pn]) <;> omega) | fail) only [pn, pq]) <;> omega) | fail) only [pn, pq]) <;> omega)), ?_⟩
          intro S44 eS44
          have hJS44 : J9 S44 := by rw [eS44]; exact (J9s_now hJSq28 (NW_set (J9g_now hJSq28) (by (try simp (disch := first | ((try simp (disch := first | ((try simp only [pn]) <;> omega) | fail) only [pn, pq]) <;> omega) | fail) only [pn, pq]) <;> (intros; (try simp (disch := first | ((try simp (disch := first | ((try simp only [pn]) <;> omega) | fail) only [pn, pq]) <;> omega) | fail) only [pn, pq]) <;> omega)) (by (try simp (disch := first | ((try simp (disch := first | ((try simp only [pn]) <;> omega) | fail) only [pn, pq]) <;> omega) | fail) only [pn, pq]) <;> (intros; (try simp (disch := first | ((try simp (disch := first | ((try simp only [pn]) <;> omega) | fail) only [pn, pq]) <;> omega) | fail) only [pn, pq]) <;> omega)) (by (try simp (disch := first | ((try simp (disch := first | ((try simp only [pn]) <;> omega) | fail) only [pn, pq]) <;> omega) | fail) only [pn, pq]) <;> (intros; (try simp (disch := first | ((try simp (disch := first | ((try simp only [pn]) <;> omega) | fail) only [pn, pq]) <;> omega) | fail) only [pn, pq]) <;> omega)) (by (try simp (disch := first | ((try simp (disch := first | ((try simp only [pn]) <;> omega) | fail) only [pn, pq]) <;> omega) | fail) only [pn, pq]) <;> (intros; (try simp (disch := first | ((try simp (disch := first | ((try simp only [pn]) <;> omega) | fail) only [pn, pq]) <;> omega) | fail) only [pn, pq]) <;> omega)) (by (try simp (disch := first | ((try simp (disch := first | ((try simp only [pn]) <;> omega) | fail) only [pn, pq]) <;> omega) | fail) only [pn, pq]) <;> (intros; (try simp (disch := first | ((try simp (disch := first | ((try simp only [pn]) <;> omega) | fail) only [pn, pq]) <;> omega) | fail) only [pn, pq]) <;> omega)) (by (try simp (disch := first | ((try simp (disch := first | ((try simp only [pn]) <;> omega) | fail) only [pn, pq]) <;> omega) | fail) only [pn, pq]) <;> (intros; (try simp (disch := first | ((try simp (disch := first | ((try simp only [pn]) <;> omega) | fail) only [pn, pq]) <;> omega) | fail) only [pn, pq]) <;> omega))))
          have hFS44 : F_X9_image S S44 := by rw [eS44]; exact hFSq28
          have je188 : ((b9g_hasImage S44)).toInt = ((b9g_hasImage Sq28)).toInt := by rw [eS44]
          have jf189 : (-4 ≤ ((b9g_now S44) 1).toInt ∧ ((b9g_now S44) 1).toInt ≤ 4) ∧ (-3 ≤ ((b9g_now S44) 4).toInt ∧ ((b9g_now S44) 4).toInt ≤ 252) ∧ (0 ≤ ((b9g_now S44) 8).toInt ∧ ((b9g_now S44) 8).toInt ≤ 64) ∧ (0 ≤ ((b9g_now S44) 9).toInt ∧ ((b9g_now S44) 9).toInt ≤ 64) ∧ (0 ≤ ((b9g_now S44) 10).toInt ∧ ((b9g_now S44) 10).toInt ≤ 16) ∧ (0 ≤ ((b9g_now S44) 12).toInt ∧ ((b9g_now S44) 12).toInt ≤ 8) := J9g_now hJS44
          have ju189_S44 := hJS44.2
          unfold wp_X9_image_72
          refine ⟨_, ?_, ?_, ?_, ?_, ?_, rfl⟩
          · (try simp (disch := first | ((try simp (disch := first | ((try simp only [pn]) <;> omega) | fail) only [pn, pq]) <;> omega) | fail) only [pn, pq]) <;> (intros; (try simp (disch := first | ((try simp (disch := first | ((try simp only [pn]) <;> omega) | fail) only [pn, pq]) <;> omega) | fail) only [pn, pq]) <;> omega)
          · exact hJS44
          · exact hFS44
          · first | rfl | assumption
          · (try simp (disch := first | ((try simp (disch := first | ((try simp only [pn]) <;> omega) | fail) only [pn, pq]) <;> omega) | fail) only [pn, pq]) <;> (intros; (try simp (disch := first | ((try simp (disch := first | ((try simp only [pn]) <;> omega) | fail) only [pn, pq]) <;> omega) | fail) only [pn, pq]) <;> omega)
        · try simp (disch := first | ((try simp (disch := first | ((try simp only [pn]) <;> omega) | fail) only [pn, pq]) <;> omega) | fail) only [pn, pq] at c43
          refine ⟨pt_in (by (try simp (disch := first | ((try simp (disch := first | ((try simp only [pn]) <;> omega) | fail) only [pn, pq]) <;> omega) | fail) only [pn, pq]) <;> (intros; (try simp (disch := first | ((try simp (disch := first | ((try simp only [pn]) <;> omega) | fail) only [pn, pq]) <;> omega) | fail) only [pn, pq]) <;> omega)) (by (try simp (disch := first | ((try simp (disch := first | ((try simp only [pn]) <;> omega) | fail) only [pn, pq]) <;> omega) | fail) only [pn, pq]) <;> (intros; (try simp (disch := first | ((try simp (disch := first | ((try simp only [pn]) <;> omega) | fail) only [pn, pq]) <;> omega) | fail) only [pn, pq]) <;> omega)), ?_⟩
          have jr190 := NW_at (J9g_now hJSq28) (x2q28)
          try simp (disch := first | ((try simp (disch := first | ((try simp only [pn]) <;> omega) | fail) only [pn, pq]) <;> omega) | fail) only [pn, pq] at jr190
          refine ⟨pt_in (by (try simp (disch := first | ((try simp (disch := first | ((try simp only [pn]) <;> omega) | fail) only [pn, pq]) <;> omega) | fail) only [pn, pq]) <;> (intros; (try simp (disch := first | ((try simp (disch := first | ((try simp only [pn]) <;> omega) | fail) only [pn, pq]) <;> omega) | fail) only [pn, pq]) <;> omega)) (by (try simp (disch := first | ((try simp (disch := first | ((try simp only [pn]) <;> omega) | fail) only [pn, pq]) <;> omega) | fail) only [pn, pq]) <;> (intros; (try simp (disch := first | ((try simp (disch := first | ((try simp only [pn]) <;> omega) | fail) only [pn, pq]) <;> omega) | fail) only [pn, pq]) <;> omega)), ?_⟩
          intro S45 eS45
          have hJS45 : J9 S45 := by rw [eS45]; exact (J9s_images hJSq28 (NW_set (J9g_images hJSq28) (by (try simp (disch := first | ((try simp (disch := first | ((try simp only [pn]) <;> omega) | fail) only [pn, pq]) <;> omega) | fail) only [pn, pq]) <;> (intros; (try simp (disch := first | ((try simp (disch := first | ((try simp only [pn]) <;> omega) | fail) only [pn, pq]) <;> omega) | fail) only [pn, pq]) <;> omega)) (by (try simp (disch := first | ((try simp (disch := first | ((try simp only [pn]) <;> omega) | fail) only [pn, pq]) <;> omega) | fail) only [pn, pq]) <;> (intros; (try simp (disch := first | ((try simp (disch := first | ((try simp only [pn]) <;> omega) | fail) only [pn, pq]) <;> omega) | fail) only [pn, pq]) <;> omega)) (by (try simp (disch := first | ((try simp (disch := first | ((try simp only [pn]) <;> omega) | fail) only [pn, pq]) <;> omega) | fail) only [pn, pq]) <;> (intros; (try simp (disch := first | ((try simp (disch := first | ((try simp only [pn]) <;> omega) | fail) only [pn, pq]) <;> omega) | fail) only [pn, pq]) <;> omega)) (by (try simp (disch := first | ((try simp (disch := first | ((try simp only [pn]) <;> omega) | fail) only [pn, pq]) <;> omega) | fail) only [pn, pq]) <;> (intros; (try simp (disch := first | ((try simp (disch := first | ((try simp only [pn]) <;> omega) | fail) only [pn, pq]) <;> omega) | fail) only [pn, pq]) <;> omega)) (by (try simp (disch := first | ((try simp (disch := first | ((try simp only [pn]) <;> omega) | fail) only [pn, pq]) <;> omega) | fail) only [pn, pq]) <;> (intros; (try simp (disch := first | ((try simp (disch := first | ((try simp only [pn]) <;> omega) | fail) only [pn, pq]) <;> omega) | fail) only [pn, pq]) <;> omega)) (by (try simp (disch := first | ((try simp (disch := first | ((try simp only [pn]) <;> omega) | fail) only [pn, pq]) <;> omega) | fail) only [pn, pq]) <;> (intros; (try simp (disch := first | ((try simp (disch := first | ((try simp only [pn]) <;> omega) | fail) only [pn, pq]) <;> omega) | fail) only [pn, pq]) <;> omega))))
          have hFS45 : F_X9_image S S45 := by rw [eS45]; exact hFSq28
          have je191 : ((b9g_hasImage S45)).toInt = ((b9g_hasImage Sq28)).toInt := by rw [eS45]
          have je192 : ((b9g_now S45) 1).toInt = ((b9g_now Sq28) 1).toInt := by rw [eS45]
          have je193 : ((b9g_now S45) 4).toInt = ((b9g_now Sq28) 4).toInt := by rw [eS45]
          have je194 : ((b9g_now S45) 8).toInt = ((b9g_now Sq28) 8).toInt := by rw [eS45]
          have je195 : ((b9g_now S45) 9).toInt = ((b9g_now Sq28) 9).toInt := by rw [eS45]
          have je196 : ((b9g_now S45) 10).toInt = ((b9g_now Sq28) 10).toInt := by rw [eS45]
          have je197 : ((b9g_now S45) 12).toInt = ((b9g_now Sq28) 12).toInt := by rw [eS45]
          have jf198 : (-4 ≤ ((b9g_now S45) 1).toInt ∧ ((b9g_now S45) 1).toInt ≤ 4) ∧ (-3 ≤ ((b9g_now S45) 4).toInt ∧ ((b9g_now S45) 4).toInt ≤ 252) ∧ (0 ≤ ((b9g_now S45) 8).toInt ∧ ((b9g_now S45) 8).toInt ≤ 64) ∧ (0 ≤ ((b9g_now S45) 9).toInt ∧ ((b9g_now S45) 9).toInt ≤ 64) ∧ (0 ≤ ((b9g_now S45) 10).toInt ∧ ((b9g_now S45) 10).toInt ≤ 16) ∧ (0 ≤ ((b9g_now S45) 12).toInt ∧ ((b9g_now S45) 12).toInt ≤ 8) := J9g_now hJS45
          have ju198_S45 := hJS45.2
          have ja199 : ((b9g_images S45) (x2q28).toNatClampNeg).toInt = (((b9g_now Sq28) (x2q28).toNatClampNeg)).toInt := by rw [eS45]; exact pt_upds
          try simp (disch := first | ((try simp (disch := first | ((try simp only [pn]) <;> omega) | fail) only [pn, pq]) <;> omega) | fail) only [pn, pq] at ja199
          unfold wp_X9_image_72
          refine ⟨_, ?_, ?_, ?_, ?_, ?_, rfl⟩
          · (try simp (disch := first | ((try simp (disch := first | ((try simp only [pn]) <;> omega) | fail) only [pn, pq]) <;> omega) | fail) only [pn, pq]) <;> (intros; (try simp (disch := first | ((try simp (disch := first | ((try simp only [pn]) <;> omega) | fail) only [pn, pq]) <;> omega) | fail) only [pn, pq]) <;> omega)
          · exact hJS45
          · exact hFS45
          · first | rfl | assumption
          · (try simp (disch := first | ((try simp (disch := first | ((try simp only [pn]) <;> omega) | fail) only [pn, pq]) <;> omega) | fail) only [pn, pq]) <;> (intros; (try simp (disch := first | ((try simp (disch := first | ((try simp only [pn]) <;> omega) | fail) only [pn, pq]) <;> omega) | fail) only [pn, pq]) <;> omega)
    · try simp (disch := first | ((try simp (disch := first | ((try simp only [pn]) <;> omega) | fail) only [pn, pq]) <;> omega) | fail) only [pn, pq] at c24
      exact ⟨by first | rfl | assumption, hq _ _ hJS1 hFS1 (by first | rfl | assumption) ⟩
set_option maxRecDepth 20000 in
set_option maxHeartbeats 1000000 in
theorem sf_X9_endedMany {S : bT9} (hJ : K9 S) {Q : Int32 → Prop} (hq : ∀ r : Int32, Q r) : wp_X9_endedMany S Q := by
  unfold wp_X9_endedMany
  have jf1 : (-4 ≤ ((b9g_now S) 1).toInt ∧ ((b9g_now S) 1).toInt ≤ 4) ∧ (-3 ≤ ((b9g_now S) 4).toInt ∧ ((b9g_now S) 4).toInt ≤ 252) ∧ (0 ≤ ((b9g_now S) 8).toInt ∧ ((b9g_now S) 8).toInt ≤ 64) ∧ (0 ≤ ((b9g_now S) 9).toInt ∧ ((b9g_now S) 9).toInt ≤ 64) ∧ (0 ≤ ((b9g_now S) 10).toInt ∧ ((b9g_now S) 10).toInt ≤ 16) ∧ (0 ≤ ((b9g_now S) 12).toInt ∧ ((b9g_now S) 12).toInt ≤ 8) := K9g_now hJ
  refine ⟨fun n x1q1 x2q1 => (0 ≤ (x2q1).toInt) ∧ n = ((((b9g_now S) 9)).toInt + 1 - (x2q1).toInt).toNat, ⟨_, (by (try simp (disch := first | ((try simp (disch := first | ((try simp only [pn]) <;> omega) | fail) only [pn, pq]) <;> omega) | fail) only [pn, pq]) <;> (intros; (try simp (disch := first | ((try simp (disch := first | ((try simp only [pn]) <;> omega) | fail) only [pn, pq]) <;> omega) | fail) only [pn, pq]) <;> omega)), rfl⟩, ?_⟩
  rintro n2 x1q1 x2q1 ⟨hiq1_0, hn2⟩
  have rgx1q1 := pt_rg x1q1
  have rgx2q1 := pt_rg x2q1
  unfold wp_X9_endedMany_4b
  refine ⟨pt_in (by (try simp (disch := first | ((try simp (disch := first | ((try simp only [pn]) <;> omega) | fail) only [pn, pq]) <;> omega) | fail) only [pn, pq]) <;> (intros; (try simp (disch := first | ((try simp (disch := first | ((try simp only [pn]) <;> omega) | fail) only [pn, pq]) <;> omega) | fail) only [pn, pq]) <;> omega)) (by (try simp (disch := first | ((try simp (disch := first | ((try simp only [pn]) <;> omega) | fail) only [pn, pq]) <;> omega) | fail) only [pn, pq]) <;> (intros; (try simp (disch := first | ((try simp (disch := first | ((try simp only [pn]) <;> omega) | fail) only [pn, pq]) <;> omega) | fail) only [pn, pq]) <;> omega)), ?_⟩
  refine ⟨fun c3 => ?_, fun c3 => ?_⟩
  · try simp (disch := first | ((try simp (disch := first | ((try simp only [pn]) <;> omega) | fail) only [pn, pq]) <;> omega) | fail) only [pn, pq] at c3
    exact hq _ 
  · try simp (disch := first | ((try simp (disch := first | ((try simp only [pn]) <;> omega) | fail) only [pn, pq]) <;> omega) | fail) only [pn, pq] at c3
    refine sf_X9_isEnded hJ (by (try simp (disch := first | ((try simp (disch := first | ((try simp only [pn]) <;> omega) | fail) only [pn, pq]) <;> omega) | fail) only [pn, pq]) <;> (intros; (try simp (disch := first | ((try simp (disch := first | ((try simp only [pn]) <;> omega) | fail) only [pn, pq]) <;> omega) | fail) only [pn, pq]) <;> omega)) (by (try simp (disch := first | ((try simp (disch := first | ((try simp only [pn]) <;> omega) | fail) only [pn, pq]) <;> omega) | fail) only [pn, pq]) <;> (intros; (try simp (disch := first | ((try simp (disch := first | ((try simp only [pn]) <;> omega) | fail) only [pn, pq]) <;> omega) | fail) only [pn, pq]) <;> omega)) (fun r4 hzr4  => ?_)
    refine ⟨fun c6 => ?_, fun c6 => ?_⟩
    · try simp (disch := first | ((try simp (disch := first | ((try simp only [pn]) <;> omega) | fail) only [pn, pq]) <;> omega) | fail) only [pn, pq] at c6
      unfold wp_X9_endedMany_27
      refine ⟨_, ?_, ?_, rfl⟩
      · (try simp (disch := first | ((try simp (disch := first | ((try simp only [pn]) <;> omega) | fail) only [pn, pq]) <;> omega) | fail) only [pn, pq]) <;> (intros; (try simp (disch := first | ((try simp (disch := first | ((try simp only [pn]) <;> omega) | fail) only [pn, pq]) <;> omega) | fail) only [pn, pq]) <;> omega)
      · (try simp (disch := first | ((try simp (disch := first | ((try simp only [pn]) <;> omega) | fail) only [pn, pq]) <;> omega) | fail) only [pn, pq]) <;> (intros; (try simp (disch := first | ((try simp (disch := first | ((try simp only [pn]) <;> omega) | fail) only [pn, pq]) <;> omega) | fail) only [pn, pq]) <;> omega)
    · try simp (disch := first | ((try simp (disch := first | ((try simp only [pn]) <;> omega) | fail) only [pn, pq]) <;> omega) | fail) only [pn, pq] at c6
      unfold wp_X9_endedMany_27
      refine ⟨_, ?_, ?_, rfl⟩
      · (try simp (disch := first | ((try simp (disch := first | ((try simp only [pn]) <;> omega) | fail) only [pn, pq]) <;> omega) | fail) only [pn, pq]) <;> (intros; (try simp (disch := first | ((try simp (disch := first | ((try simp only [pn]) <;> omega) | fail) only [pn, pq]) <;> omega) | fail) only [pn, pq]) <;> omega)
      · (try simp (disch := first | ((try simp (disch := first | ((try simp only [pn]) <;> omega) | fail) only [pn, pq]) <;> omega) | fail) only [pn, pq]) <;> (intros; (try simp (disch := first | ((try simp (disch := first | ((try simp only [pn]) <;> omega) | fail) only [pn, pq]) <;> omega) | fail) only [pn, pq]) <;> omega)
set_option maxRecDepth 20000 in
set_option maxHeartbeats 1000000 in
theorem sf_X9_beginningBytes {S : bT9} (hJ : K9 S) {Q : Int32 → Prop} (hq : ∀ r : Int32, Q r) : wp_X9_beginningBytes S Q := by
  unfold wp_X9_beginningBytes
  have jf1 : (-4 ≤ ((b9g_now S) 1).toInt ∧ ((b9g_now S) 1).toInt ≤ 4) ∧ (-3 ≤ ((b9g_now S) 4).toInt ∧ ((b9g_now S) 4).toInt ≤ 252) ∧ (0 ≤ ((b9g_now S) 8).toInt ∧ ((b9g_now S) 8).toInt ≤ 64) ∧ (0 ≤ ((b9g_now S) 9).toInt ∧ ((b9g_now S) 9).toInt ≤ 64) ∧ (0 ≤ ((b9g_now S) 10).toInt ∧ ((b9g_now S) 10).toInt ≤ 16) ∧ (0 ≤ ((b9g_now S) 12).toInt ∧ ((b9g_now S) 12).toInt ≤ 8) := K9g_now hJ
  refine ⟨fun n x1q1 x2q1 => (0 ≤ (x2q1).toInt) ∧ n = ((((b9g_now S) 9)).toInt + 1 - (x2q1).toInt).toNat, ⟨_, (by (try simp (disch := first | ((try simp (disch := first | ((try simp only [pn]) <;> omega) | fail) only [pn, pq]) <;> omega) | fail) only [pn, pq]) <;> (intros; (try simp (disch := first | ((try simp (disch := first | ((try simp only [pn]) <;> omega) | fail) only [pn, pq]) <;> omega) | fail) only [pn, pq]) <;> omega)), rfl⟩, ?_⟩
  rintro n2 x1q1 x2q1 ⟨hiq1_0, hn2⟩
  have rgx1q1 := pt_rg x1q1
  have rgx2q1 := pt_rg x2q1
  unfold wp_X9_beginningBytes_4b
  refine ⟨pt_in (by (try simp (disch := first | ((try simp (disch := first | ((try simp only [pn]) <;> omega) | fail) only [pn, pq]) <;> omega) | fail) only [pn, pq]) <;> (intros; (try simp (disch := first | ((try simp (disch := first | ((try simp only [pn]) <;> omega) | fail) only [pn, pq]) <;> omega) | fail) only [pn, pq]) <;> omega)) (by (try simp (disch := first | ((try simp (disch := first | ((try simp only [pn]) <;> omega) | fail) only [pn, pq]) <;> omega) | fail) only [pn, pq]) <;> (intros; (try simp (disch := first | ((try simp (disch := first | ((try simp only [pn]) <;> omega) | fail) only [pn, pq]) <;> omega) | fail) only [pn, pq]) <;> omega)), ?_⟩
  refine ⟨fun c3 => ?_, fun c3 => ?_⟩
  · try simp (disch := first | ((try simp (disch := first | ((try simp only [pn]) <;> omega) | fail) only [pn, pq]) <;> omega) | fail) only [pn, pq] at c3
    exact hq _ 
  · try simp (disch := first | ((try simp (disch := first | ((try simp only [pn]) <;> omega) | fail) only [pn, pq]) <;> omega) | fail) only [pn, pq] at c3
    refine ⟨pt_in (by (try simp (disch := first | ((try simp (disch := first | ((try simp only [pn]) <;> omega) | fail) only [pn, pq]) <;> omega) | fail) only [pn, pq]) <;> (intros; (try simp (disch := first | ((try simp (disch := first | ((try simp only [pn]) <;> omega) | fail) only [pn, pq]) <;> omega) | fail) only [pn, pq]) <;> omega)) (by (try simp (disch := first | ((try simp (disch := first | ((try simp only [pn]) <;> omega) | fail) only [pn, pq]) <;> omega) | fail) only [pn, pq]) <;> (intros; (try simp (disch := first | ((try simp (disch := first | ((try simp only [pn]) <;> omega) | fail) only [pn, pq]) <;> omega) | fail) only [pn, pq]) <;> omega)), ?_⟩
    have jr3 := K9g_beginning hJ (x2q1).toNatClampNeg
    try simp (disch := first | ((try simp (disch := first | ((try simp only [pn]) <;> omega) | fail) only [pn, pq]) <;> omega) | fail) only [pn, pq] at jr3
    refine ⟨_, ?_, ?_, rfl⟩
    · (try simp (disch := first | ((try simp (disch := first | ((try simp only [pn]) <;> omega) | fail) only [pn, pq]) <;> omega) | fail) only [pn, pq]) <;> (intros; (try simp (disch := first | ((try simp (disch := first | ((try simp only [pn]) <;> omega) | fail) only [pn, pq]) <;> omega) | fail) only [pn, pq]) <;> omega)
    · (try simp (disch := first | ((try simp (disch := first | ((try simp only [pn]) <;> omega) | fail) only [pn, pq]) <;> omega) | fail) only [pn, pq]) <;> (intros; (try simp (disch := first | ((try simp (disch := first | ((try simp only [pn]) <;> omega) | fail) only [pn, pq]) <;> omega) | fail) only [pn, pq]) <;> omega)
def F_X9_look (S u : bT9) : Prop := (b9g_now u) = (b9g_now S) ∧ (b9g_keys u) = (b9g_keys S) ∧ (b9g_lengths u) = (b9g_lengths S) ∧ (b9g_drawn u) = (b9g_drawn S) ∧ (b9g_drawnLength u) = (b9g_drawnLength S) ∧ (b9g_tape u) = (b9g_tape S) ∧ (b9g_taped u) = (b9g_taped S) ∧ (b9g_names u) = (b9g_names S) ∧ (b9g_chosen u) = (b9g_chosen S) ∧ (b9g_lowKey u) = (b9g_lowKey S) ∧ (b9g_highKey u) = (b9g_highKey S) ∧ (b9g_lowLength u) = (b9g_lowLength S) ∧ (b9g_highLength u) = (b9g_highLength S) ∧ (b9g_fromKey u) = (b9g_fromKey S) ∧ (b9g_toKey u) = (b9g_toKey S) ∧ (b9g_fromLength u) = (b9g_fromLength S) ∧ (b9g_toLength u) = (b9g_toLength S) ∧ (b9g_ones u) = (b9g_ones S) ∧ (b9g_oneMany u) = (b9g_oneMany S) ∧ (b9g_rowLong u) = (b9g_rowLong S) ∧ (b9g_signs u) = (b9g_signs S) ∧ (b9g_signMany u) = (b9g_signMany S) ∧ (b9g_hasImage u) = (b9g_hasImage S) ∧ (b9g_images u) = (b9g_images S) ∧ (b9g_keyImages u) = (b9g_keyImages S) ∧ (b9g_lengthImages u) = (b9g_lengthImages S)
set_option maxRecDepth 20000 in
set_option maxHeartbeats 1000000 in
theorem sf_X9_look {S : bT9} (hJ : J9 S) {a1 : Int32} {Q : Int32 → (bT9) → Prop} (hq : ∀ (r : Int32) (u : bT9), (J9 u) → F_X9_look S u → Q r u) : wp_X9_look S a1 Q := by
  unfold wp_X9_look
  have hFS : F_X9_look S S := ⟨rfl, rfl, rfl, rfl, rfl, rfl, rfl, rfl, rfl, rfl, rfl, rfl, rfl, rfl, rfl, rfl, rfl, rfl, rfl, rfl, rfl, rfl, rfl, rfl, rfl, rfl⟩
  have jf1 := J9g_itemMany hJ
  have jf2 := J9g_levelMany hJ
  have jf3 := J9g_nodeMany hJ
  have jf4 := J9g_taped hJ
  have jf5 := J9g_upperNodes hJ
  have jf6 : (-4 ≤ ((b9g_now S) 1).toInt ∧ ((b9g_now S) 1).toInt ≤ 4) ∧ (-3 ≤ ((b9g_now S) 4).toInt ∧ ((b9g_now S) 4).toInt ≤ 252) ∧ (0 ≤ ((b9g_now S) 8).toInt ∧ ((b9g_now S) 8).toInt ≤ 64) ∧ (0 ≤ ((b9g_now S) 9).toInt ∧ ((b9g_now S) 9).toInt ≤ 64) ∧ (0 ≤ ((b9g_now S) 10).toInt ∧ ((b9g_now S) 10).toInt ≤ 16) ∧ (0 ≤ ((b9g_now S) 12).toInt ∧ ((b9g_now S) 12).toInt ≤ 8) := J9g_now hJ
  have ju6_S := hJ.2
  have rga1 := pt_rg a1
  intro S1 eS1
  have hJS1 : J9 S1 := by rw [eS1]; exact (J9s_told hJ)
  have hFS1 : F_X9_look S S1 := by rw [eS1]; exact hFS
  have je7 : ((b9g_itemMany S1)).toInt = ((b9g_itemMany S)).toInt := by rw [eS1]
  have jf8 := J9g_itemMany hJS1
  have je9 : ((b9g_levelMany S1)).toInt = ((b9g_levelMany S)).toInt := by rw [eS1]
  have jf10 := J9g_levelMany hJS1
  have je11 : ((b9g_nodeMany S1)).toInt = ((b9g_nodeMany S)).toInt := by rw [eS1]
  have jf12 := J9g_nodeMany hJS1
  have je13 : ((b9g_taped S1)).toInt = ((b9g_taped S)).toInt := congrArg (fun z => (z).toInt) hFS1.2.2.2.2.2.2.1
  have je14 : ((b9g_upper S1)).toInt = ((b9g_upper S)).toInt := by rw [eS1]
  have je15 : ((b9g_upperNodes S1)).toInt = ((b9g_upperNodes S)).toInt := by rw [eS1]
  have jf16 := J9g_upperNodes hJS1
  have je17 : ((b9g_now S1) 1).toInt = ((b9g_now S) 1).toInt := congrArg (fun z => (z 1).toInt) hFS1.1
  have je18 : ((b9g_now S1) 4).toInt = ((b9g_now S) 4).toInt := congrArg (fun z => (z 4).toInt) hFS1.1
  have je19 : ((b9g_now S1) 8).toInt = ((b9g_now S) 8).toInt := congrArg (fun z => (z 8).toInt) hFS1.1
  have je20 : ((b9g_now S1) 9).toInt = ((b9g_now S) 9).toInt := congrArg (fun z => (z 9).toInt) hFS1.1
  have je21 : ((b9g_now S1) 10).toInt = ((b9g_now S) 10).toInt := congrArg (fun z => (z 10).toInt) hFS1.1
  have je22 : ((b9g_now S1) 12).toInt = ((b9g_now S) 12).toInt := congrArg (fun z => (z 12).toInt) hFS1.1
  have ju22_S1 := hJS1.2
  refine sf_X9_laysNodes hJS1 (fun u3 hJu3 hfu3  => ?_)
  have hFu3 : F_X9_look S u3 := ⟨(congrArg (fun z => z) hfu3.2.1).trans hFS1.1, (congrArg (fun z => z) hfu3.2.2.1).trans hFS1.2.1, (congrArg (fun z => z) hfu3.2.2.2.1).trans hFS1.2.2.1, (congrArg (fun z => z) hfu3.2.2.2.2.1).trans hFS1.2.2.2.1, (congrArg (fun z => z) hfu3.2.2.2.2.2.1).trans hFS1.2.2.2.2.1, (congrArg (fun z => z) hfu3.2.2.2.2.2.2.1).trans hFS1.2.2.2.2.2.1, (congrArg (fun z => z) hfu3.2.2.2.2.2.2.2.1).trans hFS1.2.2.2.2.2.2.1, (congrArg (fun z => z) hfu3.2.2.2.2.2.2.2.2.1).trans hFS1.2.2.2.2.2.2.2.1, (congrArg (fun z => z) hfu3.2.2.2.2.2.2.2.2.2.1).trans hFS1.2.2.2.2.2.2.2.2.1, (congrArg (fun z => z) hfu3.2.2.2.2.2.2.2.2.2.2.1).trans hFS1.2.2.2.2.2.2.2.2.2.1, (congrArg (fun z => z) hfu3.2.2.2.2.2.2.2.2.2.2.2.1).trans hFS1.2.2.2.2.2.2.2.2.2.2.1, (congrArg (fun z => z) hfu3.2.2.2.2.2.2.2.2.2.2.2.2.1).trans hFS1.2.2.2.2.2.2.2.2.2.2.2.1, (congrArg (fun z => z) hfu3.2.2.2.2.2.2.2.2.2.2.2.2.2.1).trans hFS1.2.2.2.2.2.2.2.2.2.2.2.2.1, (congrArg (fun z => z) hfu3.2.2.2.2.2.2.2.2.2.2.2.2.2.2.1).trans hFS1.2.2.2.2.2.2.2.2.2.2.2.2.2.1, (congrArg (fun z => z) hfu3.2.2.2.2.2.2.2.2.2.2.2.2.2.2.2.1).trans hFS1.2.2.2.2.2.2.2.2.2.2.2.2.2.2.1, (congrArg (fun z => z) hfu3.2.2.2.2.2.2.2.2.2.2.2.2.2.2.2.2.1).trans hFS1.2.2.2.2.2.2.2.2.2.2.2.2.2.2.2.1, (congrArg (fun z => z) hfu3.2.2.2.2.2.2.2.2.2.2.2.2.2.2.2.2.2.1).trans hFS1.2.2.2.2.2.2.2.2.2.2.2.2.2.2.2.2.1, (congrArg (fun z => z) hfu3.2.2.2.2.2.2.2.2.2.2.2.2.2.2.2.2.2.2.1).trans hFS1.2.2.2.2.2.2.2.2.2.2.2.2.2.2.2.2.2.1, (congrArg (fun z => z) hfu3.2.2.2.2.2.2.2.2.2.2.2.2.2.2.2.2.2.2.2.1).trans hFS1.2.2.2.2.2.2.2.2.2.2.2.2.2.2.2.2.2.2.1, (congrArg (fun z => z) hfu3.2.2.2.2.2.2.2.2.2.2.2.2.2.2.2.2.2.2.2.2.1).trans hFS1.2.2.2.2.2.2.2.2.2.2.2.2.2.2.2.2.2.2.2.1, (congrArg (fun z => z) hfu3.2.2.2.2.2.2.2.2.2.2.2.2.2.2.2.2.2.2.2.2.2.1).trans hFS1.2.2.2.2.2.2.2.2.2.2.2.2.2.2.2.2.2.2.2.2.1, (congrArg (fun z => z) hfu3.2.2.2.2.2.2.2.2.2.2.2.2.2.2.2.2.2.2.2.2.2.2.1).trans hFS1.2.2.2.2.2.2.2.2.2.2.2.2.2.2.2.2.2.2.2.2.2.1, (congrArg (fun z => z) hfu3.2.2.2.2.2.2.2.2.2.2.2.2.2.2.2.2.2.2.2.2.2.2.2.1).trans hFS1.2.2.2.2.2.2.2.2.2.2.2.2.2.2.2.2.2.2.2.2.2.2.1, (congrArg (fun z => z) hfu3.2.2.2.2.2.2.2.2.2.2.2.2.2.2.2.2.2.2.2.2.2.2.2.2.1).trans hFS1.2.2.2.2.2.2.2.2.2.2.2.2.2.2.2.2.2.2.2.2.2.2.2.1, (congrArg (fun z => z) hfu3.2.2.2.2.2.2.2.2.2.2.2.2.2.2.2.2.2.2.2.2.2.2.2.2.2.1).trans hFS1.2.2.2.2.2.2.2.2.2.2.2.2.2.2.2.2.2.2.2.2.2.2.2.2.1, (congrArg (fun z => z) hfu3.2.2.2.2.2.2.2.2.2.2.2.2.2.2.2.2.2.2.2.2.2.2.2.2.2.2).trans hFS1.2.2.2.2.2.2.2.2.2.2.2.2.2.2.2.2.2.2.2.2.2.2.2.2.2⟩
  have jf23 := J9g_itemMany hJu3
  have jf24 := J9g_levelMany hJu3
  have jf25 := J9g_nodeMany hJu3
  have je26 : ((b9g_taped u3)).toInt = ((b9g_taped S)).toInt := congrArg (fun z => (z).toInt) hFu3.2.2.2.2.2.2.1
  have jf27 := J9g_upperNodes hJu3
  have je28 : ((b9g_now u3) 1).toInt = ((b9g_now S) 1).toInt := congrArg (fun z => (z 1).toInt) hFu3.1
  have je29 : ((b9g_now u3) 4).toInt = ((b9g_now S) 4).toInt := congrArg (fun z => (z 4).toInt) hFu3.1
  have je30 : ((b9g_now u3) 8).toInt = ((b9g_now S) 8).toInt := congrArg (fun z => (z 8).toInt) hFu3.1
  have je31 : ((b9g_now u3) 9).toInt = ((b9g_now S) 9).toInt := congrArg (fun z => (z 9).toInt) hFu3.1
  have je32 : ((b9g_now u3) 10).toInt = ((b9g_now S) 10).toInt := congrArg (fun z => (z 10).toInt) hFu3.1
  have je33 : ((b9g_now u3) 12).toInt = ((b9g_now S) 12).toInt := congrArg (fun z => (z 12).toInt) hFu3.1
  have ju33_u3 := hJu3.2
  refine sf_X9_isIn hJu3.1 (fun r4 hzr4 hr4_0 => ?_)
  try simp (disch := first | ((try simp (disch := first | ((try simp only [pn]) <;> omega) | fail) only [pn, pq]) <;> omega) | fail) only [pn, pq] at hr4_0
  refine ⟨fun c6 => ?_, fun c6 => ?_⟩
  · try simp (disch := first | ((try simp (disch := first | ((try simp only [pn]) <;> omega) | fail) only [pn, pq]) <;> omega) | fail) only [pn, pq] at c6
    refine sf_X9_isIn hJu3.1 (fun r7 hzr7 hr7_0 => ?_)
    try simp (disch := first | ((try simp (disch := first | ((try simp only [pn]) <;> omega) | fail) only [pn, pq]) <;> omega) | fail) only [pn, pq] at hr7_0
    refine ⟨fun c9 => ?_, fun c9 => ?_⟩
    · try simp (disch := first | ((try simp (disch := first | ((try simp only [pn]) <;> omega) | fail) only [pn, pq]) <;> omega) | fail) only [pn, pq] at c9
      refine ⟨fun c10 => ?_, fun c10 => ?_⟩
      · try simp (disch := first | ((try simp (disch := first | ((try simp only [pn]) <;> omega) | fail) only [pn, pq]) <;> omega) | fail) only [pn, pq] at c10
        refine ⟨fun c11 => ?_, fun c11 => ?_⟩
        · try simp (disch := first | ((try simp (disch := first | ((try simp only [pn]) <;> omega) | fail) only [pn, pq]) <;> omega) | fail) only [pn, pq] at c11
          refine ⟨fun c12 => ?_, fun c12 => ?_⟩
          · try simp (disch := first | ((try simp (disch := first | ((try simp only [pn]) <;> omega) | fail) only [pn, pq]) <;> omega) | fail) only [pn, pq] at c12
            refine ⟨fun c13 => ?_, fun c13 => ?_⟩
            · try simp (disch := first | ((try simp (disch := first | ((try simp only [pn]) <;> omega) | fail) only [pn, pq]) <;> omega) | fail) only [pn, pq] at c13
              refine ⟨fun c14 => ?_, fun c14 => ?_⟩
              · try simp (disch := first | ((try simp (disch := first | ((try simp only [pn]) <;> omega) | fail) only [pn, pq]) <;> omega) | fail) only [pn, pq] at c14
                refine ⟨fun c15 => ?_, fun c15 => ?_⟩
                · try simp (disch := first | ((try simp (disch := first | ((try simp only [pn]) <;> omega) | fail) only [pn, pq]) <;> omega) | fail) only [pn, pq] at c15
                  refine ⟨fun c16 => ?_, fun c16 => ?_⟩
                  · try simp (disch := first | ((try simp (disch := first | ((try simp only [pn]) <;> omega) | fail) only [pn, pq]) <;> omega) | fail) only [pn, pq] at c16
                    refine ⟨fun c17 => ?_, fun c17 => ?_⟩
                    · try simp (disch := first | ((try simp (disch := first | ((try simp only [pn]) <;> omega) | fail) only [pn, pq]) <;> omega) | fail) only [pn, pq] at c17
                      refine ⟨fun c18 => ?_, fun c18 => ?_⟩
                      · try simp (disch := first | ((try simp (disch := first | ((try simp only [pn]) <;> omega) | fail) only [pn, pq]) <;> omega) | fail) only [pn, pq] at c18
                        refine ⟨fun c19 => ?_, fun c19 => ?_⟩
                        · try simp (disch := first | ((try simp (disch := first | ((try simp only [pn]) <;> omega) | fail) only [pn, pq]) <;> omega) | fail) only [pn, pq] at c19
                          refine ⟨fun c20 => ?_, fun c20 => ?_⟩
                          · try simp (disch := first | ((try simp (disch := first | ((try simp only [pn]) <;> omega) | fail) only [pn, pq]) <;> omega) | fail) only [pn, pq] at c20
                            exact hq _ _ hJu3 hFu3 
                          · try simp (disch := first | ((try simp (disch := first | ((try simp only [pn]) <;> omega) | fail) only [pn, pq]) <;> omega) | fail) only [pn, pq] at c20
                            refine sf_X9_beginningBytes hJu3.1 (fun r21  => ?_)
                            have rgr21 := pt_rg r21
                            exact hq _ _ hJu3 hFu3 
                        · try simp (disch := first | ((try simp (disch := first | ((try simp only [pn]) <;> omega) | fail) only [pn, pq]) <;> omega) | fail) only [pn, pq] at c19
                          refine sf_X9_endedMany hJu3.1 (fun r23  => ?_)
                          have rgr23 := pt_rg r23
                          exact hq _ _ hJu3 hFu3 
                      · try simp (disch := first | ((try simp (disch := first | ((try simp only [pn]) <;> omega) | fail) only [pn, pq]) <;> omega) | fail) only [pn, pq] at c18
                        exact hq _ _ hJu3 hFu3 
                    · try simp (disch := first | ((try simp (disch := first | ((try simp only [pn]) <;> omega) | fail) only [pn, pq]) <;> omega) | fail) only [pn, pq] at c17
                      refine ⟨pt_in (by (try simp (disch := first | ((try simp (disch := first | ((try simp only [pn]) <;> omega) | fail) only [pn, pq]) <;> omega) | fail) only [pn, pq]) <;> (intros; (try simp (disch := first | ((try simp (disch := first | ((try simp only [pn]) <;> omega) | fail) only [pn, pq]) <;> omega) | fail) only [pn, pq]) <;> omega)) (by (try simp (disch := first | ((try simp (disch := first | ((try simp only [pn]) <;> omega) | fail) only [pn, pq]) <;> omega) | fail) only [pn, pq]) <;> (intros; (try simp (disch := first | ((try simp (disch := first | ((try simp only [pn]) <;> omega) | fail) only [pn, pq]) <;> omega) | fail) only [pn, pq]) <;> omega)), ?_⟩
                      exact hq _ _ hJu3 hFu3 
                  · try simp (disch := first | ((try simp (disch := first | ((try simp only [pn]) <;> omega) | fail) only [pn, pq]) <;> omega) | fail) only [pn, pq] at c16
                    refine sf_X9_nextBits hJu3.1 (fun r25 hr25_0 hr25_1 => ?_)
                    have rgr25 := pt_rg r25
                    try simp (disch := first | ((try simp (disch := first | ((try simp only [pn]) <;> omega) | fail) only [pn, pq]) <;> omega) | fail) only [pn, pq] at hr25_0
                    try simp (disch := first | ((try simp (disch := first | ((try simp only [pn]) <;> omega) | fail) only [pn, pq]) <;> omega) | fail) only [pn, pq] at hr25_1
                    exact hq _ _ hJu3 hFu3 
                · try simp (disch := first | ((try simp (disch := first | ((try simp only [pn]) <;> omega) | fail) only [pn, pq]) <;> omega) | fail) only [pn, pq] at c15
                  refine sf_X9_hashBits hJu3.1 (fun r27  => ?_)
                  have rgr27 := pt_rg r27
                  exact hq _ _ hJu3 hFu3 
              · try simp (disch := first | ((try simp (disch := first | ((try simp only [pn]) <;> omega) | fail) only [pn, pq]) <;> omega) | fail) only [pn, pq] at c14
                exact hq _ _ hJu3 hFu3 
            · try simp (disch := first | ((try simp (disch := first | ((try simp only [pn]) <;> omega) | fail) only [pn, pq]) <;> omega) | fail) only [pn, pq] at c13
              exact hq _ _ hJu3 hFu3 
          · try simp (disch := first | ((try simp (disch := first | ((try simp only [pn]) <;> omega) | fail) only [pn, pq]) <;> omega) | fail) only [pn, pq] at c12
            exact hq _ _ hJu3 hFu3 
        · try simp (disch := first | ((try simp (disch := first | ((try simp only [pn]) <;> omega) | fail) only [pn, pq]) <;> omega) | fail) only [pn, pq] at c11
          exact hq _ _ hJu3 hFu3 
      · try simp (disch := first | ((try simp (disch := first | ((try simp only [pn]) <;> omega) | fail) only [pn, pq]) <;> omega) | fail) only [pn, pq] at c10
        exact hq _ _ hJu3 hFu3 
    · try simp (disch := first | ((try simp (disch := first | ((try simp only [pn]) <;> omega) | fail) only [pn, pq]) <;> omega) | fail) only [pn, pq] at c9
      refine ⟨pt_in (by (try simp (disch := first | ((try simp (disch := first | ((try simp only [pn]) <;> omega) | fail) only [pn, pq]) <;> omega) | fail) only [pn, pq]) <;> (intros; (try simp (disch := first | ((try simp (disch := first | ((try simp only [pn]) <;> omega) | fail) only [pn, pq]) <;> omega) | fail) only [pn, pq]) <;> omega)) (by (try simp (disch := first | ((try simp (disch := first | ((try simp only [pn]) <;> omega) | fail) only [pn, pq]) <;> omega) | fail) only [pn, pq]) <;> (intros; (try simp (disch := first | ((try simp (disch := first | ((try simp only [pn]) <;> omega) | fail) only [pn, pq]) <;> omega) | fail) only [pn, pq]) <;> omega)), ?_⟩
      have jr35 := NW_at (J9g_now hJu3) (a1)
      try simp (disch := first | ((try simp (disch := first | ((try simp only [pn]) <;> omega) | fail) only [pn, pq]) <;> omega) | fail) only [pn, pq] at jr35
      exact hq _ _ hJu3 hFu3 
  · try simp (disch := first | ((try simp (disch := first | ((try simp only [pn]) <;> omega) | fail) only [pn, pq]) <;> omega) | fail) only [pn, pq] at c6
    refine sf_X9_settingOf hJu3.1 (by (try simp (disch := first | ((try simp (disch := first | ((try simp only [pn]) <;> omega) | fail) only [pn, pq]) <;> omega) | fail) only [pn, pq]) <;> (intros; (try simp (disch := first | ((try simp (disch := first | ((try simp only [pn]) <;> omega) | fail) only [pn, pq]) <;> omega) | fail) only [pn, pq]) <;> omega)) (by (try simp (disch := first | ((try simp (disch := first | ((try simp only [pn]) <;> omega) | fail) only [pn, pq]) <;> omega) | fail) only [pn, pq]) <;> (intros; (try simp (disch := first | ((try simp (disch := first | ((try simp only [pn]) <;> omega) | fail) only [pn, pq]) <;> omega) | fail) only [pn, pq]) <;> omega)) (fun r29 hr29_0 hr29_1 => ?_)
    have rgr29 := pt_rg r29
    try simp (disch := first | ((try simp (disch := first | ((try simp only [pn]) <;> omega) | fail) only [pn, pq]) <;> omega) | fail) only [pn, pq] at hr29_0
    try simp (disch := first | ((try simp (disch := first | ((try simp only [pn]) <;> omega) | fail) only [pn, pq]) <;> omega) | fail) only [pn, pq] at hr29_1
    exact hq _ _ hJu3 hFu3 
