def F_X8_report (S u : bT8) : Prop := (b8g_now u) = (b8g_now S) ∧ (b8g_kept u) = (b8g_kept S) ∧ (b8g_isKept u) = (b8g_isKept S) ∧ (b8g_leaves u) = (b8g_leaves S) ∧ (b8g_tree u) = (b8g_tree S) ∧ (b8g_tuning u) = (b8g_tuning S) ∧ (b8g_trial u) = (b8g_trial S) ∧ (b8g_tape u) = (b8g_tape S) ∧ (b8g_chosenRow u) = (b8g_chosenRow S)
set_option maxRecDepth 20000 in
set_option maxHeartbeats 1000000 in
theorem sf_X8_report {S : bT8} (hJ : J8 S) {a1 : Int32} {Q : Int32 → (bT8) → Prop} (hq : ∀ (r : Int32) (u : bT8), (J8 u) → F_X8_report S u → Q r u) : wp_X8_report S a1 Q := by
  unfold wp_X8_report
  have hFS : F_X8_report S S := ⟨rfl, rfl, rfl, rfl, rfl, rfl, rfl, rfl, rfl⟩
  have jf1 := J5g_length (J8g_text hJ)
  have rga1 := pt_rg a1
  refine ⟨fun c1 => ?_, fun c1 => ?_⟩
  · try simp (disch := first | ((try simp (disch := first | ((try simp only [pn]) <;> omega) | fail) only [pn, pq]) <;> omega) | fail) only [pn, pq] at c1
    exact hq _ _ hJ hFS 
  · try simp (disch := first | ((try simp (disch := first | ((try simp only [pn]) <;> omega) | fail) only [pn, pq]) <;> omega) | fail) only [pn, pq] at c1
    refine sf_X1_count (J8g_leaves hJ) (fun r2 hr2_0 => ?_)
    have rgr2 := pt_rg r2
    try simp (disch := first | ((try simp (disch := first | ((try simp only [pn]) <;> omega) | fail) only [pn, pq]) <;> omega) | fail) only [pn, pq] at hr2_0
    refine ⟨fun c4 => ?_, fun c4 => ?_⟩
    · try simp (disch := first | ((try simp (disch := first | ((try simp only [pn]) <;> omega) | fail) only [pn, pq]) <;> omega) | fail) only [pn, pq] at c4
      intro S5 eS5
      have hJS5 : J8 S5 := by rw [eS5]; exact (J8s_text hJ (J5s_length (J8g_text hJ) ⟨(by (try simp (disch := first | ((try simp (disch := first | ((try simp only [pn]) <;> omega) | fail) only [pn, pq]) <;> omega) | fail) only [pn, pq]) <;> (intros; (try simp (disch := first | ((try simp (disch := first | ((try simp only [pn]) <;> omega) | fail) only [pn, pq]) <;> omega) | fail) only [pn, pq]) <;> omega)), (by (try simp (disch := first | ((try simp (disch := first | ((try simp only [pn]) <;> omega) | fail) only [pn, pq]) <;> omega) | fail) only [pn, pq]) <;> (intros; (try simp (disch := first | ((try simp (disch := first | ((try simp only [pn]) <;> omega) | fail) only [pn, pq]) <;> omega) | fail) only [pn, pq]) <;> omega))⟩))
      have hFS5 : F_X8_report S S5 := by rw [eS5]; exact hFS
      have je2 : ((b5g_length (b8g_text S5))).toInt = ((0 : Int32)).toInt := by rw [eS5]
      try simp (disch := first | ((try simp (disch := first | ((try simp only [pn]) <;> omega) | fail) only [pn, pq]) <;> omega) | fail) only [pn, pq] at je2
      have jf3 := J5g_length (J8g_text hJS5)
      refine ⟨fun c6 => ?_, fun c6 => ?_⟩
      · try simp (disch := first | ((try simp (disch := first | ((try simp only [pn]) <;> omega) | fail) only [pn, pq]) <;> omega) | fail) only [pn, pq] at c6
        refine sf_X8_tellLeaf hJS5 (fun u8 hJu8 hfu8  => ?_)
        have hFu8 : F_X8_report S u8 := ⟨(congrArg (fun z => z) hfu8.1).trans hFS5.1, (congrArg (fun z => z) hfu8.2.1).trans hFS5.2.1, (congrArg (fun z => z) hfu8.2.2.1).trans hFS5.2.2.1, (congrArg (fun z => z) hfu8.2.2.2.1).trans hFS5.2.2.2.1, (congrArg (fun z => z) hfu8.2.2.2.2.1).trans hFS5.2.2.2.2.1, (congrArg (fun z => z) hfu8.2.2.2.2.2.1).trans hFS5.2.2.2.2.2.1, (congrArg (fun z => z) hfu8.2.2.2.2.2.2.1).trans hFS5.2.2.2.2.2.2.1, (congrArg (fun z => z) hfu8.2.2.2.2.2.2.2.1).trans hFS5.2.2.2.2.2.2.2.1, (congrArg (fun z => z) hfu8.2.2.2.2.2.2.2.2).trans hFS5.2.2.2.2.2.2.2.2⟩
        have jf4 := J5g_length (J8g_text hJu8)
        exact hq _ _ hJu8 hFu8 
      · try simp (disch := first | ((try simp (disch := first | ((try simp only [pn]) <;> omega) | fail) only [pn, pq]) <;> omega) | fail) only [pn, pq] at c6
        refine sf_X8_tellFilter hJS5 (fun u10 hJu10 hfu10  => ?_)
        have hFu10 : F_X8_report S u10 := ⟨(congrArg (fun z => z) hfu10.1).trans hFS5.1, (congrArg (fun z => z) hfu10.2.1).trans hFS5.2.1, (congrArg (fun z => z) hfu10.2.2.1).trans hFS5.2.2.1, (congrArg (fun z => z) hfu10.2.2.2.1).trans hFS5.2.2.2.1, (congrArg (fun z => z) hfu10.2.2.2.2.1).trans hFS5.2.2.2.2.1, (congrArg (fun z => z) hfu10.2.2.2.2.2.1).trans hFS5.2.2.2.2.2.1, (congrArg (fun z => z) hfu10.2.2.2.2.2.2.1).trans hFS5.2.2.2.2.2.2.1, (congrArg (fun z => z) hfu10.2.2.2.2.2.2.2.1).trans hFS5.2.2.2.2.2.2.2.1, (congrArg (fun z => z) hfu10.2.2.2.2.2.2.2.2).trans hFS5.2.2.2.2.2.2.2.2⟩
        have jf5 := J5g_length (J8g_text hJu10)
        exact hq _ _ hJu10 hFu10 
    · try simp (disch := first | ((try simp (disch := first | ((try simp only [pn]) <;> omega) | fail) only [pn, pq]) <;> omega) | fail) only [pn, pq] at c4
      exact hq _ _ hJ hFS 
set_option maxRecDepth 20000 in
set_option maxHeartbeats 1000000 in
theorem sf_X8_sign {S : bT8} (hJ : J8 S) {a1 : Int32} {Q : Int32 → Prop} (hq : ∀ r : Int32, Q r) : wp_X8_sign S a1 Q := by
  unfold wp_X8_sign
  have rga1 := pt_rg a1
  refine sf_X5_signAt (J8g_text hJ) (fun r1  => ?_)
  have rgr1 := pt_rg r1
  exact hq _ 
def F_X8_image (S u : bT8) : Prop := (b8g_tuning u) = (b8g_tuning S) ∧ (b8g_trial u) = (b8g_trial S) ∧ (b8g_tape u) = (b8g_tape S) ∧ (b8g_text u) = (b8g_text S) ∧ (b8g_chosenRow u) = (b8g_chosenRow S)
set_option maxRecDepth 20000 in
set_option maxHeartbeats 1000000 in
theorem sf_X8_image {S : bT8} (hJ : J8 S) {a1 : Int32} {Q : Int32 → (bT8) → Prop} (hq : ∀ (r : Int32) (u : bT8), (J8 u) → F_X8_image S u → bf_bool r → ((a1.toInt ≠ 0 ∧ r.toInt = 1 ∧ (b8g_isKept u).toInt = 1 ∧ (b0g_count (b2g_questions (b8g_now u))).toInt = (b0g_count (b2g_questions (b8g_now S))).toInt ∧ (b0g_count (b2g_questions (b8g_kept u))).toInt = (b0g_count (b2g_questions (b8g_now S))).toInt) ∨ (a1.toInt = 0 ∧ (b8g_isKept S).toInt = 0 ∧ r.toInt = 0 ∧ (b8g_isKept u).toInt = 0 ∧ (b0g_count (b2g_questions (b8g_now u))).toInt = (b0g_count (b2g_questions (b8g_now S))).toInt ∧ (b0g_count (b2g_questions (b8g_kept u))).toInt = (b0g_count (b2g_questions (b8g_kept S))).toInt) ∨ (a1.toInt = 0 ∧ (b8g_isKept S).toInt ≠ 0 ∧ r.toInt = (b8g_isKept S).toInt ∧ (b8g_isKept u).toInt = (b8g_isKept S).toInt ∧ (b0g_count (b2g_questions (b8g_now u))).toInt = (b0g_count (b2g_questions (b8g_kept S))).toInt ∧ (b0g_count (b2g_questions (b8g_kept u))).toInt = (b0g_count (b2g_questions (b8g_kept S))).toInt)) → Q r u) : wp_X8_image S a1 Q := by
  unfold wp_X8_image
  have hFS : F_X8_image S S := ⟨rfl, rfl, rfl, rfl, rfl⟩
  have jf1 := J0g_count (J2g_questions (J8g_now hJ))
  have jf2 := J0g_count (J2g_questions (J8g_kept hJ))
  have rga1 := pt_rg a1
  refine ⟨fun c1 => ?_, fun c1 => ?_⟩
  · try simp (disch := first | ((try simp (disch := first | ((try simp only [pn]) <;> omega) | fail) only [pn, pq]) <;> omega) | fail) only [pn, pq] at c1
    refine ⟨fun c2 => ?_, fun c2 => ?_⟩
    · try simp (disch := first | ((try simp (disch := first | ((try simp only [pn]) <;> omega) | fail) only [pn, pq]) <;> omega) | fail) only [pn, pq] at c2
      exact ⟨by first | rfl | assumption | exact J8g_isKept hJ, hq _ _ hJ hFS (by first | rfl | assumption | exact J8g_isKept hJ) (by (try simp (disch := first | ((try simp (disch := first | ((try simp only [pn]) <;> omega) | fail) only [pn, pq]) <;> omega) | fail) only [pn, pq]) <;> (intros; (try simp (disch := first | ((try simp (disch := first | ((try simp only [pn]) <;> omega) | fail) only [pn, pq]) <;> omega) | fail) only [pn, pq]) <;> omega))⟩
    · try simp (disch := first | ((try simp (disch := first | ((try simp only [pn]) <;> omega) | fail) only [pn, pq]) <;> omega) | fail) only [pn, pq] at c2
      refine sf_X2_copyFrom (S := ((b8g_now S), (b8g_kept S))) ⟨(J8g_now hJ), (J8g_kept hJ)⟩ (fun u4 hJu4 hfu4 hr3_0 hr3_1 => ?_)
      have je4 : ((b0g_count (b2g_questions u4.2))).toInt = ((b0g_count (b2g_questions (b8g_kept S)))).toInt := congrArg (fun z => ((b0g_count (b2g_questions z))).toInt) hfu4
      try simp (disch := first | ((try simp (disch := first | ((try simp only [pn]) <;> omega) | fail) only [pn, pq]) <;> omega) | fail) only [pn, pq] at hr3_0
      try simp (disch := first | ((try simp (disch := first | ((try simp only [pn]) <;> omega) | fail) only [pn, pq]) <;> omega) | fail) only [pn, pq] at hr3_1
      intro S5 eS5
      have hGS5 : F_X8_image S S5 := by
        rw [eS5]
        exact ⟨hFS.1, hFS.2.1, hFS.2.2.1, hFS.2.2.2.1, hFS.2.2.2.2⟩
      have hJS5 : J8 S5 := by rw [eS5]; exact (J8s_kept (J8s_now hJ hJu4.1) hJu4.2)
      have hFS5 : F_X8_image S S5 := hGS5
      have je5 : ((b8g_isKept S5)).toInt = ((b8g_isKept S)).toInt := by rw [eS5]
      have je6 : ((b0g_count (b2g_questions (b8g_now S5)))).toInt = ((b0g_count (b2g_questions u4.1))).toInt := by rw [eS5]
      try simp (disch := first | ((try simp (disch := first | ((try simp only [pn]) <;> omega) | fail) only [pn, pq]) <;> omega) | fail) only [pn, pq] at je6
      have jf7 := J0g_count (J2g_questions (J8g_now hJS5))
      have je8 : ((b0g_count (b2g_questions (b8g_kept S5)))).toInt = ((b0g_count (b2g_questions u4.2))).toInt := by rw [eS5]
      try simp (disch := first | ((try simp (disch := first | ((try simp only [pn]) <;> omega) | fail) only [pn, pq]) <;> omega) | fail) only [pn, pq] at je8
      have jf9 := J0g_count (J2g_questions (J8g_kept hJS5))
      refine sf_X8_rebuild hJS5 (fun u7 hJu7 hfu7  => ?_)
      have hFu7 : F_X8_image S u7 := ⟨(congrArg (fun z => z) hfu7.2.2.2.1).trans hFS5.1, (congrArg (fun z => z) hfu7.2.2.2.2.1).trans hFS5.2.1, (congrArg (fun z => z) hfu7.2.2.2.2.2.1).trans hFS5.2.2.1, (congrArg (fun z => z) hfu7.2.2.2.2.2.2.1).trans hFS5.2.2.2.1, (congrArg (fun z => z) hfu7.2.2.2.2.2.2.2).trans hFS5.2.2.2.2⟩
      have je10 : ((b8g_isKept u7)).toInt = ((b8g_isKept S5)).toInt := congrArg (fun z => (z).toInt) hfu7.2.2.1
      have je11 : ((b0g_count (b2g_questions (b8g_now u7)))).toInt = ((b0g_count (b2g_questions (b8g_now S5)))).toInt := congrArg (fun z => ((b0g_count (b2g_questions z))).toInt) hfu7.1
      have jf12 := J0g_count (J2g_questions (J8g_now hJu7))
      have je13 : ((b0g_count (b2g_questions (b8g_kept u7)))).toInt = ((b0g_count (b2g_questions (b8g_kept S5)))).toInt := congrArg (fun z => ((b0g_count (b2g_questions z))).toInt) hfu7.2.1
      have jf14 := J0g_count (J2g_questions (J8g_kept hJu7))
      exact ⟨by first | rfl | assumption | exact J8g_isKept hJu7, hq _ _ hJu7 hFu7 (by first | rfl | assumption | exact J8g_isKept hJu7) (by (try simp (disch := first | ((try simp (disch := first | ((try simp only [pn]) <;> omega) | fail) only [pn, pq]) <;> omega) | fail) only [pn, pq]) <;> (intros; (try simp (disch := first | ((try simp (disch := first | ((try simp only [pn]) <;> omega) | fail) only [pn, pq]) <;> omega) | fail) only [pn, pq]) <;> omega))⟩
  · try simp (disch := first | ((try simp (disch := first | ((try simp only [pn]) <;> omega) | fail) only [pn, pq]) <;> omega) | fail) only [pn, pq] at c1
    refine sf_X2_copyFrom (S := ((b8g_kept S), (b8g_now S))) ⟨(J8g_kept hJ), (J8g_now hJ)⟩ (fun u9 hJu9 hfu9 hr8_0 hr8_1 => ?_)
    have je16 : ((b0g_count (b2g_questions u9.2))).toInt = ((b0g_count (b2g_questions (b8g_now S)))).toInt := congrArg (fun z => ((b0g_count (b2g_questions z))).toInt) hfu9
    try simp (disch := first | ((try simp (disch := first | ((try simp only [pn]) <;> omega) | fail) only [pn, pq]) <;> omega) | fail) only [pn, pq] at hr8_0
    try simp (disch := first | ((try simp (disch := first | ((try simp only [pn]) <;> omega) | fail) only [pn, pq]) <;> omega) | fail) only [pn, pq] at hr8_1
    intro S10 eS10
    have hGS10 : F_X8_image S S10 := by
      rw [eS10]
      exact ⟨hFS.1, hFS.2.1, hFS.2.2.1, hFS.2.2.2.1, hFS.2.2.2.2⟩
    have hJS10 : J8 S10 := by rw [eS10]; exact (J8s_now (J8s_kept hJ hJu9.1) hJu9.2)
    have hFS10 : F_X8_image S S10 := hGS10
    have je17 : ((b8g_isKept S10)).toInt = ((b8g_isKept S)).toInt := by rw [eS10]
    have je18 : ((b0g_count (b2g_questions (b8g_now S10)))).toInt = ((b0g_count (b2g_questions u9.2))).toInt := by rw [eS10]
    try simp (disch := first | ((try simp (disch := first | ((try simp only [pn]) <;> omega) | fail) only [pn, pq]) <;> omega) | fail) only [pn, pq] at je18
    have jf19 := J0g_count (J2g_questions (J8g_now hJS10))
    have je20 : ((b0g_count (b2g_questions (b8g_kept S10)))).toInt = ((b0g_count (b2g_questions u9.1))).toInt := by rw [eS10]
    try simp (disch := first | ((try simp (disch := first | ((try simp only [pn]) <;> omega) | fail) only [pn, pq]) <;> omega) | fail) only [pn, pq] at je20
    have jf21 := J0g_count (J2g_questions (J8g_kept hJS10))
    intro S11 eS11
    have hJS11 : J8 S11 := by rw [eS11]; exact (J8s_isKept hJS10 rfl)
    have hFS11 : F_X8_image S S11 := by rw [eS11]; exact hFS10
    have je22 : ((b8g_isKept S11)).toInt = ((1 : Int32)).toInt := by rw [eS11]
    try simp (disch := first | ((try simp (disch := first | ((try simp only [pn]) <;> omega) | fail) only [pn, pq]) <;> omega) | fail) only [pn, pq] at je22
    have je23 : ((b0g_count (b2g_questions (b8g_now S11)))).toInt = ((b0g_count (b2g_questions (b8g_now S10)))).toInt := by rw [eS11]
    have jf24 := J0g_count (J2g_questions (J8g_now hJS11))
    have je25 : ((b0g_count (b2g_questions (b8g_kept S11)))).toInt = ((b0g_count (b2g_questions (b8g_kept S10)))).toInt := by rw [eS11]
    have jf26 := J0g_count (J2g_questions (J8g_kept hJS11))
    exact ⟨by first | rfl | assumption | exact J8g_isKept hJS11, hq _ _ hJS11 hFS11 (by first | rfl | assumption | exact J8g_isKept hJS11) (by (try simp (disch := first | ((try simp (disch := first | ((try simp only [pn]) <;> omega) | fail) only [pn, pq]) <;> omega) | fail) only [pn, pq]) <;> (intros; (try simp (disch := first | ((try simp (disch := first | ((try simp only [pn]) <;> omega) | fail) only [pn, pq]) <;> omega) | fail) only [pn, pq]) <;> omega))⟩
set_option maxRecDepth 20000 in
set_option maxHeartbeats 1000000 in
theorem sf_X8_look {S : bT8} (hJ : J8 S) {a1 : Int32} {Q : Int32 → Prop} (hq : ∀ r : Int32, Q r) : wp_X8_look S a1 Q := by
  unfold wp_X8_look
  have jf1 := J0g_count (J3g_members (J2g_told (J8g_now hJ)))
  have jf2 := J0g_count (J2g_questions (J8g_now hJ))
  have jf3 := J6g_levels (J8g_tree hJ)
  have jf4 := J6g_nodes (J8g_tree hJ)
  have jf5 := J4g_count (J8g_tape hJ)
  have rga1 := pt_rg a1
  refine ⟨fun c => ?_, fun c => ?_, fun c => ?_, fun c => ?_, fun c => ?_, fun c => ?_, fun c => ?_, fun c => ?_, fun c => ?_, fun c => ?_, fun c => ?_, fun c => ?_, fun c => ?_, fun c => ?_, fun c => ?_, fun c => ?_⟩
  · skip
    refine ⟨fun c1 => ?_, fun c1 => ?_⟩
    · try simp (disch := first | ((try simp (disch := first | ((try simp only [pn]) <;> omega) | fail) only [pn, pq]) <;> omega) | fail) only [pn, pq] at c1
      exact hq _ 
    · try simp (disch := first | ((try simp (disch := first | ((try simp only [pn]) <;> omega) | fail) only [pn, pq]) <;> omega) | fail) only [pn, pq] at c1
      refine ⟨fun c2 => ?_, fun c2 => ?_⟩
      · try simp (disch := first | ((try simp (disch := first | ((try simp only [pn]) <;> omega) | fail) only [pn, pq]) <;> omega) | fail) only [pn, pq] at c2
        exact hq _ 
      · try simp (disch := first | ((try simp (disch := first | ((try simp only [pn]) <;> omega) | fail) only [pn, pq]) <;> omega) | fail) only [pn, pq] at c2
        refine sf_X8_at (by decide) (fun r3 hr3_0 => ?_)
        have rgr3 := pt_rg r3
        try simp (disch := first | ((try simp (disch := first | ((try simp only [pn]) <;> omega) | fail) only [pn, pq]) <;> omega) | fail) only [pn, pq] at hr3_0
        exact hq _ 
  · skip
    exact hq _ 
  · skip
    exact hq _ 
  · skip
    exact hq _ 
  · skip
    refine sf_X1_count (J8g_leaves hJ) (fun r5 hr5_0 => ?_)
    have rgr5 := pt_rg r5
    try simp (disch := first | ((try simp (disch := first | ((try simp only [pn]) <;> omega) | fail) only [pn, pq]) <;> omega) | fail) only [pn, pq] at hr5_0
    exact hq _ 
  · skip
    exact hq _ 
  · skip
    exact hq _ 
  · skip
    exact hq _ 
  · skip
    exact hq _ 
  · skip
    refine sf_X6_items (J8g_tree hJ) (fun r7  => ?_)
    have rgr7 := pt_rg r7
    exact hq _ 
  · skip
    exact hq _ 
  · skip
    exact hq _ 
  · skip
    exact hq _ 
  · skip
    exact hq _ 
  · skip
    refine sf_X1_allEnded (J8g_leaves hJ) (fun r9  => ?_)
    have rgr9 := pt_rg r9
    exact hq _ 
  · skip
    refine sf_X1_allBytes (J8g_leaves hJ) (fun r11  => ?_)
    have rgr11 := pt_rg r11
    exact hq _ 
set_option maxRecDepth 20000 in
set_option maxHeartbeats 1000000 in
theorem sf_X9_isIn {S : bT9} (hJ : K9 S) {a1 : Int32} {a2 : Int32} {a3 : Int32} {Q : Int32 → Prop} (hq : ∀ r : Int32, bf_bool r → ((r.toInt = 1 ∧ a2.toInt ≤ a1.toInt ∧ a1.toInt ≤ a3.toInt) ∨ (r.toInt = 0 ∧ (a1.toInt < a2.toInt ∨ a3.toInt < a1.toInt))) → Q r) : wp_X9_isIn S a1 a2 a3 Q := by
  unfold wp_X9_isIn
  have jf1 : (-4 ≤ ((b9g_now S) 1).toInt ∧ ((b9g_now S) 1).toInt ≤ 4) ∧ (-3 ≤ ((b9g_now S) 4).toInt ∧ ((b9g_now S) 4).toInt ≤ 252) ∧ (0 ≤ ((b9g_now S) 8).toInt ∧ ((b9g_now S) 8).toInt ≤ 64) ∧ (0 ≤ ((b9g_now S) 9).toInt ∧ ((b9g_now S) 9).toInt ≤ 64) ∧ (0 ≤ ((b9g_now S) 10).toInt ∧ ((b9g_now S) 10).toInt ≤ 16) ∧ (0 ≤ ((b9g_now S) 12).toInt ∧ ((b9g_now S) 12).toInt ≤ 8) := K9g_now hJ
  have rga1 := pt_rg a1
  have rga2 := pt_rg a2
  have rga3 := pt_rg a3
  refine ⟨fun c1 => ?_, fun c1 => ?_⟩
  · try simp (disch := first | ((try simp (disch := first | ((try simp only [pn]) <;> omega) | fail) only [pn, pq]) <;> omega) | fail) only [pn, pq] at c1
    exact ⟨by first | rfl | assumption, hq _ (by first | rfl | assumption) (by (try simp (disch := first | ((try simp (disch := first | ((try simp only [pn]) <;> omega) | fail) only [pn, pq]) <;> omega) | fail) only [pn, pq]) <;> (intros; (try simp (disch := first | ((try simp (disch := first | ((try simp only [pn]) <;> omega) | fail) only [pn, pq]) <;> omega) | fail) only [pn, pq]) <;> omega))⟩
  · try simp (disch := first | ((try simp (disch := first | ((try simp only [pn]) <;> omega) | fail) only [pn, pq]) <;> omega) | fail) only [pn, pq] at c1
    refine ⟨fun c2 => ?_, fun c2 => ?_⟩
    · try simp (disch := first | ((try simp (disch := first | ((try simp only [pn]) <;> omega) | fail) only [pn, pq]) <;> omega) | fail) only [pn, pq] at c2
      exact ⟨by first | rfl | assumption, hq _ (by first | rfl | assumption) (by (try simp (disch := first | ((try simp (disch := first | ((try simp only [pn]) <;> omega) | fail) only [pn, pq]) <;> omega) | fail) only [pn, pq]) <;> (intros; (try simp (disch := first | ((try simp (disch := first | ((try simp only [pn]) <;> omega) | fail) only [pn, pq]) <;> omega) | fail) only [pn, pq]) <;> omega))⟩
    · try simp (disch := first | ((try simp (disch := first | ((try simp only [pn]) <;> omega) | fail) only [pn, pq]) <;> omega) | fail) only [pn, pq] at c2
      exact ⟨by first | rfl | assumption, hq _ (by first | rfl | assumption) (by (try simp (disch := first | ((try simp (disch := first | ((try simp only [pn]) <;> omega) | fail) only [pn, pq]) <;> omega) | fail) only [pn, pq]) <;> (intros; (try simp (disch := first | ((try simp (disch := first | ((try simp only [pn]) <;> omega) | fail) only [pn, pq]) <;> omega) | fail) only [pn, pq]) <;> omega))⟩
set_option maxRecDepth 20000 in
set_option maxHeartbeats 1000000 in
theorem sf_X9_firstOf {S : bT9} (hJ : K9 S) {a1 : Int32} {Q : Int32 → Prop} (hq : ∀ r : Int32, (a1.toInt = 4 → r.toInt = 4) → (a1.toInt = 1 → r.toInt = 4) → (0 ≤ r.toInt) → (r.toInt ≤ 16) → Q r) : wp_X9_firstOf S a1 Q := by
  unfold wp_X9_firstOf
  have jf1 : (-4 ≤ ((b9g_now S) 1).toInt ∧ ((b9g_now S) 1).toInt ≤ 4) ∧ (-3 ≤ ((b9g_now S) 4).toInt ∧ ((b9g_now S) 4).toInt ≤ 252) ∧ (0 ≤ ((b9g_now S) 8).toInt ∧ ((b9g_now S) 8).toInt ≤ 64) ∧ (0 ≤ ((b9g_now S) 9).toInt ∧ ((b9g_now S) 9).toInt ≤ 64) ∧ (0 ≤ ((b9g_now S) 10).toInt ∧ ((b9g_now S) 10).toInt ≤ 16) ∧ (0 ≤ ((b9g_now S) 12).toInt ∧ ((b9g_now S) 12).toInt ≤ 8) := K9g_now hJ
  have rga1 := pt_rg a1
  refine ⟨fun c1 => ?_, fun c1 => ?_⟩
  · try simp (disch := first | ((try simp (disch := first | ((try simp only [pn]) <;> omega) | fail) only [pn, pq]) <;> omega) | fail) only [pn, pq] at c1
    exact hq _ (by (try simp (disch := first | ((try simp (disch := first | ((try simp only [pn]) <;> omega) | fail) only [pn, pq]) <;> omega) | fail) only [pn, pq]) <;> (intros; (try simp (disch := first | ((try simp (disch := first | ((try simp only [pn]) <;> omega) | fail) only [pn, pq]) <;> omega) | fail) only [pn, pq]) <;> omega)) (by (try simp (disch := first | ((try simp (disch := first | ((try simp only [pn]) <;> omega) | fail) only [pn, pq]) <;> omega) | fail) only [pn, pq]) <;> (intros; (try simp (disch := first | ((try simp (disch := first | ((try simp only [pn]) <;> omega) | fail) only [pn, pq]) <;> omega) | fail) only [pn, pq]) <;> omega)) (by (try simp (disch := first | ((try simp (disch := first | ((try simp only [pn]) <;> omega) | fail) only [pn, pq]) <;> omega) | fail) only [pn, pq]) <;> (intros; (try simp (disch := first | ((try simp (disch := first | ((try simp only [pn]) <;> omega) | fail) only [pn, pq]) <;> omega) | fail) only [pn, pq]) <;> omega)) (by (try simp (disch := first | ((try simp (disch := first | ((try simp only [pn]) <;> omega) | fail) only [pn, pq]) <;> omega) | fail) only [pn, pq]) <;> (intros; (try simp (disch := first | ((try simp (disch := first | ((try simp only [pn]) <;> omega) | fail) only [pn, pq]) <;> omega) | fail) only [pn, pq]) <;> omega))
  · try simp (disch := first | ((try simp (disch := first | ((try simp only [pn]) <;> omega) | fail) only [pn, pq]) <;> omega) | fail) only [pn, pq] at c1
    refine ⟨fun c2 => ?_, fun c2 => ?_⟩
    · try simp (disch := first | ((try simp (disch := first | ((try simp only [pn]) <;> omega) | fail) only [pn, pq]) <;> omega) | fail) only [pn, pq] at c2
      exact hq _ (by (try simp (disch := first | ((try simp (disch := first | ((try simp only [pn]) <;> omega) | fail) only [pn, pq]) <;> omega) | fail) only [pn, pq]) <;> (intros; (try simp (disch := first | ((try simp (disch := first | ((try simp only [pn]) <;> omega) | fail) only [pn, pq]) <;> omega) | fail) only [pn, pq]) <;> omega)) (by (try simp (disch := first | ((try simp (disch := first | ((try simp only [pn]) <;> omega) | fail) only [pn, pq]) <;> omega) | fail) only [pn, pq]) <;> (intros; (try simp (disch := first | ((try simp (disch := first | ((try simp only [pn]) <;> omega) | fail) only [pn, pq]) <;> omega) | fail) only [pn, pq]) <;> omega)) (by (try simp (disch := first | ((try simp (disch := first | ((try simp only [pn]) <;> omega) | fail) only [pn, pq]) <;> omega) | fail) only [pn, pq]) <;> (intros; (try simp (disch := first | ((try simp (disch := first | ((try simp only [pn]) <;> omega) | fail) only [pn, pq]) <;> omega) | fail) only [pn, pq]) <;> omega)) (by (try simp (disch := first | ((try simp (disch := first | ((try simp only [pn]) <;> omega) | fail) only [pn, pq]) <;> omega) | fail) only [pn, pq]) <;> (intros; (try simp (disch := first | ((try simp (disch := first | ((try simp only [pn]) <;> omega) | fail) only [pn, pq]) <;> omega) | fail) only [pn, pq]) <;> omega))
    · try simp (disch := first | ((try simp (disch := first | ((try simp only [pn]) <;> omega) | fail) only [pn, pq]) <;> omega) | fail) only [pn, pq] at c2
      refine ⟨fun c3 => ?_, fun c3 => ?_⟩
      · try simp (disch := first | ((try simp (disch := first | ((try simp only [pn]) <;> omega) | fail) only [pn, pq]) <;> omega) | fail) only [pn, pq] at c3
        refine ⟨fun c4 => ?_, fun c4 => ?_⟩
        · try simp (disch := first | ((try simp (disch := first | ((try simp only [pn]) <;> omega) | fail) only [pn, pq]) <;> omega) | fail) only [pn, pq] at c4
          refine ⟨fun c5 => ?_, fun c5 => ?_⟩
          · try simp (disch := first | ((try simp (disch := first | ((try simp only [pn]) <;> omega) | fail) only [pn, pq]) <;> omega) | fail) only [pn, pq] at c5
            exact hq _ (by (try simp (disch := first | ((try simp (disch := first | ((try simp only [pn]) <;> omega) | fail) only [pn, pq]) <;> omega) | fail) only [pn, pq]) <;> (intros; (try simp (disch := first | ((try simp (disch := first | ((try simp only [pn]) <;> omega) | fail) only [pn, pq]) <;> omega) | fail) only [pn, pq]) <;> omega)) (by (try simp (disch := first | ((try simp (disch := first | ((try simp only [pn]) <;> omega) | fail) only [pn, pq]) <;> omega) | fail) only [pn, pq]) <;> (intros; (try simp (disch := first | ((try simp (disch := first | ((try simp only [pn]) <;> omega) | fail) only [pn, pq]) <;> omega) | fail) only [pn, pq]) <;> omega)) (by (try simp (disch := first | ((try simp (disch := first | ((try simp only [pn]) <;> omega) | fail) only [pn, pq]) <;> omega) | fail) only [pn, pq]) <;> (intros; (try simp (disch := first | ((try simp (disch := first | ((try simp only [pn]) <;> omega) | fail) only [pn, pq]) <;> omega) | fail) only [pn, pq]) <;> omega)) (by (try simp (disch := first | ((try simp (disch := first | ((try simp only [pn]) <;> omega) | fail) only [pn, pq]) <;> omega) | fail) only [pn, pq]) <;> (intros; (try simp (disch := first | ((try simp (disch := first | ((try simp only [pn]) <;> omega) | fail) only [pn, pq]) <;> omega) | fail) only [pn, pq]) <;> omega))
          · try simp (disch := first | ((try simp (disch := first | ((try simp only [pn]) <;> omega) | fail) only [pn, pq]) <;> omega) | fail) only [pn, pq] at c5
            exact hq _ (by (try simp (disch := first | ((try simp (disch := first | ((try simp only [pn]) <;> omega) | fail) only [pn, pq]) <;> omega) | fail) only [pn, pq]) <;> (intros; (try simp (disch := first | ((try simp (disch := first | ((try simp only [pn]) <;> omega) | fail) only [pn, pq]) <;> omega) | fail) only [pn, pq]) <;> omega)) (by (try simp (disch := first | ((try simp (disch := first | ((try simp only [pn]) <;> omega) | fail) only [pn, pq]) <;> omega) | fail) only [pn, pq]) <;> (intros; (try simp (disch := first | ((try simp (disch := first | ((try simp only [pn]) <;> omega) | fail) only [pn, pq]) <;> omega) | fail) only [pn, pq]) <;> omega)) (by (try simp (disch := first | ((try simp (disch := first | ((try simp only [pn]) <;> omega) | fail) only [pn, pq]) <;> omega) | fail) only [pn, pq]) <;> (intros; (try simp (disch := first | ((try simp (disch := first | ((try simp only [pn]) <;> omega) | fail) only [pn, pq]) <;> omega) | fail) only [pn, pq]) <;> omega)) (by (try simp (disch := first | ((try simp (disch := first | ((try simp only [pn]) <;> omega) | fail) only [pn, pq]) <;> omega) | fail) only [pn, pq]) <;> (intros; (try simp (disch := first | ((try simp (disch := first | ((try simp only [pn]) <;> omega) | fail) only [pn, pq]) <;> omega) | fail) only [pn, pq]) <;> omega))
        · try simp (disch := first | ((try simp (disch := first | ((try simp only [pn]) <;> omega) | fail) only [pn, pq]) <;> omega) | fail) only [pn, pq] at c4
          exact hq _ (by (try simp (disch := first | ((try simp (disch := first | ((try simp only [pn]) <;> omega) | fail) only [pn, pq]) <;> omega) | fail) only [pn, pq]) <;> (intros; (try simp (disch := first | ((try simp (disch := first | ((try simp only [pn]) <;> omega) | fail) only [pn, pq]) <;> omega) | fail) only [pn, pq]) <;> omega)) (by (try simp (disch := first | ((try simp (disch := first | ((try simp only [pn]) <;> omega) | fail) only [pn, pq]) <;> omega) | fail) only [pn, pq]) <;> (intros; (try simp (disch := first | ((try simp (disch := first | ((try simp only [pn]) <;> omega) | fail) only [pn, pq]) <;> omega) | fail) only [pn, pq]) <;> omega)) (by (try simp (disch := first | ((try simp (disch := first | ((try simp only [pn]) <;> omega) | fail) only [pn, pq]) <;> omega) | fail) only [pn, pq]) <;> (intros; (try simp (disch := first | ((try simp (disch := first | ((try simp only [pn]) <;> omega) | fail) only [pn, pq]) <;> omega) | fail) only [pn, pq]) <;> omega)) (by (try simp (disch := first | ((try simp (disch := first | ((try simp only [pn]) <;> omega) | fail) only [pn, pq]) <;> omega) | fail) only [pn, pq]) <;> (intros; (try simp (disch := first | ((try simp (disch := first | ((try simp only [pn]) <;> omega) | fail) only [pn, pq]) <;> omega) | fail) only [pn, pq]) <;> omega))
      · try simp (disch := first | ((try simp (disch := first | ((try simp only [pn]) <;> omega) | fail) only [pn, pq]) <;> omega) | fail) only [pn, pq] at c3
        exact hq _ (by (try simp (disch := first | ((try simp (disch := first | ((try simp only [pn]) <;> omega) | fail) only [pn, pq]) <;> omega) | fail) only [pn, pq]) <;> (intros; (try simp (disch := first | ((try simp (disch := first | ((try simp only [pn]) <;> omega) | fail) only [pn, pq]) <;> omega) | fail) only [pn, pq]) <;> omega)) (by (try simp (disch := first | ((try simp (disch := first | ((try simp only [pn]) <;> omega) | fail) only [pn, pq]) <;> omega) | fail) only [pn, pq]) <;> (intros; (try simp (disch := first | ((try simp (disch := first | ((try simp only [pn]) <;> omega) | fail) only [pn, pq]) <;> omega) | fail) only [pn, pq]) <;> omega)) (by (try simp (disch := first | ((try simp (disch := first | ((try simp only [pn]) <;> omega) | fail) only [pn, pq]) <;> omega) | fail) only [pn, pq]) <;> (intros; (try simp (disch := first | ((try simp (disch := first | ((try simp only [pn]) <;> omega) | fail) only [pn, pq]) <;> omega) | fail) only [pn, pq]) <;> omega)) (by (try simp (disch := first | ((try simp (disch := first | ((try simp only [pn]) <;> omega) | fail) only [pn, pq]) <;> omega) | fail) only [pn, pq]) <;> (intros; (try simp (disch := first | ((try simp (disch := first | ((try simp only [pn]) <;> omega) | fail) only [pn, pq]) <;> omega) | fail) only [pn, pq]) <;> omega))
set_option maxRecDepth 20000 in
set_option maxHeartbeats 1000000 in
theorem sf_X9_settingOf {S : bT9} (hJ : K9 S) {a1 : Int32} {Q : Int32 → Prop} (hp0 : 0 ≤ a1.toInt) (hp1 : a1.toInt ≤ 22) (hq : ∀ r : Int32, (a1.toInt = 4 → (1 ≤ r.toInt ∧ r.toInt ≤ 256)) → (a1.toInt = 1 → (0 ≤ r.toInt ∧ r.toInt ≤ 8)) → Q r) : wp_X9_settingOf S a1 Q := by
  unfold wp_X9_settingOf
  have jf1 : (-4 ≤ ((b9g_now S) 1).toInt ∧ ((b9g_now S) 1).toInt ≤ 4) ∧ (-3 ≤ ((b9g_now S) 4).toInt ∧ ((b9g_now S) 4).toInt ≤ 252) ∧ (0 ≤ ((b9g_now S) 8).toInt ∧ ((b9g_now S) 8).toInt ≤ 64) ∧ (0 ≤ ((b9g_now S) 9).toInt ∧ ((b9g_now S) 9).toInt ≤ 64) ∧ (0 ≤ ((b9g_now S) 10).toInt ∧ ((b9g_now S) 10).toInt ≤ 16) ∧ (0 ≤ ((b9g_now S) 12).toInt ∧ ((b9g_now S) 12).toInt ≤ 8) := K9g_now hJ
  have rga1 := pt_rg a1
  refine ⟨pt_in (by (try simp (disch := first | ((try simp (disch := first | ((try simp only [pn]) <;> omega) | fail) only [pn, pq]) <;> omega) | fail) only [pn, pq]) <;> (intros; (try simp (disch := first | ((try simp (disch := first | ((try simp only [pn]) <;> omega) | fail) only [pn, pq]) <;> omega) | fail) only [pn, pq]) <;> omega)) (by (try simp (disch := first | ((try simp (disch := first | ((try simp only [pn]) <;> omega) | fail) only [pn, pq]) <;> omega) | fail) only [pn, pq]) <;> (intros; (try simp (disch := first | ((try simp (disch := first | ((try simp only [pn]) <;> omega) | fail) only [pn, pq]) <;> omega) | fail) only [pn, pq]) <;> omega)), ?_⟩
  have jr2 := NW_at (K9g_now hJ) (a1)
  try simp (disch := first | ((try simp (disch := first | ((try simp only [pn]) <;> omega) | fail) only [pn, pq]) <;> omega) | fail) only [pn, pq] at jr2
  refine sf_X9_firstOf hJ (fun r1 hr1_0 hr1_1 hr1_2 hr1_3 => ?_)
  have rgr1 := pt_rg r1
  try simp (disch := first | ((try simp (disch := first | ((try simp only [pn]) <;> omega) | fail) only [pn, pq]) <;> omega) | fail) only [pn, pq] at hr1_0
  try simp (disch := first | ((try simp (disch := first | ((try simp only [pn]) <;> omega) | fail) only [pn, pq]) <;> omega) | fail) only [pn, pq] at hr1_1
  try simp (disch := first | ((try simp (disch := first | ((try simp only [pn]) <;> omega) | fail) only [pn, pq]) <;> omega) | fail) only [pn, pq] at hr1_2
  try simp (disch := first | ((try simp (disch := first | ((try simp only [pn]) <;> omega) | fail) only [pn, pq]) <;> omega) | fail) only [pn, pq] at hr1_3
  exact hq _ (by (try simp (disch := first | ((try simp (disch := first | ((try simp only [pn]) <;> omega) | fail) only [pn, pq]) <;> omega) | fail) only [pn, pq]) <;> (intros; (try simp (disch := first | ((try simp (disch := first | ((try simp only [pn]) <;> omega) | fail) only [pn, pq]) <;> omega) | fail) only [pn, pq]) <;> omega)) (by (try simp (disch := first | ((try simp (disch := first | ((try simp only [pn]) <;> omega) | fail) only [pn, pq]) <;> omega) | fail) only [pn, pq]) <;> (intros; (try simp (disch := first | ((try simp (disch := first | ((try simp only [pn]) <;> omega) | fail) only [pn, pq]) <;> omega) | fail) only [pn, pq]) <;> omega))
set_option maxRecDepth 20000 in
set_option maxHeartbeats 1000000 in
theorem sf_X9_canSet {S : bT9} (hJ : K9 S) {a1 : Int32} {a2 : Int32} {Q : Int32 → Prop} (hq : ∀ r : Int32, bf_bool r → ((r.toInt = 1 ∧ ((a1.toInt = 0 ∧ 0 ≤ a2.toInt ∧ a2.toInt ≤ 8) ∨ (a1.toInt = 1 ∧ 0 ≤ a2.toInt ∧ a2.toInt ≤ 8) ∨ (a1.toInt = 2 ∧ 0 ≤ a2.toInt ∧ a2.toInt ≤ 9) ∨ (a1.toInt = 3 ∧ 1 ≤ a2.toInt ∧ a2.toInt ≤ 64) ∨ (a1.toInt = 4 ∧ 1 ≤ a2.toInt ∧ a2.toInt ≤ 256) ∨ a1.toInt = 5)) ∨ (r.toInt = 0 ∧ ¬ ((a1.toInt = 0 ∧ 0 ≤ a2.toInt ∧ a2.toInt ≤ 8) ∨ (a1.toInt = 1 ∧ 0 ≤ a2.toInt ∧ a2.toInt ≤ 8) ∨ (a1.toInt = 2 ∧ 0 ≤ a2.toInt ∧ a2.toInt ≤ 9) ∨ (a1.toInt = 3 ∧ 1 ≤ a2.toInt ∧ a2.toInt ≤ 64) ∨ (a1.toInt = 4 ∧ 1 ≤ a2.toInt ∧ a2.toInt ≤ 256) ∨ a1.toInt = 5))) → Q r) : wp_X9_canSet S a1 a2 Q := by
  unfold wp_X9_canSet
  have jf1 : (-4 ≤ ((b9g_now S) 1).toInt ∧ ((b9g_now S) 1).toInt ≤ 4) ∧ (-3 ≤ ((b9g_now S) 4).toInt ∧ ((b9g_now S) 4).toInt ≤ 252) ∧ (0 ≤ ((b9g_now S) 8).toInt ∧ ((b9g_now S) 8).toInt ≤ 64) ∧ (0 ≤ ((b9g_now S) 9).toInt ∧ ((b9g_now S) 9).toInt ≤ 64) ∧ (0 ≤ ((b9g_now S) 10).toInt ∧ ((b9g_now S) 10).toInt ≤ 16) ∧ (0 ≤ ((b9g_now S) 12).toInt ∧ ((b9g_now S) 12).toInt ≤ 8) := K9g_now hJ
  have rga1 := pt_rg a1
  have rga2 := pt_rg a2
  refine ⟨fun c1 => ?_, fun c1 => ?_⟩
  · try simp (disch := first | ((try simp (disch := first | ((try simp only [pn]) <;> omega) | fail) only [pn, pq]) <;> omega) | fail) only [pn, pq] at c1
    unfold wp_X9_canSet_9
    refine sf_X9_isIn hJ (fun r2 hzr2 hr2_0 => ?_)
    try simp (disch := first | ((try simp (disch := first | ((try simp only [pn]) <;> omega) | fail) only [pn, pq]) <;> omega) | fail) only [pn, pq] at hr2_0
    exact ⟨by first | rfl | assumption, hq _ (by first | rfl | assumption) (by (try simp (disch := first | ((try simp (disch := first | ((try simp only [pn]) <;> omega) | fail) only [pn, pq]) <;> omega) | fail) only [pn, pq]) <;> (intros; (try simp (disch := first | ((try simp (disch := first | ((try simp only [pn]) <;> omega) | fail) only [pn, pq]) <;> omega) | fail) only [pn, pq]) <;> omega))⟩
  · try simp (disch := first | ((try simp (disch := first | ((try simp only [pn]) <;> omega) | fail) only [pn, pq]) <;> omega) | fail) only [pn, pq] at c1
    refine ⟨fun c4 => ?_, fun c4 => ?_⟩
    · try simp (disch := first | ((try simp (disch := first | ((try simp only [pn]) <;> omega) | fail) only [pn, pq]) <;> omega) | fail) only [pn, pq] at c4
      refine ⟨fun c5 => ?_, fun c5 => ?_⟩
      · try simp (disch := first | ((try simp (disch := first | ((try simp only [pn]) <;> omega) | fail) only [pn, pq]) <;> omega) | fail) only [pn, pq] at c5
        refine ⟨fun c6 => ?_, fun c6 => ?_⟩
        · try simp (disch := first | ((try simp (disch := first | ((try simp only [pn]) <;> omega) | fail) only [pn, pq]) <;> omega) | fail) only [pn, pq] at c6
          refine ⟨fun c7 => ?_, fun c7 => ?_⟩
          · try simp (disch := first | ((try simp (disch := first | ((try simp only [pn]) <;> omega) | fail) only [pn, pq]) <;> omega) | fail) only [pn, pq] at c7
            refine ⟨fun c8 => ?_, fun c8 => ?_⟩
            · try simp (disch := first | ((try simp (disch := first | ((try simp only [pn]) <;> omega) | fail) only [pn, pq]) <;> omega) | fail) only [pn, pq] at c8
              exact ⟨by first | rfl | assumption, hq _ (by first | rfl | assumption) (by (try simp (disch := first | ((try simp (disch := first | ((try simp only [pn]) <;> omega) | fail) only [pn, pq]) <;> omega) | fail) only [pn, pq]) <;> (intros; (try simp (disch := first | ((try simp (disch := first | ((try simp only [pn]) <;> omega) | fail) only [pn, pq]) <;> omega) | fail) only [pn, pq]) <;> omega))⟩
            · try simp (disch := first | ((try simp (disch := first | ((try simp only [pn]) <;> omega) | fail) only [pn, pq]) <;> omega) | fail) only [pn, pq] at c8
              exact ⟨by first | rfl | assumption, hq _ (by first | rfl | assumption) (by (try simp (disch := first | ((try simp (disch := first | ((try simp only [pn]) <;> omega) | fail) only [pn, pq]) <;> omega) | fail) only [pn, pq]) <;> (intros; (try simp (disch := first | ((try simp (disch := first | ((try simp only [pn]) <;> omega) | fail) only [pn, pq]) <;> omega) | fail) only [pn, pq]) <;> omega))⟩
          · try simp (disch := first | ((try simp (disch := first | ((try simp only [pn]) <;> omega) | fail) only [pn, pq]) <;> omega) | fail) only [pn, pq] at c7
            refine sf_X9_isIn hJ (fun r9 hzr9 hr9_0 => ?_)
            try simp (disch := first | ((try simp (disch := first | ((try simp only [pn]) <;> omega) | fail) only [pn, pq]) <;> omega) | fail) only [pn, pq] at hr9_0
            exact ⟨by first | rfl | assumption, hq _ (by first | rfl | assumption) (by (try simp (disch := first | ((try simp (disch := first | ((try simp only [pn]) <;> omega) | fail) only [pn, pq]) <;> omega) | fail) only [pn, pq]) <;> (intros; (try simp (disch := first | ((try simp (disch := first | ((try simp only [pn]) <;> omega) | fail) only [pn, pq]) <;> omega) | fail) only [pn, pq]) <;> omega))⟩
        · try simp (disch := first | ((try simp (disch := first | ((try simp only [pn]) <;> omega) | fail) only [pn, pq]) <;> omega) | fail) only [pn, pq] at c6
          refine sf_X9_isIn hJ (fun r11 hzr11 hr11_0 => ?_)
          try simp (disch := first | ((try simp (disch := first | ((try simp only [pn]) <;> omega) | fail) only [pn, pq]) <;> omega) | fail) only [pn, pq] at hr11_0
          exact ⟨by first | rfl | assumption, hq _ (by first | rfl | assumption) (by (try simp (disch := first | ((try simp (disch := first | ((try simp only [pn]) <;> omega) | fail) only [pn, pq]) <;> omega) | fail) only [pn, pq]) <;> (intros; (try simp (disch := first | ((try simp (disch := first | ((try simp only [pn]) <;> omega) | fail) only [pn, pq]) <;> omega) | fail) only [pn, pq]) <;> omega))⟩
      · try simp (disch := first | ((try simp (disch := first | ((try simp only [pn]) <;> omega) | fail) only [pn, pq]) <;> omega) | fail) only [pn, pq] at c5
        refine sf_X9_isIn hJ (fun r13 hzr13 hr13_0 => ?_)
        try simp (disch := first | ((try simp (disch := first | ((try simp only [pn]) <;> omega) | fail) only [pn, pq]) <;> omega) | fail) only [pn, pq] at hr13_0
        exact ⟨by first | rfl | assumption, hq _ (by first | rfl | assumption) (by (try simp (disch := first | ((try simp (disch := first | ((try simp only [pn]) <;> omega) | fail) only [pn, pq]) <;> omega) | fail) only [pn, pq]) <;> (intros; (try simp (disch := first | ((try simp (disch := first | ((try simp only [pn]) <;> omega) | fail) only [pn, pq]) <;> omega) | fail) only [pn, pq]) <;> omega))⟩
    · try simp (disch := first | ((try simp (disch := first | ((try simp only [pn]) <;> omega) | fail) only [pn, pq]) <;> omega) | fail) only [pn, pq] at c4
      unfold wp_X9_canSet_9
      refine sf_X9_isIn hJ (fun r15 hzr15 hr15_0 => ?_)
      try simp (disch := first | ((try simp (disch := first | ((try simp only [pn]) <;> omega) | fail) only [pn, pq]) <;> omega) | fail) only [pn, pq] at hr15_0
      exact ⟨by first | rfl | assumption, hq _ (by first | rfl | assumption) (by (try simp (disch := first | ((try simp (disch := first | ((try simp only [pn]) <;> omega) | fail) only [pn, pq]) <;> omega) | fail) only [pn, pq]) <;> (intros; (try simp (disch := first | ((try simp (disch := first | ((try simp only [pn]) <;> omega) | fail) only [pn, pq]) <;> omega) | fail) only [pn, pq]) <;> omega))⟩
def F_X9_set (S u : bT9) : Prop := (b9g_keys u) = (b9g_keys S) ∧ (b9g_lengths u) = (b9g_lengths S) ∧ (b9g_drawn u) = (b9g_drawn S) ∧ (b9g_drawnLength u) = (b9g_drawnLength S) ∧ (b9g_tape u) = (b9g_tape S) ∧ (b9g_taped u) = (b9g_taped S) ∧ (b9g_names u) = (b9g_names S) ∧ (b9g_chosen u) = (b9g_chosen S) ∧ (b9g_common u) = (b9g_common S) ∧ (b9g_beginning u) = (b9g_beginning S) ∧ (b9g_isLaid u) = (b9g_isLaid S) ∧ (b9g_nodeLevel u) = (b9g_nodeLevel S) ∧ (b9g_nodeLeaf u) = (b9g_nodeLeaf S) ∧ (b9g_nodeLeaves u) = (b9g_nodeLeaves S) ∧ (b9g_nodeMany u) = (b9g_nodeMany S) ∧ (b9g_levelMany u) = (b9g_levelMany S) ∧ (b9g_upper u) = (b9g_upper S) ∧ (b9g_upperNodes u) = (b9g_upperNodes S) ∧ (b9g_areNodesLaid u) = (b9g_areNodesLaid S) ∧ (b9g_itemNode u) = (b9g_itemNode S) ∧ (b9g_itemByte u) = (b9g_itemByte S) ∧ (b9g_itemChild u) = (b9g_itemChild S) ∧ (b9g_itemMany u) = (b9g_itemMany S) ∧ (b9g_placeOf u) = (b9g_placeOf S) ∧ (b9g_leafOfPlace u) = (b9g_leafOfPlace S) ∧ (b9g_places u) = (b9g_places S) ∧ (b9g_lowKey u) = (b9g_lowKey S) ∧ (b9g_highKey u) = (b9g_highKey S) ∧ (b9g_lowLength u) = (b9g_lowLength S) ∧ (b9g_highLength u) = (b9g_highLength S) ∧ (b9g_fromKey u) = (b9g_fromKey S) ∧ (b9g_toKey u) = (b9g_toKey S) ∧ (b9g_fromLength u) = (b9g_fromLength S) ∧ (b9g_toLength u) = (b9g_toLength S) ∧ (b9g_ones u) = (b9g_ones S) ∧ (b9g_oneMany u) = (b9g_oneMany S) ∧ (b9g_rowLong u) = (b9g_rowLong S) ∧ (b9g_laidFor u) = (b9g_laidFor S) ∧ (b9g_signs u) = (b9g_signs S) ∧ (b9g_signMany u) = (b9g_signMany S) ∧ (b9g_hasImage u) = (b9g_hasImage S) ∧ (b9g_images u) = (b9g_images S) ∧ (b9g_keyImages u) = (b9g_keyImages S) ∧ (b9g_lengthImages u) = (b9g_lengthImages S)
set_option maxRecDepth 20000 in
set_option maxHeartbeats 1000000 in
theorem sf_X9_set {S : bT9} (hJ : J9 S) {a1 : Int32} {a2 : Int32} {Q : Int32 → (bT9) → Prop} (hq : ∀ (r : Int32) (u : bT9), (J9 u) → F_X9_set S u → bf_bool r → ((r.toInt = 1 ∧ ((a1.toInt = 0 ∧ 0 ≤ a2.toInt ∧ a2.toInt ≤ 8) ∨ (a1.toInt = 1 ∧ 0 ≤ a2.toInt ∧ a2.toInt ≤ 8) ∨ (a1.toInt = 2 ∧ 0 ≤ a2.toInt ∧ a2.toInt ≤ 9) ∨ (a1.toInt = 3 ∧ 1 ≤ a2.toInt ∧ a2.toInt ≤ 64) ∨ (a1.toInt = 4 ∧ 1 ≤ a2.toInt ∧ a2.toInt ≤ 256) ∨ a1.toInt = 5)) ∨ (r.toInt = 0 ∧ ¬ ((a1.toInt = 0 ∧ 0 ≤ a2.toInt ∧ a2.toInt ≤ 8) ∨ (a1.toInt = 1 ∧ 0 ≤ a2.toInt ∧ a2.toInt ≤ 8) ∨ (a1.toInt = 2 ∧ 0 ≤ a2.toInt ∧ a2.toInt ≤ 9) ∨ (a1.toInt = 3 ∧ 1 ≤ a2.toInt ∧ a2.toInt ≤ 64) ∨ (a1.toInt = 4 ∧ 1 ≤ a2.toInt ∧ a2.toInt ≤ 256) ∨ a1.toInt = 5))) → (b9g_now u 10 = b9g_now S 10) → (b9g_now u 7 = b9g_now S 7) → Q r u) : wp_X9_set S a1 a2 Q := by
  unfold wp_X9_set
  have hFS : F_X9_set S S := ⟨rfl, rfl, rfl, rfl, rfl, rfl, rfl, rfl, rfl, rfl, rfl, rfl, rfl, rfl, rfl, rfl, rfl, rfl, rfl, rfl, rfl, rfl, rfl, rfl, rfl, rfl, rfl, rfl, rfl, rfl, rfl, rfl, rfl, rfl, rfl, rfl, rfl, rfl, rfl, rfl, rfl, rfl, rfl, rfl⟩
  have jf1 : (-4 ≤ ((b9g_now S) 1).toInt ∧ ((b9g_now S) 1).toInt ≤ 4) ∧ (-3 ≤ ((b9g_now S) 4).toInt ∧ ((b9g_now S) 4).toInt ≤ 252) ∧ (0 ≤ ((b9g_now S) 8).toInt ∧ ((b9g_now S) 8).toInt ≤ 64) ∧ (0 ≤ ((b9g_now S) 9).toInt ∧ ((b9g_now S) 9).toInt ≤ 64) ∧ (0 ≤ ((b9g_now S) 10).toInt ∧ ((b9g_now S) 10).toInt ≤ 16) ∧ (0 ≤ ((b9g_now S) 12).toInt ∧ ((b9g_now S) 12).toInt ≤ 8) := J9g_now hJ
  have ju1_S := hJ.2
  have rga1 := pt_rg a1
  have rga2 := pt_rg a2
  intro S1 eS1
  have hJS1 : J9 S1 := by rw [eS1]; exact (J9s_told hJ)
  have hFS1 : F_X9_set S S1 := by rw [eS1]; exact hFS
  have je2 : ((b9g_now S1) 1).toInt = ((b9g_now S) 1).toInt := by rw [eS1]
  have je3 : ((b9g_now S1) 4).toInt = ((b9g_now S) 4).toInt := by rw [eS1]
  have je4 : ((b9g_now S1) 7).toInt = ((b9g_now S) 7).toInt := by rw [eS1]
  have je5 : ((b9g_now S1) 8).toInt = ((b9g_now S) 8).toInt := by rw [eS1]
  have je6 : ((b9g_now S1) 9).toInt = ((b9g_now S) 9).toInt := by rw [eS1]
  have je7 : ((b9g_now S1) 10).toInt = ((b9g_now S) 10).toInt := by rw [eS1]
  have je8 : ((b9g_now S1) 12).toInt = ((b9g_now S) 12).toInt := by rw [eS1]
  have jf9 : (-4 ≤ ((b9g_now S1) 1).toInt ∧ ((b9g_now S1) 1).toInt ≤ 4) ∧ (-3 ≤ ((b9g_now S1) 4).toInt ∧ ((b9g_now S1) 4).toInt ≤ 252) ∧ (0 ≤ ((b9g_now S1) 8).toInt ∧ ((b9g_now S1) 8).toInt ≤ 64) ∧ (0 ≤ ((b9g_now S1) 9).toInt ∧ ((b9g_now S1) 9).toInt ≤ 64) ∧ (0 ≤ ((b9g_now S1) 10).toInt ∧ ((b9g_now S1) 10).toInt ≤ 16) ∧ (0 ≤ ((b9g_now S1) 12).toInt ∧ ((b9g_now S1) 12).toInt ≤ 8) := J9g_now hJS1
  have ju9_S1 := hJS1.2
  refine sf_X9_canSet hJS1.1 (fun r2 hzr2 hr2_0 => ?_)
  try simp (disch := first | ((try simp (disch := first | ((try simp only [pn]) <;> omega) | fail) only [pn, pq]) <;> omega) | fail) only [pn, pq] at hr2_0
  refine ⟨fun c4 => ?_, fun c4 => ?_⟩
  · try simp (disch := first | ((try simp (disch := first | ((try simp only [pn]) <;> omega) | fail) only [pn, pq]) <;> omega) | fail) only [pn, pq] at c4
    refine sf_X9_firstOf hJS1.1 (fun r5 hr5_0 hr5_1 hr5_2 hr5_3 => ?_)
    have rgr5 := pt_rg r5
    try simp (disch := first | ((try simp (disch := first | ((try simp only [pn]) <;> omega) | fail) only [pn, pq]) <;> omega) | fail) only [pn, pq] at hr5_0
    try simp (disch := first | ((try simp (disch := first | ((try simp only [pn]) <;> omega) | fail) only [pn, pq]) <;> omega) | fail) only [pn, pq] at hr5_1
    try simp (disch := first | ((try simp (disch := first | ((try simp only [pn]) <;> omega) | fail) only [pn, pq]) <;> omega) | fail) only [pn, pq] at hr5_2
    try simp (disch := first | ((try simp (disch := first | ((try simp only [pn]) <;> omega) | fail) only [pn, pq]) <;> omega) | fail) only [pn, pq] at hr5_3
    refine ⟨pt_in (by (try simp (disch := first | ((try simp (disch := first | ((try simp only [pn]) <;> omega) | fail) only [pn, pq]) <;> omega) | fail) only [pn, pq]) <;> (intros; (try simp (disch := first | ((try simp (disch := first | ((try simp only [pn]) <;> omega) | fail) only [pn, pq]) <;> omega) | fail) only [pn, pq]) <;> omega)) (by (try simp (disch := first | ((try simp (disch := first | ((try simp only [pn]) <;> omega) | fail) only [pn, pq]) <;> omega) | fail) only [pn, pq]) <;> (intros; (try simp (disch := first | ((try simp (disch := first | ((try simp only [pn]) <;> omega) | fail) only [pn, pq]) <;> omega) | fail) only [pn, pq]) <;> omega)), ?_⟩
    intro S7 eS7
    have hJS7 : J9 S7 := by rw [eS7]; exact (J9s_now hJS1 (NW_set (J9g_now hJS1) (by (try simp (disch := first | ((try simp (disch := first | ((try simp only [pn]) <;> omega) | fail) only [pn, pq]) <;> omega) | fail) only [pn, pq]) <;> (intros; (try simp (disch := first | ((try simp (disch := first | ((try simp only [pn]) <;> omega) | fail) only [pn, pq]) <;> omega) | fail) only [pn, pq]) <;> omega)) (by (try simp (disch := first | ((try simp (disch := first | ((try simp only [pn]) <;> omega) | fail) only [pn, pq]) <;> omega) | fail) only [pn, pq]) <;> (intros; (try simp (disch := first | ((try simp (disch := first | ((try simp only [pn]) <;> omega) | fail) only [pn, pq]) <;> omega) | fail) only [pn, pq]) <;> omega)) (by (try simp (disch := first | ((try simp (disch := first | ((try simp only [pn]) <;> omega) | fail) only [pn, pq]) <;> omega) | fail) only [pn, pq]) <;> (intros; (try simp (disch := first | ((try simp (disch := first | ((try simp only [pn]) <;> omega) | fail) only [pn, pq]) <;> omega) | fail) only [pn, pq]) <;> omega)) (by (try simp (disch := first | ((try simp (disch := first | ((try simp only [pn]) <;> omega) | fail) only [pn, pq]) <;> omega) | fail) only [pn, pq]) <;> (intros; (try simp (disch := first | ((try simp (disch := first | ((try simp only [pn]) <;> omega) | fail) only [pn, pq]) <;> omega) | fail) only [pn, pq]) <;> omega)) (by (try simp (disch := first | ((try simp (disch := first | ((try simp only [pn]) <;> omega) | fail) only [pn, pq]) <;> omega) | fail) only [pn, pq]) <;> (intros; (try simp (disch := first | ((try simp (disch := first | ((try simp only [pn]) <;> omega) | fail) only [pn, pq]) <;> omega) | fail) only [pn, pq]) <;> omega)) (by (try simp (disch := first | ((try simp (disch := first | ((try simp only [pn]) <;> omega) | fail) only [pn, pq]) <;> omega) | fail) only [pn, pq]) <;> (intros; (try simp (disch := first | ((try simp (disch := first | ((try simp only [pn]) <;> omega) | fail) only [pn, pq]) <;> omega) | fail) only [pn, pq]) <;> omega))))
    have hFS7 : F_X9_set S S7 := by rw [eS7]; exact hFS1
    have je10 : ((b9g_now S7) 7).toInt = ((b9g_now S1) 7).toInt := by rw [eS7]; exact pt_updm (j := 7) (by (try simp (disch := first | ((try simp (disch := first | ((try simp only [pn]) <;> omega) | fail) only [pn, pq]) <;> omega) | fail) only [pn, pq]) <;> (intros; (try simp (disch := first | ((try simp (disch := first | ((try simp only [pn]) <;> omega) | fail) only [pn, pq]) <;> omega) | fail) only [pn, pq]) <;> omega)) (by decide)
    try simp (disch := first | ((try simp (disch := first | ((try simp only [pn]) <;> omega) | fail) only [pn, pq]) <;> omega) | fail) only [pn, pq] at je10
    have je11 : ((b9g_now S7) 10).toInt = ((b9g_now S1) 10).toInt := by rw [eS7]; exact pt_updm (j := 10) (by (try simp (disch := first | ((try simp (disch := first | ((try simp only [pn]) <;> omega) | fail) only [pn, pq]) <;> omega) | fail) only [pn, pq]) <;> (intros; (try simp (disch := first | ((try simp (disch := first | ((try simp only [pn]) <;> omega) | fail) only [pn, pq]) <;> omega) | fail) only [pn, pq]) <;> omega)) (by decide)
    try simp (disch := first | ((try simp (disch := first | ((try simp only [pn]) <;> omega) | fail) only [pn, pq]) <;> omega) | fail) only [pn, pq] at je11
    have jf12 : (-4 ≤ ((b9g_now S7) 1).toInt ∧ ((b9g_now S7) 1).toInt ≤ 4) ∧ (-3 ≤ ((b9g_now S7) 4).toInt ∧ ((b9g_now S7) 4).toInt ≤ 252) ∧ (0 ≤ ((b9g_now S7) 8).toInt ∧ ((b9g_now S7) 8).toInt ≤ 64) ∧ (0 ≤ ((b9g_now S7) 9).toInt ∧ ((b9g_now S7) 9).toInt ≤ 64) ∧ (0 ≤ ((b9g_now S7) 10).toInt ∧ ((b9g_now S7) 10).toInt ≤ 16) ∧ (0 ≤ ((b9g_now S7) 12).toInt ∧ ((b9g_now S7) 12).toInt ≤ 8) := J9g_now hJS7
    have ju12_S7 := hJS7.2
    exact ⟨by first | rfl | assumption, hq _ _ hJS7 hFS7 (by first | rfl | assumption) (by (try simp (disch := first | ((try simp (disch := first | ((try simp only [pn]) <;> omega) | fail) only [pn, pq]) <;> omega) | fail) only [pn, pq]) <;> (intros; (try simp (disch := first | ((try simp (disch := first | ((try simp only [pn]) <;> omega) | fail) only [pn, pq]) <;> omega) | fail) only [pn, pq]) <;> omega)) (by ((try simp (disch := first | ((try simp (disch := first | ((try simp only [pn]) <;> omega) | fail) only [pn, pq]) <;> omega) | fail) only [pn, pq]) <;> (intros; (try simp (disch := first | ((try simp (disch := first | ((try simp only [pn]) <;> omega) | fail) only [pn, pq]) <;> omega) | fail) only [pn, pq]) <;> omega))) (by ((try simp (disch := first | ((try simp (disch := first | ((try simp only [pn]) <;> omega) | fail) only [pn, pq]) <;> omega) | fail) only [pn, pq]) <;> (intros; (try simp (disch := first | ((try simp (disch := first | ((try simp only [pn]) <;> omega) | fail) only [pn, pq]) <;> omega) | fail) only [pn, pq]) <;> omega)))⟩
  · try simp (disch := first | ((try simp (disch := first | ((try simp only [pn]) <;> omega) | fail) only [pn, pq]) <;> omega) | fail) only [pn, pq] at c4
    exact ⟨by first | rfl | assumption, hq _ _ hJS1 hFS1 (by first | rfl | assumption) (by (try simp (disch := first | ((try simp (disch := first | ((try simp only [pn]) <;> omega) | fail) only [pn, pq]) <;> omega) | fail) only [pn, pq]) <;> (intros; (try simp (disch := first | ((try simp (disch := first | ((try simp only [pn]) <;> omega) | fail) only [pn, pq]) <;> omega) | fail) only [pn, pq]) <;> omega)) (by ((try simp (disch := first | ((try simp (disch := first | ((try simp only [pn]) <;> omega) | fail) only [pn, pq]) <;> omega) | fail) only [pn, pq]) <;> (intros; (try simp (disch := first | ((try simp (disch := first | ((try simp only [pn]) <;> omega) | fail) only [pn, pq]) <;> omega) | fail) only [pn, pq]) <;> omega))) (by ((try simp (disch := first | ((try simp (disch := first | ((try simp only [pn]) <;> omega) | fail) only [pn, pq]) <;> omega) | fail) only [pn, pq]) <;> (intros; (try simp (disch := first | ((try simp (disch := first | ((try simp only [pn]) <;> omega) | fail) only [pn, pq]) <;> omega) | fail) only [pn, pq]) <;> omega)))⟩
def F_X9_state (S u : bT9) : Prop := (b9g_keys u) = (b9g_keys S) ∧ (b9g_lengths u) = (b9g_lengths S) ∧ (b9g_drawn u) = (b9g_drawn S) ∧ (b9g_drawnLength u) = (b9g_drawnLength S) ∧ (b9g_tape u) = (b9g_tape S) ∧ (b9g_taped u) = (b9g_taped S) ∧ (b9g_names u) = (b9g_names S) ∧ (b9g_chosen u) = (b9g_chosen S) ∧ (b9g_common u) = (b9g_common S) ∧ (b9g_beginning u) = (b9g_beginning S) ∧ (b9g_isLaid u) = (b9g_isLaid S) ∧ (b9g_nodeLevel u) = (b9g_nodeLevel S) ∧ (b9g_nodeLeaf u) = (b9g_nodeLeaf S) ∧ (b9g_nodeLeaves u) = (b9g_nodeLeaves S) ∧ (b9g_nodeMany u) = (b9g_nodeMany S) ∧ (b9g_levelMany u) = (b9g_levelMany S) ∧ (b9g_upper u) = (b9g_upper S) ∧ (b9g_upperNodes u) = (b9g_upperNodes S) ∧ (b9g_areNodesLaid u) = (b9g_areNodesLaid S) ∧ (b9g_itemNode u) = (b9g_itemNode S) ∧ (b9g_itemByte u) = (b9g_itemByte S) ∧ (b9g_itemChild u) = (b9g_itemChild S) ∧ (b9g_itemMany u) = (b9g_itemMany S) ∧ (b9g_placeOf u) = (b9g_placeOf S) ∧ (b9g_leafOfPlace u) = (b9g_leafOfPlace S) ∧ (b9g_places u) = (b9g_places S) ∧ (b9g_lowKey u) = (b9g_lowKey S) ∧ (b9g_highKey u) = (b9g_highKey S) ∧ (b9g_lowLength u) = (b9g_lowLength S) ∧ (b9g_highLength u) = (b9g_highLength S) ∧ (b9g_fromKey u) = (b9g_fromKey S) ∧ (b9g_toKey u) = (b9g_toKey S) ∧ (b9g_fromLength u) = (b9g_fromLength S) ∧ (b9g_toLength u) = (b9g_toLength S) ∧ (b9g_ones u) = (b9g_ones S) ∧ (b9g_oneMany u) = (b9g_oneMany S) ∧ (b9g_rowLong u) = (b9g_rowLong S) ∧ (b9g_laidFor u) = (b9g_laidFor S) ∧ (b9g_signs u) = (b9g_signs S) ∧ (b9g_signMany u) = (b9g_signMany S) ∧ (b9g_hasImage u) = (b9g_hasImage S) ∧ (b9g_images u) = (b9g_images S) ∧ (b9g_keyImages u) = (b9g_keyImages S) ∧ (b9g_lengthImages u) = (b9g_lengthImages S)
set_option maxRecDepth 20000 in
set_option maxHeartbeats 1000000 in
theorem sf_X9_state {S : bT9} (hJ : J9 S) {a1 : Int32} {Q : Int32 → (bT9) → Prop} (hq : ∀ (r : Int32) (u : bT9), (J9 u) → F_X9_state S u → (r.toInt = (b9g_now S 7).toInt) → ((b9g_now u 7).toInt = a1.toInt) → (b9g_now u 10 = b9g_now S 10) → Q r u) : wp_X9_state S a1 Q := by
  unfold wp_X9_state
  have hFS : F_X9_state S S := ⟨rfl, rfl, rfl, rfl, rfl, rfl, rfl, rfl, rfl, rfl, rfl, rfl, rfl, rfl, rfl, rfl, rfl, rfl, rfl, rfl, rfl, rfl, rfl, rfl, rfl, rfl, rfl, rfl, rfl, rfl, rfl, rfl, rfl, rfl, rfl, rfl, rfl, rfl, rfl, rfl, rfl, rfl, rfl, rfl⟩
  have jf1 : (-4 ≤ ((b9g_now S) 1).toInt ∧ ((b9g_now S) 1).toInt ≤ 4) ∧ (-3 ≤ ((b9g_now S) 4).toInt ∧ ((b9g_now S) 4).toInt ≤ 252) ∧ (0 ≤ ((b9g_now S) 8).toInt ∧ ((b9g_now S) 8).toInt ≤ 64) ∧ (0 ≤ ((b9g_now S) 9).toInt ∧ ((b9g_now S) 9).toInt ≤ 64) ∧ (0 ≤ ((b9g_now S) 10).toInt ∧ ((b9g_now S) 10).toInt ≤ 16) ∧ (0 ≤ ((b9g_now S) 12).toInt ∧ ((b9g_now S) 12).toInt ≤ 8) := J9g_now hJ
  have ju1_S := hJ.2
  have rga1 := pt_rg a1
  intro S1 eS1
  have hJS1 : J9 S1 := by rw [eS1]; exact (J9s_told hJ)
  have hFS1 : F_X9_state S S1 := by rw [eS1]; exact hFS
  have je2 : ((b9g_now S1) 1).toInt = ((b9g_now S) 1).toInt := by rw [eS1]
  have je3 : ((b9g_now S1) 4).toInt = ((b9g_now S) 4).toInt := by rw [eS1]
  have je4 : ((b9g_now S1) 7).toInt = ((b9g_now S) 7).toInt := by rw [eS1]
  have je5 : ((b9g_now S1) 8).toInt = ((b9g_now S) 8).toInt := by rw [eS1]
  have je6 : ((b9g_now S1) 9).toInt = ((b9g_now S) 9).toInt := by rw [eS1]
  have je7 : ((b9g_now S1) 10).toInt = ((b9g_now S) 10).toInt := by rw [eS1]
  have je8 : ((b9g_now S1) 12).toInt = ((b9g_now S) 12).toInt := by rw [eS1]
  have jf9 : (-4 ≤ ((b9g_now S1) 1).toInt ∧ ((b9g_now S1) 1).toInt ≤ 4) ∧ (-3 ≤ ((b9g_now S1) 4).toInt ∧ ((b9g_now S1) 4).toInt ≤ 252) ∧ (0 ≤ ((b9g_now S1) 8).toInt ∧ ((b9g_now S1) 8).toInt ≤ 64) ∧ (0 ≤ ((b9g_now S1) 9).toInt ∧ ((b9g_now S1) 9).toInt ≤ 64) ∧ (0 ≤ ((b9g_now S1) 10).toInt ∧ ((b9g_now S1) 10).toInt ≤ 16) ∧ (0 ≤ ((b9g_now S1) 12).toInt ∧ ((b9g_now S1) 12).toInt ≤ 8) := J9g_now hJS1
  have ju9_S1 := hJS1.2
  refine ⟨pt_in (by (try simp (disch := first | ((try simp (disch := first | ((try simp only [pn]) <;> omega) | fail) only [pn, pq]) <;> omega) | fail) only [pn, pq]) <;> (intros; (try simp (disch := first | ((try simp (disch := first | ((try simp only [pn]) <;> omega) | fail) only [pn, pq]) <;> omega) | fail) only [pn, pq]) <;> omega)) (by (try simp (disch := first | ((try simp (disch := first | ((try simp only [pn]) <;> omega) | fail) only [pn, pq]) <;> omega) | fail) only [pn, pq]) <;> (intros; (try simp (disch := first | ((try simp (disch := first | ((try simp only [pn]) <;> omega) | fail) only [pn, pq]) <;> omega) | fail) only [pn, pq]) <;> omega)), ?_⟩
  refine ⟨pt_in (by (try simp (disch := first | ((try simp (disch := first | ((try simp only [pn]) <;> omega) | fail) only [pn, pq]) <;> omega) | fail) only [pn, pq]) <;> (intros; (try simp (disch := first | ((try simp (disch := first | ((try simp only [pn]) <;> omega) | fail) only [pn, pq]) <;> omega) | fail) only [pn, pq]) <;> omega)) (by (try simp (disch := first | ((try simp (disch := first | ((try simp only [pn]) <;> omega) | fail) only [pn, pq]) <;> omega) | fail) only [pn, pq]) <;> (intros; (try simp (disch := first | ((try simp (disch := first | ((try simp only [pn]) <;> omega) | fail) only [pn, pq]) <;> omega) | fail) only [pn, pq]) <;> omega)), ?_⟩
  intro S2 eS2
  have hJS2 : J9 S2 := by rw [eS2]; exact (J9s_now hJS1 (NW_set (J9g_now hJS1) (by (try simp (disch := first | ((try simp (disch := first | ((try simp only [pn]) <;> omega) | fail) only [pn, pq]) <;> omega) | fail) only [pn, pq]) <;> (intros; (try simp (disch := first | ((try simp (disch := first | ((try simp only [pn]) <;> omega) | fail) only [pn, pq]) <;> omega) | fail) only [pn, pq]) <;> omega)) (by (try simp (disch := first | ((try simp (disch := first | ((try simp only [pn]) <;> omega) | fail) only [pn, pq]) <;> omega) | fail) only [pn, pq]) <;> (intros; (try simp (disch := first | ((try simp (disch := first | ((try simp only [pn]) <;> omega) | fail) only [pn, pq]) <;> omega) | fail) only [pn, pq]) <;> omega)) (by (try simp (disch := first | ((try simp (disch := first | ((try simp only [pn]) <;> omega) | fail) only [pn, pq]) <;> omega) | fail) only [pn, pq]) <;> (intros; (try simp (disch := first | ((try simp (disch := first | ((try simp only [pn]) <;> omega) | fail) only [pn, pq]) <;> omega) | fail) only [pn, pq]) <;> omega)) (by (try simp (disch := first | ((try simp (disch := first | ((try simp only [pn]) <;> omega) | fail) only [pn, pq]) <;> omega) | fail) only [pn, pq]) <;> (intros; (try simp (disch := first | ((try simp (disch := first | ((try simp only [pn]) <;> omega) | fail) only [pn, pq]) <;> omega) | fail) only [pn, pq]) <;> omega)) (by (try simp (disch := first | ((try simp (disch := first | ((try simp only [pn]) <;> omega) | fail) only [pn, pq]) <;> omega) | fail) only [pn, pq]) <;> (intros; (try simp (disch := first | ((try simp (disch := first | ((try simp only [pn]) <;> omega) | fail) only [pn, pq]) <;> omega) | fail) only [pn, pq]) <;> omega)) (by (try simp (disch := first | ((try simp (disch := first | ((try simp only [pn]) <;> omega) | fail) only [pn, pq]) <;> omega) | fail) only [pn, pq]) <;> (intros; (try simp (disch := first | ((try simp (disch := first | ((try simp only [pn]) <;> omega) | fail) only [pn, pq]) <;> omega) | fail) only [pn, pq]) <;> omega))))
  have hFS2 : F_X9_state S S2 := by rw [eS2]; exact hFS1
  have je11 : ((b9g_now S2) 1).toInt = ((b9g_now S1) 1).toInt := by rw [eS2]; exact pt_updn (by decide)
  try simp (disch := first | ((try simp (disch := first | ((try simp only [pn]) <;> omega) | fail) only [pn, pq]) <;> omega) | fail) only [pn, pq] at je11
  have je12 : ((b9g_now S2) 4).toInt = ((b9g_now S1) 4).toInt := by rw [eS2]; exact pt_updn (by decide)
  try simp (disch := first | ((try simp (disch := first | ((try simp only [pn]) <;> omega) | fail) only [pn, pq]) <;> omega) | fail) only [pn, pq] at je12
  have je13 : ((b9g_now S2) 7).toInt = (a1).toInt := by rw [eS2]; exact pt_updq (by decide)
  try simp (disch := first | ((try simp (disch := first | ((try simp only [pn]) <;> omega) | fail) only [pn, pq]) <;> omega) | fail) only [pn, pq] at je13
  have je14 : ((b9g_now S2) 8).toInt = ((b9g_now S1) 8).toInt := by rw [eS2]; exact pt_updn (by decide)
  try simp (disch := first | ((try simp (disch := first | ((try simp only [pn]) <;> omega) | fail) only [pn, pq]) <;> omega) | fail) only [pn, pq] at je14
  have je15 : ((b9g_now S2) 9).toInt = ((b9g_now S1) 9).toInt := by rw [eS2]; exact pt_updn (by decide)
  try simp (disch := first | ((try simp (disch := first | ((try simp only [pn]) <;> omega) | fail) only [pn, pq]) <;> omega) | fail) only [pn, pq] at je15
  have je16 : ((b9g_now S2) 10).toInt = ((b9g_now S1) 10).toInt := by rw [eS2]; exact pt_updn (by decide)
  try simp (disch := first | ((try simp (disch := first | ((try simp only [pn]) <;> omega) | fail) only [pn, pq]) <;> omega) | fail) only [pn, pq] at je16
  have je17 : ((b9g_now S2) 12).toInt = ((b9g_now S1) 12).toInt := by rw [eS2]; exact pt_updn (by decide)
  try simp (disch := first | ((try simp (disch := first | ((try simp only [pn]) <;> omega) | fail) only [pn, pq]) <;> omega) | fail) only [pn, pq] at je17
  have jf18 : (-4 ≤ ((b9g_now S2) 1).toInt ∧ ((b9g_now S2) 1).toInt ≤ 4) ∧ (-3 ≤ ((b9g_now S2) 4).toInt ∧ ((b9g_now S2) 4).toInt ≤ 252) ∧ (0 ≤ ((b9g_now S2) 8).toInt ∧ ((b9g_now S2) 8).toInt ≤ 64) ∧ (0 ≤ ((b9g_now S2) 9).toInt ∧ ((b9g_now S2) 9).toInt ≤ 64) ∧ (0 ≤ ((b9g_now S2) 10).toInt ∧ ((b9g_now S2) 10).toInt ≤ 16) ∧ (0 ≤ ((b9g_now S2) 12).toInt ∧ ((b9g_now S2) 12).toInt ≤ 8) := J9g_now hJS2
  have ju18_S2 := hJS2.2
  exact hq _ _ hJS2 hFS2 (by (try simp (disch := first | ((try simp (disch := first | ((try simp only [pn]) <;> omega) | fail) only [pn, pq]) <;> omega) | fail) only [pn, pq]) <;> (intros; (try simp (disch := first | ((try simp (disch := first | ((try simp only [pn]) <;> omega) | fail) only [pn, pq]) <;> omega) | fail) only [pn, pq]) <;> omega)) (by (try simp (disch := first | ((try simp (disch := first | ((try simp only [pn]) <;> omega) | fail) only [pn, pq]) <;> omega) | fail) only [pn, pq]) <;> (intros; (try simp (disch := first | ((try simp (disch := first | ((try simp only [pn]) <;> omega) | fail) only [pn, pq]) <;> omega) | fail) only [pn, pq]) <;> omega)) (by ((try simp (disch := first | ((try simp (disch := first | ((try simp only [pn]) <;> omega) | fail) only [pn, pq]) <;> omega) | fail) only [pn, pq]) <;> (intros; (try simp (disch := first | ((try simp (disch := first | ((try simp only [pn]) <;> omega) | fail) only [pn, pq]) <;> omega) | fail) only [pn, pq]) <;> omega)))
def F_X9_draw (S u : bT9) : Prop := (b9g_told u) = (b9g_told S) ∧ (b9g_keys u) = (b9g_keys S) ∧ (b9g_lengths u) = (b9g_lengths S) ∧ (b9g_drawn u) = (b9g_drawn S) ∧ (b9g_drawnLength u) = (b9g_drawnLength S) ∧ (b9g_tape u) = (b9g_tape S) ∧ (b9g_taped u) = (b9g_taped S) ∧ (b9g_names u) = (b9g_names S) ∧ (b9g_chosen u) = (b9g_chosen S) ∧ (b9g_common u) = (b9g_common S) ∧ (b9g_beginning u) = (b9g_beginning S) ∧ (b9g_isLaid u) = (b9g_isLaid S) ∧ (b9g_nodeLevel u) = (b9g_nodeLevel S) ∧ (b9g_nodeLeaf u) = (b9g_nodeLeaf S) ∧ (b9g_nodeLeaves u) = (b9g_nodeLeaves S) ∧ (b9g_nodeMany u) = (b9g_nodeMany S) ∧ (b9g_levelMany u) = (b9g_levelMany S) ∧ (b9g_upper u) = (b9g_upper S) ∧ (b9g_upperNodes u) = (b9g_upperNodes S) ∧ (b9g_areNodesLaid u) = (b9g_areNodesLaid S) ∧ (b9g_itemNode u) = (b9g_itemNode S) ∧ (b9g_itemByte u) = (b9g_itemByte S) ∧ (b9g_itemChild u) = (b9g_itemChild S) ∧ (b9g_itemMany u) = (b9g_itemMany S) ∧ (b9g_placeOf u) = (b9g_placeOf S) ∧ (b9g_leafOfPlace u) = (b9g_leafOfPlace S) ∧ (b9g_places u) = (b9g_places S) ∧ (b9g_lowKey u) = (b9g_lowKey S) ∧ (b9g_highKey u) = (b9g_highKey S) ∧ (b9g_lowLength u) = (b9g_lowLength S) ∧ (b9g_highLength u) = (b9g_highLength S) ∧ (b9g_fromKey u) = (b9g_fromKey S) ∧ (b9g_toKey u) = (b9g_toKey S) ∧ (b9g_fromLength u) = (b9g_fromLength S) ∧ (b9g_toLength u) = (b9g_toLength S) ∧ (b9g_ones u) = (b9g_ones S) ∧ (b9g_oneMany u) = (b9g_oneMany S) ∧ (b9g_rowLong u) = (b9g_rowLong S) ∧ (b9g_laidFor u) = (b9g_laidFor S) ∧ (b9g_signs u) = (b9g_signs S) ∧ (b9g_signMany u) = (b9g_signMany S) ∧ (b9g_hasImage u) = (b9g_hasImage S) ∧ (b9g_images u) = (b9g_images S) ∧ (b9g_keyImages u) = (b9g_keyImages S) ∧ (b9g_lengthImages u) = (b9g_lengthImages S)
theorem sf_X9_draw {S : bT9} (hJ : J9 S) {a1 : Int32} {Q : Int32 → (bT9) → Prop} (hp0 : 0 < a1.toInt) (hq : ∀ (r : Int32) (u : bT9), (J9 u) → F_X9_draw S u → (0 ≤ r.toInt) → (r.toInt < a1.toInt) → (b9g_now u 7 = lcg (b9g_now S 7)) → (r = drw (b9g_now u 7) a1) → (b9g_now u 10 = b9g_now S 10) → Q r u) : wp_X9_draw S a1 Q := by
  unfold wp_X9_draw
  refine ⟨pt_in (by decide) (by decide), fun v1 e1 => ⟨pt_in (by decide) (by decide), fun S2 e2 => ⟨pt_in (by decide) (by decide), ?_, ?_⟩⟩⟩
  · intro h
    rw [h] at hp0
    exact absurd hp0 (by decide)
  · have r := pt_rem (pt_ushr8 ((b9g_now S2) ((7 : Int32)).toNatClampNeg)) hp0
    have c7 : ((7 : Int32)).toNatClampNeg = 7 := by decide
    have a : b9g_now S2 ((7 : Int32)).toNatClampNeg = v1 := Int32.toInt_inj.mp (by rw [e2]; exact pt_upds)
    have e7 : b9g_now S2 7 = lcg (b9g_now S 7) := by
      rw [c7] at a
      rw [c7] at e1
      rw [a, e1]
      rfl
    refine hq _ _ ?_ ?_ r.1 r.2 e7 ?_ (Int32.toInt_inj.mp (by rw [e2]; exact pt_updn (by decide)))
    · rw [e2]
      exact J9s_now hJ (NW_set (J9g_now hJ) (by (try simp (disch := first | ((try simp (disch := first | ((try simp only [pn]) <;> omega) | fail) only [pn, pq]) <;> omega) | fail) only [pn, pq]) <;> (intros; (try simp (disch := first | ((try simp (disch := first | ((try simp only [pn]) <;> omega) | fail) only [pn, pq]) <;> omega) | fail) only [pn, pq]) <;> omega)) (by (try simp (disch := first | ((try simp (disch := first | ((try simp only [pn]) <;> omega) | fail) only [pn, pq]) <;> omega) | fail) only [pn, pq]) <;> (intros; (try simp (disch := first | ((try simp (disch := first | ((try simp only [pn]) <;> omega) | fail) only [pn, pq]) <;> omega) | fail) only [pn, pq]) <;> omega)) (by (try simp (disch := first | ((try simp (disch := first | ((try simp only [pn]) <;> omega) | fail) only [pn, pq]) <;> omega) | fail) only [pn, pq]) <;> (intros; (try simp (disch := first | ((try simp (disch := first | ((try simp only [pn]) <;> omega) | fail) only [pn, pq]) <;> omega) | fail) only [pn, pq]) <;> omega)) (by (try simp (disch := first | ((try simp (disch := first | ((try simp only [pn]) <;> omega) | fail) only [pn, pq]) <;> omega) | fail) only [pn, pq]) <;> (intros; (try simp (disch := first | ((try simp (disch := first | ((try simp only [pn]) <;> omega) | fail) only [pn, pq]) <;> omega) | fail) only [pn, pq]) <;> omega)) (by (try simp (disch := first | ((try simp (disch := first | ((try simp only [pn]) <;> omega) | fail) only [pn, pq]) <;> omega) | fail) only [pn, pq]) <;> (intros; (try simp (disch := first | ((try simp (disch := first | ((try simp only [pn]) <;> omega) | fail) only [pn, pq]) <;> omega) | fail) only [pn, pq]) <;> omega)) (by (try simp (disch := first | ((try simp (disch := first | ((try simp only [pn]) <;> omega) | fail) only [pn, pq]) <;> omega) | fail) only [pn, pq]) <;> (intros; (try simp (disch := first | ((try simp (disch := first | ((try simp only [pn]) <;> omega) | fail) only [pn, pq]) <;> omega) | fail) only [pn, pq]) <;> omega)))
    · rw [e2]
      exact ⟨rfl, rfl, rfl, rfl, rfl, rfl, rfl, rfl, rfl, rfl, rfl, rfl, rfl, rfl, rfl, rfl, rfl, rfl, rfl, rfl, rfl, rfl, rfl, rfl, rfl, rfl, rfl, rfl, rfl, rfl, rfl, rfl, rfl, rfl, rfl, rfl, rfl, rfl, rfl, rfl, rfl, rfl, rfl, rfl, rfl⟩
    · rw [drw_1 (by omega), c7]
theorem sf_X9_low {S : bT9} (hJ : K9 S) {a1 : Int32} {Q : Int64 → Prop} (hq : ∀ r : Int64, (r = a1.toInt64 &&& (4294967295 : Int64)) → Q r) : wp_X9_low S a1 Q := by
  unfold wp_X9_low
  exact hq _ rfl
theorem sf_X9_cut {S : bT9} (hJ : K9 S) {a1 : Int64} {a3 : Int32} {Q : Int64 → Prop} (hq : ∀ r : Int64, (r = cutf a1 a3) → Q r) : wp_X9_cut S a1 a3 Q := by
  unfold wp_X9_cut
  exact ⟨fun c => hq _ (by unfold cutf; rw [if_neg c]), fun c => hq _ (by unfold cutf; rw [if_pos c])⟩
theorem sf_X9_keyOf {S : bT9} (hJ : K9 S) {a1 : Int32} {a2 : Int32} {a3 : Int32} {Q : Int64 → Prop} (hq : ∀ r : Int64, (r = KEY a1 a2 a3) → Q r) : wp_X9_keyOf S a1 a2 a3 Q := by
  unfold wp_X9_keyOf
  refine sf_X9_low hJ (fun r1 h1 => sf_X9_low hJ (fun r3 h3 => sf_X9_cut hJ (fun r5 h5 => hq _ ?_)))
  rw [h5, h1, h3]
  rfl
set_option maxRecDepth 20000 in
set_option maxHeartbeats 1000000 in
theorem sf_X9_isKey {S : bT9} (hJ : K9 S) {a1 : Int32} {Q : Int32 → Prop} (hq : ∀ r : Int32, bf_bool r → ((r.toInt = 1 ∧ 1 ≤ a1.toInt ∧ a1.toInt ≤ 8) ∨ (r.toInt = 0 ∧ (a1.toInt < 1 ∨ 8 < a1.toInt))) → Q r) : wp_X9_isKey S a1 Q := by
  unfold wp_X9_isKey
  have jf1 : (-4 ≤ ((b9g_now S) 1).toInt ∧ ((b9g_now S) 1).toInt ≤ 4) ∧ (-3 ≤ ((b9g_now S) 4).toInt ∧ ((b9g_now S) 4).toInt ≤ 252) ∧ (0 ≤ ((b9g_now S) 8).toInt ∧ ((b9g_now S) 8).toInt ≤ 64) ∧ (0 ≤ ((b9g_now S) 9).toInt ∧ ((b9g_now S) 9).toInt ≤ 64) ∧ (0 ≤ ((b9g_now S) 10).toInt ∧ ((b9g_now S) 10).toInt ≤ 16) ∧ (0 ≤ ((b9g_now S) 12).toInt ∧ ((b9g_now S) 12).toInt ≤ 8) := K9g_now hJ
  have rga1 := pt_rg a1
  refine sf_X9_isIn hJ (fun r1 hzr1 hr1_0 => ?_)
  try simp (disch := first | ((try simp (disch := first | ((try simp only [pn]) <;> omega) | fail) only [pn, pq]) <;> omega) | fail) only [pn, pq] at hr1_0
  exact ⟨by first | rfl | assumption, hq _ (by first | rfl | assumption) (by (try simp (disch := first | ((try simp (disch := first | ((try simp only [pn]) <;> omega) | fail) only [pn, pq]) <;> omega) | fail) only [pn, pq]) <;> (intros; (try simp (disch := first | ((try simp (disch := first | ((try simp only [pn]) <;> omega) | fail) only [pn, pq]) <;> omega) | fail) only [pn, pq]) <;> omega))⟩
set_option maxRecDepth 20000 in
set_option maxHeartbeats 1000000 in
theorem sf_X9_byteOf {S : bT9} (hJ : K9 S) {a1 : Int64} {a3 : Int32} {Q : Int32 → Prop} (hq : ∀ r : Int32, Q r) : wp_X9_byteOf S a1 a3 Q := by
  unfold wp_X9_byteOf
  have jf1 : (-4 ≤ ((b9g_now S) 1).toInt ∧ ((b9g_now S) 1).toInt ≤ 4) ∧ (-3 ≤ ((b9g_now S) 4).toInt ∧ ((b9g_now S) 4).toInt ≤ 252) ∧ (0 ≤ ((b9g_now S) 8).toInt ∧ ((b9g_now S) 8).toInt ≤ 64) ∧ (0 ≤ ((b9g_now S) 9).toInt ∧ ((b9g_now S) 9).toInt ≤ 64) ∧ (0 ≤ ((b9g_now S) 10).toInt ∧ ((b9g_now S) 10).toInt ≤ 16) ∧ (0 ≤ ((b9g_now S) 12).toInt ∧ ((b9g_now S) 12).toInt ≤ 8) := K9g_now hJ
  have rga3 := pt_rg a3
  exact hq _ 
set_option maxRecDepth 20000 in
set_option maxHeartbeats 1000000 in
theorem sf_X9_isLess {S : bT9} (hJ : K9 S) {a1 : Int64} {a3 : Int32} {a4 : Int64} {a6 : Int32} {Q : Int32 → Prop} (hq : ∀ r : Int32, bf_bool r → Q r) : wp_X9_isLess S a1 a3 a4 a6 Q := by
  unfold wp_X9_isLess
  have jf1 : (-4 ≤ ((b9g_now S) 1).toInt ∧ ((b9g_now S) 1).toInt ≤ 4) ∧ (-3 ≤ ((b9g_now S) 4).toInt ∧ ((b9g_now S) 4).toInt ≤ 252) ∧ (0 ≤ ((b9g_now S) 8).toInt ∧ ((b9g_now S) 8).toInt ≤ 64) ∧ (0 ≤ ((b9g_now S) 9).toInt ∧ ((b9g_now S) 9).toInt ≤ 64) ∧ (0 ≤ ((b9g_now S) 10).toInt ∧ ((b9g_now S) 10).toInt ≤ 16) ∧ (0 ≤ ((b9g_now S) 12).toInt ∧ ((b9g_now S) 12).toInt ≤ 8) := K9g_now hJ
  have rga3 := pt_rg a3
  have rga6 := pt_rg a6
  refine ⟨fun c1 => ?_, fun c1 => ?_⟩
  · try simp (disch := first | ((try simp (disch := first | ((try simp only [pn]) <;> omega) | fail) only [pn, pq]) <;> omega) | fail) only [pn, pq] at c1
    refine ⟨fun c2 => ?_, fun c2 => ?_⟩
    · try simp (disch := first | ((try simp (disch := first | ((try simp only [pn]) <;> omega) | fail) only [pn, pq]) <;> omega) | fail) only [pn, pq] at c2
      exact ⟨by first | rfl | assumption, hq _ (by first | rfl | assumption) ⟩
    · try simp (disch := first | ((try simp (disch := first | ((try simp only [pn]) <;> omega) | fail) only [pn, pq]) <;> omega) | fail) only [pn, pq] at c2
      exact ⟨by first | rfl | assumption, hq _ (by first | rfl | assumption) ⟩
  · try simp (disch := first | ((try simp (disch := first | ((try simp only [pn]) <;> omega) | fail) only [pn, pq]) <;> omega) | fail) only [pn, pq] at c1
    refine ⟨fun c3 => ?_, fun c3 => ?_⟩
    · try simp (disch := first | ((try simp (disch := first | ((try simp only [pn]) <;> omega) | fail) only [pn, pq]) <;> omega) | fail) only [pn, pq] at c3
      exact ⟨by first | rfl | assumption, hq _ (by first | rfl | assumption) ⟩
    · try simp (disch := first | ((try simp (disch := first | ((try simp only [pn]) <;> omega) | fail) only [pn, pq]) <;> omega) | fail) only [pn, pq] at c3
      exact ⟨by first | rfl | assumption, hq _ (by first | rfl | assumption) ⟩
theorem sf_X9_lessMany {S : bT9} (hJ : K9 S) {a1 : Int32} {a2 : Int32} {a3 : Int64} {a5 : Int32} {Q : Int32 → Prop} (hp0 : 0 ≤ a1.toInt) (hp1 : 0 ≤ a2.toInt) (hp2 : a1.toInt + a2.toInt ≤ 144) (hq : ∀ r : Int32, (0 ≤ r.toInt) → (r.toInt ≤ a2.toInt) → (LES (fun j => b9g_keys S (a1.toNatClampNeg + j)) (fun j => b9g_lengths S (a1.toNatClampNeg + j)) a2.toInt a3 a5 r.toInt) → Q r) : wp_X9_lessMany S a1 a2 a3 a5 Q := by
  have c1 := pt_clamp hp0
  unfold wp_X9_lessMany wp_X9_lessMany_3
  refine ⟨fun n x1 x2 x3 x5 x6 => x1 = a1 ∧ x2 = a2 ∧ x3 = a3 ∧ x5 = a5 ∧ 0 ≤ x6.toInt ∧ x6.toInt ≤ a2.toInt ∧ (∀ j : Nat, (j : Int) < x6.toInt → KLT (b9g_keys S (a1.toNatClampNeg + j)) (b9g_lengths S (a1.toNatClampNeg + j)) a3 a5) ∧ n = (a2.toInt - x6.toInt).toNat, ⟨_, rfl, rfl, rfl, rfl, by decide, hp1, fun j hj => by rw [pl_0] at hj; omega, rfl⟩, ?_⟩
  rintro n x1 x2 x3 x5 x6 ⟨e1, e2, e3, e5, h0, h2, hP, hn⟩
  unfold wp_X9_lessMany_3b
  rw [e1, e2, e3, e5]
  refine ⟨fun c => ?_, fun c => ?_⟩
  · simp only [pn] at c
    exact hq _ h0 h2 ⟨h0, h2, hP, fun j hj hc => by omega⟩
  simp only [pn] at c
  have ea : (a1 + x6).toInt = a1.toInt + x6.toInt := pt_add (by omega) (by omega)
  have ca := pt_clamp (i := a1 + x6) (by omega)
  have c6 := pt_clamp h0
  have ei : (a1 + x6).toNatClampNeg = a1.toNatClampNeg + x6.toNatClampNeg := by omega
  have x6' : (x6 + 1).toInt = x6.toInt + 1 := by rw [pt_add (by rw [pl_1]; omega) (by rw [pl_1]; omega), pl_1]
  have vin : vp_in (a1 + x6) 144 := pt_in (by omega) (by omega)
  refine ⟨vin, vin, fx_isLess (fun r hz h => ⟨fun g => ?_, fun g => ?_⟩)⟩
  · refine hq _ h0 h2 ⟨h0, h2, hP, fun j hj hc hh => ?_⟩
    have hh2 : KLT (b9g_keys S (a1.toNatClampNeg + j)) (b9g_lengths S (a1.toNatClampNeg + j)) a3 a5 := hh
    rw [show j = x6.toNatClampNeg by omega, ← ei] at hh2
    rcases h with h | h
    · rw [g] at h
      exact absurd h.1 (by decide)
    · exact h.2 hh2
  · refine ⟨_, ?_, rfl, rfl, rfl, rfl, by omega, by omega, fun j hj => ?_, rfl⟩
    · omega
    · by_cases hj2 : (j : Int) < x6.toInt
      · exact hP j hj2
      · rw [show j = x6.toNatClampNeg by omega, ← ei]
        rcases h with h | h
        · exact h.2
        · exact absurd (Int32.toInt_inj.mp h.1) g
theorem sf_X9_find {S : bT9} (hJ : K9 S) {a1 : Int32} {a2 : Int32} {a3 : Int64} {a5 : Int32} {Q : Int32 → Prop} (hp0 : 0 ≤ a1.toInt) (hp1 : 0 ≤ a2.toInt) (hp2 : a1.toInt + a2.toInt ≤ 144) (hq : ∀ r : Int32, (r.toInt = -1 ∨ (0 ≤ r.toInt ∧ r.toInt < a2.toInt)) → (SRT (fun j => b9g_keys S (a1.toNatClampNeg + j)) (fun j => b9g_lengths S (a1.toNatClampNeg + j)) a2.toInt → NUM (fun j => b9g_keys S (a1.toNatClampNeg + j)) (fun j => b9g_lengths S (a1.toNatClampNeg + j)) a2.toInt a3 a5 r.toInt) → Q r) : wp_X9_find S a1 a2 a3 a5 Q := by
  have c1 := pt_clamp hp0
  unfold wp_X9_find
  refine sf_X9_lessMany hJ hp0 hp1 hp2 (fun r h0 h2 hl => ⟨fun c => ?_, fun c => ?_⟩)
  · simp only [pn] at c
    exact hq _ (Or.inl rfl) (fun hs => Or.inr ⟨rfl, LES_no hs hl (fun j hj hc => by omega)⟩)
  simp only [pn] at c
  have ea : (a1 + r).toInt = a1.toInt + r.toInt := pt_add (by omega) (by omega)
  have ca := pt_clamp (i := a1 + r) (by omega)
  have c6 := pt_clamp h0
  have ei : (a1 + r).toNatClampNeg = a1.toNatClampNeg + r.toNatClampNeg := by omega
  have vin : vp_in (a1 + r) 144 := pt_in (by omega) (by omega)
  refine ⟨vin, fun d => ?_, fun d => ⟨vin, fun g => ?_, fun g => ?_⟩⟩
  · refine hq _ (Or.inl rfl) (fun hs => Or.inr ⟨rfl, LES_no hs hl (fun j hj hc hh => d ((lg_cmp_eq _ _).mpr ?_))⟩)
    rw [ei, show r.toNatClampNeg = j by omega]
    exact hh.1
  · refine hq _ (Or.inl rfl) (fun hs => Or.inr ⟨rfl, LES_no hs hl (fun j hj hc hh => g ?_)⟩)
    rw [ei, show r.toNatClampNeg = j by omega]
    exact hh.2
  · have d2 := (lg_cmp_eq _ _).mp d
    refine hq _ (Or.inr ⟨h0, by omega⟩) (fun hs => Or.inl ⟨h0, by omega, fun j hj => ?_⟩)
    rw [ei, show r.toNatClampNeg = j by omega] at d2 g
    exact ⟨d2, g⟩
def F_X9_comes (S u : bT9) : Prop := (b9g_told u) = (b9g_told S) ∧ (b9g_drawn u) = (b9g_drawn S) ∧ (b9g_drawnLength u) = (b9g_drawnLength S) ∧ (b9g_tape u) = (b9g_tape S) ∧ (b9g_taped u) = (b9g_taped S) ∧ (b9g_names u) = (b9g_names S) ∧ (b9g_chosen u) = (b9g_chosen S) ∧ (b9g_common u) = (b9g_common S) ∧ (b9g_beginning u) = (b9g_beginning S) ∧ (b9g_isLaid u) = (b9g_isLaid S) ∧ (b9g_nodeLevel u) = (b9g_nodeLevel S) ∧ (b9g_nodeLeaf u) = (b9g_nodeLeaf S) ∧ (b9g_nodeLeaves u) = (b9g_nodeLeaves S) ∧ (b9g_nodeMany u) = (b9g_nodeMany S) ∧ (b9g_levelMany u) = (b9g_levelMany S) ∧ (b9g_upper u) = (b9g_upper S) ∧ (b9g_upperNodes u) = (b9g_upperNodes S) ∧ (b9g_areNodesLaid u) = (b9g_areNodesLaid S) ∧ (b9g_itemNode u) = (b9g_itemNode S) ∧ (b9g_itemByte u) = (b9g_itemByte S) ∧ (b9g_itemChild u) = (b9g_itemChild S) ∧ (b9g_itemMany u) = (b9g_itemMany S) ∧ (b9g_placeOf u) = (b9g_placeOf S) ∧ (b9g_leafOfPlace u) = (b9g_leafOfPlace S) ∧ (b9g_places u) = (b9g_places S) ∧ (b9g_lowKey u) = (b9g_lowKey S) ∧ (b9g_highKey u) = (b9g_highKey S) ∧ (b9g_lowLength u) = (b9g_lowLength S) ∧ (b9g_highLength u) = (b9g_highLength S) ∧ (b9g_fromKey u) = (b9g_fromKey S) ∧ (b9g_toKey u) = (b9g_toKey S) ∧ (b9g_fromLength u) = (b9g_fromLength S) ∧ (b9g_toLength u) = (b9g_toLength S) ∧ (b9g_ones u) = (b9g_ones S) ∧ (b9g_oneMany u) = (b9g_oneMany S) ∧ (b9g_rowLong u) = (b9g_rowLong S) ∧ (b9g_laidFor u) = (b9g_laidFor S) ∧ (b9g_signs u) = (b9g_signs S) ∧ (b9g_signMany u) = (b9g_signMany S) ∧ (b9g_hasImage u) = (b9g_hasImage S) ∧ (b9g_images u) = (b9g_images S) ∧ (b9g_keyImages u) = (b9g_keyImages S) ∧ (b9g_lengthImages u) = (b9g_lengthImages S)
theorem sf_X9_comes {S : bT9} (hJ : J9 S) {a1 : Int64} {a3 : Int32} {Q : Int32 → (bT9) → Prop} (hp0 : 0 ≤ a3.toInt) (hp1 : a3.toInt ≤ 8) (hq : ∀ (r : Int32) (u : bT9), (J9 u) → F_X9_comes S u → (SRT (b9g_keys S) (b9g_lengths S) (b9g_now S 8).toInt → INS (b9g_keys S) (b9g_lengths S) (b9g_now S 8).toInt a1 a3 r.toInt (b9g_keys u) (b9g_lengths u) (b9g_now u 8).toInt) → (∀ j : Nat, 64 ≤ j → b9g_keys u j = b9g_keys S j ∧ b9g_lengths u j = b9g_lengths S j) → (∀ i : Nat, i ≠ 8 → b9g_now u i = b9g_now S i) → (b9g_now u 10 = b9g_now S 10) → (b9g_now u 7 = b9g_now S 7) → Q r u) : wp_X9_comes S a1 a3 Q := by
  have jn := (J9g_now hJ).2.2.1
  have c8 : ((8 : Int32)).toNatClampNeg = 8 := by decide
  have v8 : vp_in (8 : Int32) 23 := pt_in (by decide) (by decide)
  have h0S : F_X9_comes S S := ⟨rfl, rfl, rfl, rfl, rfl, rfl, rfl, rfl, rfl, rfl, rfl, rfl, rfl, rfl, rfl, rfl, rfl, rfl, rfl, rfl, rfl, rfl, rfl, rfl, rfl, rfl, rfl, rfl, rfl, rfl, rfl, rfl, rfl, rfl, rfl, rfl, rfl, rfl, rfl, rfl, rfl, rfl, rfl⟩
  unfold wp_X9_comes
  rw [c8]
  refine ⟨v8, fun c => ?_, fun c => ⟨v8, ?_⟩⟩
  · exact hq _ _ hJ h0S (fun hs => Or.inl ⟨rfl, rfl, fun j hj => ⟨rfl, rfl⟩, Or.inl (by rw [c]; decide)⟩) (fun j hj => ⟨rfl, rfl⟩) (fun i hi => rfl) rfl rfl
  have c' : (b9g_now S 8).toInt < 64 := by
    simp only [pn] at c
    omega
  refine sf_X9_find hJ.1 (by decide) jn.1 (by rw [pl_0]; omega) (fun r6 h6 hN => ⟨fun d => ⟨v8, ?_⟩, fun d => ?_⟩)
  rotate_left
  · refine hq _ _ hJ h0S (fun hs => ?_) (fun j hj => ⟨rfl, rfl⟩) (fun i hi => rfl) rfl rfl
    rw [sh0, sh0'] at hN
    rcases hN hs with ⟨a, b, e⟩ | ⟨a, b⟩
    · exact Or.inl ⟨rfl, rfl, fun j hj => ⟨rfl, rfl⟩, Or.inr ⟨r6.toInt.toNat, by omega, e _ (by omega)⟩⟩
    · exact absurd (Int32.toInt_inj.mp (a.trans pl_m1.symm)) d
  refine sf_X9_lessMany hJ.1 (by decide) jn.1 (by rw [pl_0]; omega) (fun r h0 h1 hl => ⟨v8, ?_⟩)
  rw [sh0, sh0'] at hN hl
  have hne : SRT (b9g_keys S) (b9g_lengths S) (b9g_now S 8).toInt → ∀ j : Nat, (j : Int) < (b9g_now S 8).toInt → ¬ (b9g_keys S j = a1 ∧ b9g_lengths S j = a3) := by
    intro hs
    rcases hN hs with ⟨a, b, e⟩ | ⟨a, b⟩
    · rw [d, pl_m1] at a
      omega
    · exact b
  unfold wp_X9_comes_57
  refine ⟨fun n x1 x3 x4 x5 V => x1 = a1 ∧ x3 = a3 ∧ x4 = r ∧ J9 V ∧ F_X9_comes S V ∧ b9g_now V = b9g_now S ∧ r.toInt ≤ x5.toInt ∧ x5.toInt ≤ (b9g_now S 8).toInt ∧ (∀ j : Nat, (j : Int) < x5.toInt ∨ 64 ≤ j → b9g_keys V j = b9g_keys S j ∧ b9g_lengths V j = b9g_lengths S j) ∧ (∀ j : Nat, x5.toInt ≤ (j : Int) → (j : Int) < (b9g_now S 8).toInt → b9g_keys V (j + 1) = b9g_keys S j ∧ b9g_lengths V (j + 1) = b9g_lengths S j) ∧ n = x5.toInt.toNat, ⟨_, rfl, rfl, rfl, hJ, h0S, rfl, h1, Int.le_refl _, fun j hj => ⟨rfl, rfl⟩, fun j hj hc => by omega, rfl⟩, ?_⟩
  rintro n x1 x3 x4 x5 V ⟨e1, e3, e4, hJV, hFV, eV, l1, l2, p1, p2, hn0⟩
  unfold wp_X9_comes_57b
  rw [e1, e3, e4, c8]
  have cr := pt_clamp h0
  refine ⟨fun g => ?_, fun g => ?_⟩
  · simp only [pn] at g
    have vin : vp_in r 144 := pt_in (by omega) (by omega)
    refine ⟨vin, fun S1 d1 => ⟨vin, fun S2 d2 => ⟨v8, v8, fun S3 d3 => ?_⟩⟩⟩
    have hJ1 : J9 S1 := by rw [d1]; exact J9s_keys hJV
    have hJ2 : J9 S2 := by rw [d2]; exact J9s_lengths hJ1 (pt_updr (J9g_lengths hJ1) ⟨hp0, hp1⟩)
    have en2 : b9g_now S2 = b9g_now S := by rw [d2, d1]; exact eV
    have e81 : (b9g_now S 8 + 1).toInt = (b9g_now S 8).toInt + 1 := by rw [pt_add (by rw [pl_1]; omega) (by rw [pl_1]; omega), pl_1]
    have en : b9g_now S3 = upd (b9g_now S) 8 (b9g_now S 8 + 1) := by rw [d3, en2]
    have hJ3 : J9 S3 := by
      rw [d3, en2, ← c8]
      refine J9s_now hJ2 (NW_set (J9g_now hJ) (fun e => absurd e (by decide)) (fun e => absurd e (by decide)) (fun _ => ⟨?_, ?_⟩) (fun e => absurd e (by decide)) (fun e => absurd e (by decide)) (fun e => absurd e (by decide)))
      · rw [c8, e81]; omega
      · rw [c8, e81]; omega
    have eb : b9g_keys S3 = vp_updL (b9g_keys V) r.toNatClampNeg a1 := by rw [d3, d2, d1]
    have el : b9g_lengths S3 = upd (b9g_lengths V) r.toNatClampNeg a3 := by rw [d3, d2, d1]
    have ec : (b9g_now S3 8).toInt = (b9g_now S 8).toInt + 1 := by rw [en]; unfold upd; rw [if_pos rfl]; exact e81
    have eo : ∀ i : Nat, i ≠ 8 → b9g_now S3 i = b9g_now S i := fun i hi => by rw [en]; unfold upd; rw [if_neg hi]
    refine hq _ _ hJ3 (by rw [d3, d2, d1]; exact hFV) (fun hs => Or.inr ⟨c', ec, hl, hne hs, fun j hj => ?_, fun j hj => ?_, fun j hj hc => ?_⟩) (fun j hj => ?_) eo (eo 10 (by decide)) (eo 7 (by decide))
    · rw [eb, el]
      unfold vp_updL upd
      rw [if_neg (by omega), if_neg (by omega)]
      exact p1 j (Or.inl (by omega))
    · rw [eb, el]
      unfold vp_updL upd
      rw [if_pos (by omega), if_pos (by omega)]
      exact ⟨rfl, rfl⟩
    · rw [eb, el]
      unfold vp_updL upd
      rw [if_neg (by omega), if_neg (by omega)]
      exact p2 j (by omega) hc
    · rw [eb, el]
      unfold vp_updL upd
      rw [if_neg (by omega), if_neg (by omega)]
      exact p1 j (Or.inr hj)
  · simp only [pn] at g
    have x1' : (x5 - 1).toInt = x5.toInt - 1 := by rw [pt_sub (by rw [pl_1]; omega) (by rw [pl_1]; omega), pl_1]
    have x2' : (x5 + (-1 : Int32)).toInt = x5.toInt - 1 := by
      rw [pt_add (by rw [pl_m1]; omega) (by rw [pl_m1]; omega), pl_m1]
      omega
    obtain ⟨y, hy⟩ : ∃ y : Int32, x5 + (-1 : Int32) = y := ⟨_, rfl⟩
    rw [hy] at x2'
    have c5 := pt_clamp (i := x5) (by omega)
    have c51 := pt_clamp (i := x5 - 1) (by omega)
    have v1 : vp_in (x5 - 1) 144 := pt_in (by omega) (by omega)
    have v2 : vp_in x5 144 := pt_in (by omega) (by omega)
    refine ⟨v1, v2, fun S4 d4 => ⟨v1, v2, fun S5 d5 => ?_⟩⟩
    rw [hy]
    have hJ4 : J9 S4 := by rw [d4]; exact J9s_keys hJV
    have hJ5 : J9 S5 := by rw [d5]; exact J9s_lengths hJ4 (pt_updr (J9g_lengths hJ4) (J9g_lengths hJ4 _))
    have eb : b9g_keys S5 = vp_updL (b9g_keys V) x5.toNatClampNeg (b9g_keys V (x5 - 1).toNatClampNeg) := by rw [d5, d4]
    have el : b9g_lengths S5 = upd (b9g_lengths V) x5.toNatClampNeg (b9g_lengths V (x5 - 1).toNatClampNeg) := by rw [d5, d4]
    refine ⟨_, ?_, rfl, rfl, rfl, hJ5, by rw [d5, d4]; exact hFV, by rw [d5, d4]; exact eV, by omega, by omega, fun j hj => ?_, fun j hj hc => ?_, rfl⟩
    · omega
    · rw [eb, el]
      unfold vp_updL upd
      rw [if_neg (by omega), if_neg (by omega)]
      exact p1 j (by omega)
    · rw [eb, el]
      unfold vp_updL upd
      by_cases h : j + 1 = x5.toNatClampNeg
      · rw [if_pos h, if_pos h, show (x5 - 1).toNatClampNeg = j by omega]
        exact p1 j (by omega)
      · rw [if_neg h, if_neg h]
        exact p2 j (by omega) hc
def F_X9_add (S u : bT9) : Prop := (b9g_drawn u) = (b9g_drawn S) ∧ (b9g_drawnLength u) = (b9g_drawnLength S) ∧ (b9g_tape u) = (b9g_tape S) ∧ (b9g_taped u) = (b9g_taped S) ∧ (b9g_names u) = (b9g_names S) ∧ (b9g_chosen u) = (b9g_chosen S) ∧ (b9g_common u) = (b9g_common S) ∧ (b9g_beginning u) = (b9g_beginning S) ∧ (b9g_isLaid u) = (b9g_isLaid S) ∧ (b9g_nodeLevel u) = (b9g_nodeLevel S) ∧ (b9g_nodeLeaf u) = (b9g_nodeLeaf S) ∧ (b9g_nodeLeaves u) = (b9g_nodeLeaves S) ∧ (b9g_nodeMany u) = (b9g_nodeMany S) ∧ (b9g_levelMany u) = (b9g_levelMany S) ∧ (b9g_upper u) = (b9g_upper S) ∧ (b9g_upperNodes u) = (b9g_upperNodes S) ∧ (b9g_areNodesLaid u) = (b9g_areNodesLaid S) ∧ (b9g_itemNode u) = (b9g_itemNode S) ∧ (b9g_itemByte u) = (b9g_itemByte S) ∧ (b9g_itemChild u) = (b9g_itemChild S) ∧ (b9g_itemMany u) = (b9g_itemMany S) ∧ (b9g_placeOf u) = (b9g_placeOf S) ∧ (b9g_leafOfPlace u) = (b9g_leafOfPlace S) ∧ (b9g_places u) = (b9g_places S) ∧ (b9g_lowKey u) = (b9g_lowKey S) ∧ (b9g_highKey u) = (b9g_highKey S) ∧ (b9g_lowLength u) = (b9g_lowLength S) ∧ (b9g_highLength u) = (b9g_highLength S) ∧ (b9g_fromKey u) = (b9g_fromKey S) ∧ (b9g_toKey u) = (b9g_toKey S) ∧ (b9g_fromLength u) = (b9g_fromLength S) ∧ (b9g_toLength u) = (b9g_toLength S) ∧ (b9g_ones u) = (b9g_ones S) ∧ (b9g_oneMany u) = (b9g_oneMany S) ∧ (b9g_rowLong u) = (b9g_rowLong S) ∧ (b9g_laidFor u) = (b9g_laidFor S) ∧ (b9g_signs u) = (b9g_signs S) ∧ (b9g_signMany u) = (b9g_signMany S) ∧ (b9g_hasImage u) = (b9g_hasImage S) ∧ (b9g_images u) = (b9g_images S) ∧ (b9g_keyImages u) = (b9g_keyImages S) ∧ (b9g_lengthImages u) = (b9g_lengthImages S)
theorem sf_X9_add {S : bT9} (hJ : J9 S) {a1 : Int32} {a2 : Int32} {a3 : Int32} {Q : Int32 → (bT9) → Prop} (hq : ∀ (r : Int32) (u : bT9), (J9 u) → F_X9_add S u → (SRT (b9g_keys S) (b9g_lengths S) (b9g_now S 8).toInt → (1 ≤ a3.toInt ∧ a3.toInt ≤ 8 → INS (b9g_keys S) (b9g_lengths S) (b9g_now S 8).toInt (KEY a1 a2 a3) a3 r.toInt (b9g_keys u) (b9g_lengths u) (b9g_now u 8).toInt) ∧ (¬ (1 ≤ a3.toInt ∧ a3.toInt ≤ 8) → r.toInt = -1 ∧ b9g_keys u = b9g_keys S ∧ b9g_lengths u = b9g_lengths S ∧ b9g_now u 8 = b9g_now S 8)) → (∀ j : Nat, 64 ≤ j → b9g_keys u j = b9g_keys S j ∧ b9g_lengths u j = b9g_lengths S j) → (∀ i : Nat, i ≠ 8 → b9g_now u i = b9g_now S i) → (b9g_now u 10 = b9g_now S 10) → (b9g_now u 7 = b9g_now S 7) → Q r u) : wp_X9_add S a1 a2 a3 Q := by
  unfold wp_X9_add
  intro S1 e1
  have hJ1 : J9 S1 := by rw [e1]; exact J9s_told hJ
  have hF1 : F_X9_add S S1 := by rw [e1]; exact ⟨rfl, rfl, rfl, rfl, rfl, rfl, rfl, rfl, rfl, rfl, rfl, rfl, rfl, rfl, rfl, rfl, rfl, rfl, rfl, rfl, rfl, rfl, rfl, rfl, rfl, rfl, rfl, rfl, rfl, rfl, rfl, rfl, rfl, rfl, rfl, rfl, rfl, rfl, rfl, rfl, rfl, rfl⟩
  have ek : b9g_keys S1 = b9g_keys S := by rw [e1]
  have el : b9g_lengths S1 = b9g_lengths S := by rw [e1]
  have en : b9g_now S1 = b9g_now S := by rw [e1]
  refine sf_X9_isKey hJ1.1 (fun r2 hz h2 => ⟨fun c => ?_, fun c => ?_⟩)
  · simp only [pn] at c
    exact hq _ _ hJ1 hF1 (fun _ => ⟨fun h => by omega, fun _ => ⟨rfl, ek, el, by rw [en]⟩⟩) (fun j hj => ⟨by rw [ek], by rw [el]⟩) (fun i hi => by rw [en]) (by rw [en]) (by rw [en])
  · simp only [pn] at c
    have hn : 1 ≤ a3.toInt ∧ a3.toInt ≤ 8 := by omega
    refine sf_X9_keyOf hJ1.1 (fun r4 h4 => ?_)
    refine sf_X9_comes hJ1 (by omega) (by omega) (fun r6 u7 hJ7 hf7 hI hO hN g10 g7 => ?_)
    rw [ek, el, en, h4] at hI
    rw [ek, el] at hO
    rw [en] at hN g10 g7
    exact hq _ _ hJ7 ⟨(hf7.2.1).trans (hF1.1), (hf7.2.2.1).trans (hF1.2.1), (hf7.2.2.2.1).trans (hF1.2.2.1), (hf7.2.2.2.2.1).trans (hF1.2.2.2.1), (hf7.2.2.2.2.2.1).trans (hF1.2.2.2.2.1), (hf7.2.2.2.2.2.2.1).trans (hF1.2.2.2.2.2.1), (hf7.2.2.2.2.2.2.2.1).trans (hF1.2.2.2.2.2.2.1), (hf7.2.2.2.2.2.2.2.2.1).trans (hF1.2.2.2.2.2.2.2.1), (hf7.2.2.2.2.2.2.2.2.2.1).trans (hF1.2.2.2.2.2.2.2.2.1), (hf7.2.2.2.2.2.2.2.2.2.2.1).trans (hF1.2.2.2.2.2.2.2.2.2.1), (hf7.2.2.2.2.2.2.2.2.2.2.2.1).trans (hF1.2.2.2.2.2.2.2.2.2.2.1), (hf7.2.2.2.2.2.2.2.2.2.2.2.2.1).trans (hF1.2.2.2.2.2.2.2.2.2.2.2.1), (hf7.2.2.2.2.2.2.2.2.2.2.2.2.2.1).trans (hF1.2.2.2.2.2.2.2.2.2.2.2.2.1), (hf7.2.2.2.2.2.2.2.2.2.2.2.2.2.2.1).trans (hF1.2.2.2.2.2.2.2.2.2.2.2.2.2.1), (hf7.2.2.2.2.2.2.2.2.2.2.2.2.2.2.2.1).trans (hF1.2.2.2.2.2.2.2.2.2.2.2.2.2.2.1), (hf7.2.2.2.2.2.2.2.2.2.2.2.2.2.2.2.2.1).trans (hF1.2.2.2.2.2.2.2.2.2.2.2.2.2.2.2.1), (hf7.2.2.2.2.2.2.2.2.2.2.2.2.2.2.2.2.2.1).trans (hF1.2.2.2.2.2.2.2.2.2.2.2.2.2.2.2.2.1), (hf7.2.2.2.2.2.2.2.2.2.2.2.2.2.2.2.2.2.2.1).trans (hF1.2.2.2.2.2.2.2.2.2.2.2.2.2.2.2.2.2.1), (hf7.2.2.2.2.2.2.2.2.2.2.2.2.2.2.2.2.2.2.2.1).trans (hF1.2.2.2.2.2.2.2.2.2.2.2.2.2.2.2.2.2.2.1), (hf7.2.2.2.2.2.2.2.2.2.2.2.2.2.2.2.2.2.2.2.2.1).trans (hF1.2.2.2.2.2.2.2.2.2.2.2.2.2.2.2.2.2.2.2.1), (hf7.2.2.2.2.2.2.2.2.2.2.2.2.2.2.2.2.2.2.2.2.2.1).trans (hF1.2.2.2.2.2.2.2.2.2.2.2.2.2.2.2.2.2.2.2.2.1), (hf7.2.2.2.2.2.2.2.2.2.2.2.2.2.2.2.2.2.2.2.2.2.2.1).trans (hF1.2.2.2.2.2.2.2.2.2.2.2.2.2.2.2.2.2.2.2.2.2.1), (hf7.2.2.2.2.2.2.2.2.2.2.2.2.2.2.2.2.2.2.2.2.2.2.2.1).trans (hF1.2.2.2.2.2.2.2.2.2.2.2.2.2.2.2.2.2.2.2.2.2.2.1), (hf7.2.2.2.2.2.2.2.2.2.2.2.2.2.2.2.2.2.2.2.2.2.2.2.2.1).trans (hF1.2.2.2.2.2.2.2.2.2.2.2.2.2.2.2.2.2.2.2.2.2.2.2.1), (hf7.2.2.2.2.2.2.2.2.2.2.2.2.2.2.2.2.2.2.2.2.2.2.2.2.2.1).trans (hF1.2.2.2.2.2.2.2.2.2.2.2.2.2.2.2.2.2.2.2.2.2.2.2.2.1), (hf7.2.2.2.2.2.2.2.2.2.2.2.2.2.2.2.2.2.2.2.2.2.2.2.2.2.2.1).trans (hF1.2.2.2.2.2.2.2.2.2.2.2.2.2.2.2.2.2.2.2.2.2.2.2.2.2.1), (hf7.2.2.2.2.2.2.2.2.2.2.2.2.2.2.2.2.2.2.2.2.2.2.2.2.2.2.2.1).trans (hF1.2.2.2.2.2.2.2.2.2.2.2.2.2.2.2.2.2.2.2.2.2.2.2.2.2.2.1), (hf7.2.2.2.2.2.2.2.2.2.2.2.2.2.2.2.2.2.2.2.2.2.2.2.2.2.2.2.2.1).trans (hF1.2.2.2.2.2.2.2.2.2.2.2.2.2.2.2.2.2.2.2.2.2.2.2.2.2.2.2.1), (hf7.2.2.2.2.2.2.2.2.2.2.2.2.2.2.2.2.2.2.2.2.2.2.2.2.2.2.2.2.2.1).trans (hF1.2.2.2.2.2.2.2.2.2.2.2.2.2.2.2.2.2.2.2.2.2.2.2.2.2.2.2.2.1), (hf7.2.2.2.2.2.2.2.2.2.2.2.2.2.2.2.2.2.2.2.2.2.2.2.2.2.2.2.2.2.2.1).trans (hF1.2.2.2.2.2.2.2.2.2.2.2.2.2.2.2.2.2.2.2.2.2.2.2.2.2.2.2.2.2.1), (hf7.2.2.2.2.2.2.2.2.2.2.2.2.2.2.2.2.2.2.2.2.2.2.2.2.2.2.2.2.2.2.2.1).trans (hF1.2.2.2.2.2.2.2.2.2.2.2.2.2.2.2.2.2.2.2.2.2.2.2.2.2.2.2.2.2.2.1), (hf7.2.2.2.2.2.2.2.2.2.2.2.2.2.2.2.2.2.2.2.2.2.2.2.2.2.2.2.2.2.2.2.2.1).trans (hF1.2.2.2.2.2.2.2.2.2.2.2.2.2.2.2.2.2.2.2.2.2.2.2.2.2.2.2.2.2.2.2.1), (hf7.2.2.2.2.2.2.2.2.2.2.2.2.2.2.2.2.2.2.2.2.2.2.2.2.2.2.2.2.2.2.2.2.2.1).trans (hF1.2.2.2.2.2.2.2.2.2.2.2.2.2.2.2.2.2.2.2.2.2.2.2.2.2.2.2.2.2.2.2.2.1), (hf7.2.2.2.2.2.2.2.2.2.2.2.2.2.2.2.2.2.2.2.2.2.2.2.2.2.2.2.2.2.2.2.2.2.2.1).trans (hF1.2.2.2.2.2.2.2.2.2.2.2.2.2.2.2.2.2.2.2.2.2.2.2.2.2.2.2.2.2.2.2.2.2.1), (hf7.2.2.2.2.2.2.2.2.2.2.2.2.2.2.2.2.2.2.2.2.2.2.2.2.2.2.2.2.2.2.2.2.2.2.2.1).trans (hF1.2.2.2.2.2.2.2.2.2.2.2.2.2.2.2.2.2.2.2.2.2.2.2.2.2.2.2.2.2.2.2.2.2.2.1), (hf7.2.2.2.2.2.2.2.2.2.2.2.2.2.2.2.2.2.2.2.2.2.2.2.2.2.2.2.2.2.2.2.2.2.2.2.2.1).trans (hF1.2.2.2.2.2.2.2.2.2.2.2.2.2.2.2.2.2.2.2.2.2.2.2.2.2.2.2.2.2.2.2.2.2.2.2.1), (hf7.2.2.2.2.2.2.2.2.2.2.2.2.2.2.2.2.2.2.2.2.2.2.2.2.2.2.2.2.2.2.2.2.2.2.2.2.2.1).trans (hF1.2.2.2.2.2.2.2.2.2.2.2.2.2.2.2.2.2.2.2.2.2.2.2.2.2.2.2.2.2.2.2.2.2.2.2.2.1), (hf7.2.2.2.2.2.2.2.2.2.2.2.2.2.2.2.2.2.2.2.2.2.2.2.2.2.2.2.2.2.2.2.2.2.2.2.2.2.2.1).trans (hF1.2.2.2.2.2.2.2.2.2.2.2.2.2.2.2.2.2.2.2.2.2.2.2.2.2.2.2.2.2.2.2.2.2.2.2.2.2.1), (hf7.2.2.2.2.2.2.2.2.2.2.2.2.2.2.2.2.2.2.2.2.2.2.2.2.2.2.2.2.2.2.2.2.2.2.2.2.2.2.2.1).trans (hF1.2.2.2.2.2.2.2.2.2.2.2.2.2.2.2.2.2.2.2.2.2.2.2.2.2.2.2.2.2.2.2.2.2.2.2.2.2.2.1), (hf7.2.2.2.2.2.2.2.2.2.2.2.2.2.2.2.2.2.2.2.2.2.2.2.2.2.2.2.2.2.2.2.2.2.2.2.2.2.2.2.2.1).trans (hF1.2.2.2.2.2.2.2.2.2.2.2.2.2.2.2.2.2.2.2.2.2.2.2.2.2.2.2.2.2.2.2.2.2.2.2.2.2.2.2.1), (hf7.2.2.2.2.2.2.2.2.2.2.2.2.2.2.2.2.2.2.2.2.2.2.2.2.2.2.2.2.2.2.2.2.2.2.2.2.2.2.2.2.2.1).trans (hF1.2.2.2.2.2.2.2.2.2.2.2.2.2.2.2.2.2.2.2.2.2.2.2.2.2.2.2.2.2.2.2.2.2.2.2.2.2.2.2.2.1), (hf7.2.2.2.2.2.2.2.2.2.2.2.2.2.2.2.2.2.2.2.2.2.2.2.2.2.2.2.2.2.2.2.2.2.2.2.2.2.2.2.2.2.2).trans (hF1.2.2.2.2.2.2.2.2.2.2.2.2.2.2.2.2.2.2.2.2.2.2.2.2.2.2.2.2.2.2.2.2.2.2.2.2.2.2.2.2.2)⟩ (fun hs => ⟨fun _ => hI hs, fun h => absurd hn h⟩) hO hN g10 g7
def F_X9_remove (S u : bT9) : Prop := (b9g_drawn u) = (b9g_drawn S) ∧ (b9g_drawnLength u) = (b9g_drawnLength S) ∧ (b9g_tape u) = (b9g_tape S) ∧ (b9g_taped u) = (b9g_taped S) ∧ (b9g_names u) = (b9g_names S) ∧ (b9g_chosen u) = (b9g_chosen S) ∧ (b9g_common u) = (b9g_common S) ∧ (b9g_beginning u) = (b9g_beginning S) ∧ (b9g_isLaid u) = (b9g_isLaid S) ∧ (b9g_nodeLevel u) = (b9g_nodeLevel S) ∧ (b9g_nodeLeaf u) = (b9g_nodeLeaf S) ∧ (b9g_nodeLeaves u) = (b9g_nodeLeaves S) ∧ (b9g_nodeMany u) = (b9g_nodeMany S) ∧ (b9g_levelMany u) = (b9g_levelMany S) ∧ (b9g_upper u) = (b9g_upper S) ∧ (b9g_upperNodes u) = (b9g_upperNodes S) ∧ (b9g_areNodesLaid u) = (b9g_areNodesLaid S) ∧ (b9g_itemNode u) = (b9g_itemNode S) ∧ (b9g_itemByte u) = (b9g_itemByte S) ∧ (b9g_itemChild u) = (b9g_itemChild S) ∧ (b9g_itemMany u) = (b9g_itemMany S) ∧ (b9g_placeOf u) = (b9g_placeOf S) ∧ (b9g_leafOfPlace u) = (b9g_leafOfPlace S) ∧ (b9g_places u) = (b9g_places S) ∧ (b9g_lowKey u) = (b9g_lowKey S) ∧ (b9g_highKey u) = (b9g_highKey S) ∧ (b9g_lowLength u) = (b9g_lowLength S) ∧ (b9g_highLength u) = (b9g_highLength S) ∧ (b9g_fromKey u) = (b9g_fromKey S) ∧ (b9g_toKey u) = (b9g_toKey S) ∧ (b9g_fromLength u) = (b9g_fromLength S) ∧ (b9g_toLength u) = (b9g_toLength S) ∧ (b9g_ones u) = (b9g_ones S) ∧ (b9g_oneMany u) = (b9g_oneMany S) ∧ (b9g_rowLong u) = (b9g_rowLong S) ∧ (b9g_laidFor u) = (b9g_laidFor S) ∧ (b9g_signs u) = (b9g_signs S) ∧ (b9g_signMany u) = (b9g_signMany S) ∧ (b9g_hasImage u) = (b9g_hasImage S) ∧ (b9g_images u) = (b9g_images S) ∧ (b9g_keyImages u) = (b9g_keyImages S) ∧ (b9g_lengthImages u) = (b9g_lengthImages S)
theorem sf_X9_remove {S : bT9} (hJ : J9 S) {a1 : Int32} {a2 : Int32} {a3 : Int32} {Q : Int32 → (bT9) → Prop} (hq : ∀ (r : Int32) (u : bT9), (J9 u) → F_X9_remove S u → (SRT (b9g_keys S) (b9g_lengths S) (b9g_now S 8).toInt → (1 ≤ a3.toInt ∧ a3.toInt ≤ 8 → NUM (b9g_keys S) (b9g_lengths S) (b9g_now S 8).toInt (KEY a1 a2 a3) a3 r.toInt) ∧ (¬ (1 ≤ a3.toInt ∧ a3.toInt ≤ 8) → r.toInt = -1)) → (DRP (b9g_keys S) (b9g_lengths S) (b9g_now S 8).toInt r.toInt (b9g_keys u) (b9g_lengths u) (b9g_now u 8).toInt) → (∀ j : Nat, 64 ≤ j → b9g_keys u j = b9g_keys S j ∧ b9g_lengths u j = b9g_lengths S j) → (∀ i : Nat, i ≠ 8 → b9g_now u i = b9g_now S i) → (b9g_now u 10 = b9g_now S 10) → (b9g_now u 7 = b9g_now S 7) → Q r u) : wp_X9_remove S a1 a2 a3 Q := by
  have jn := (J9g_now hJ).2.2.1
  have c8 : ((8 : Int32)).toNatClampNeg = 8 := by decide
  have v8 : vp_in (8 : Int32) 23 := pt_in (by decide) (by decide)
  unfold wp_X9_remove
  intro S1 e1
  have hJ1 : J9 S1 := by rw [e1]; exact J9s_told hJ
  have hF1 : F_X9_remove S S1 := by rw [e1]; exact ⟨rfl, rfl, rfl, rfl, rfl, rfl, rfl, rfl, rfl, rfl, rfl, rfl, rfl, rfl, rfl, rfl, rfl, rfl, rfl, rfl, rfl, rfl, rfl, rfl, rfl, rfl, rfl, rfl, rfl, rfl, rfl, rfl, rfl, rfl, rfl, rfl, rfl, rfl, rfl, rfl, rfl, rfl⟩
  have ek : b9g_keys S1 = b9g_keys S := by rw [e1]
  have el : b9g_lengths S1 = b9g_lengths S := by rw [e1]
  have en : b9g_now S1 = b9g_now S := by rw [e1]
  have go : ∀ t : Int32, (t.toInt = -1 ∨ (0 ≤ t.toInt ∧ t.toInt < (b9g_now S 8).toInt)) → (SRT (b9g_keys S) (b9g_lengths S) (b9g_now S 8).toInt → (1 ≤ a3.toInt ∧ a3.toInt ≤ 8 → NUM (b9g_keys S) (b9g_lengths S) (b9g_now S 8).toInt (KEY a1 a2 a3) a3 t.toInt) ∧ (¬ (1 ≤ a3.toInt ∧ a3.toInt ≤ 8) → t.toInt = -1)) → wp_X9_remove_37 S1 t Q := by
    intro t ht hN
    unfold wp_X9_remove_37
    rw [c8, en]
    refine ⟨fun c => ⟨v8, v8, fun S3 e3 => ?_⟩, fun c => ?_⟩
    rotate_left
    · refine hq _ _ hJ1 hF1 ?_ (Or.inl ⟨by rw [pl_m1]; omega, by rw [en], fun j hj => ⟨by rw [ek], by rw [el]⟩⟩) (fun j hj => ⟨by rw [ek], by rw [el]⟩) (fun i hi => by rw [en]) (by rw [en]) (by rw [en])
      rw [c] at hN
      exact hN
    simp only [pn] at c
    have t0 : 0 ≤ t.toInt ∧ t.toInt < (b9g_now S 8).toInt := by omega
    have e81 : (b9g_now S 8 - 1).toInt = (b9g_now S 8).toInt - 1 := by rw [pt_sub (by rw [pl_1]; omega) (by rw [pl_1]; omega), pl_1]
    have en3 : b9g_now S3 = upd (b9g_now S) 8 (b9g_now S 8 - 1) := by rw [e3]
    have hJ3 : J9 S3 := by
      rw [e3, ← c8]
      refine J9s_now hJ1 (NW_set (J9g_now hJ) (fun e => absurd e (by decide)) (fun e => absurd e (by decide)) (fun _ => ⟨?_, ?_⟩) (fun e => absurd e (by decide)) (fun e => absurd e (by decide)) (fun e => absurd e (by decide)))
      · rw [c8, e81]; omega
      · rw [c8, e81]; omega
    have ec3 : (b9g_now S3 8).toInt = (b9g_now S 8).toInt - 1 := by rw [en3]; unfold upd; rw [if_pos rfl]; exact e81
    have eo3 : ∀ i : Nat, i ≠ 8 → b9g_now S3 i = b9g_now S i := fun i hi => by rw [en3]; unfold upd; rw [if_neg hi]
    unfold wp_X9_remove_67
    refine ⟨fun n x4 x5 V => x4 = t ∧ J9 V ∧ F_X9_remove S V ∧ b9g_now V = b9g_now S3 ∧ t.toInt ≤ x5.toInt ∧ x5.toInt ≤ (b9g_now S 8).toInt - 1 ∧ (∀ j : Nat, (j : Int) < t.toInt ∨ x5.toInt ≤ (j : Int) → b9g_keys V j = b9g_keys S j ∧ b9g_lengths V j = b9g_lengths S j) ∧ (∀ j : Nat, t.toInt ≤ (j : Int) → (j : Int) < x5.toInt → b9g_keys V j = b9g_keys S (j + 1) ∧ b9g_lengths V j = b9g_lengths S (j + 1)) ∧ n = ((b9g_now S 8).toInt - x5.toInt).toNat, ⟨_, rfl, hJ3, by rw [e3]; exact hF1, rfl, Int.le_refl _, by omega, fun j hj => ⟨by rw [e3]; exact congrFun ek j, by rw [e3]; exact congrFun el j⟩, fun j hj hc => by omega, rfl⟩, ?_⟩
    rintro n x4 x5 V ⟨ex, hJV, hFV, eV, l1, l2, p1, p2, hn0⟩
    unfold wp_X9_remove_67b
    rw [ex, c8, eV]
    have ec5 := pt_clamp (i := x5) (by omega)
    refine ⟨v8, fun d => ?_, fun d => ?_⟩
    · simp only [pn] at d
      refine hq _ _ hJV hFV hN (Or.inr ⟨t0.1, t0.2, by rw [eV]; exact ec3, fun j hj => p1 j (Or.inl hj), fun j hj hc => p2 j hj (by omega)⟩) (fun j hj => p1 j (Or.inr (by omega))) (fun i hi => by rw [eV]; exact eo3 i hi) (by rw [eV]; exact eo3 10 (by decide)) (by rw [eV]; exact eo3 7 (by decide))
    · simp only [pn] at d
      have x1' : (x5 + 1).toInt = x5.toInt + 1 := by rw [pt_add (by rw [pl_1]; omega) (by rw [pl_1]; omega), pl_1]
      have c51 := pt_clamp (i := x5 + 1) (by omega)
      have v1 : vp_in (x5 + 1) 144 := pt_in (by omega) (by omega)
      have v2 : vp_in x5 144 := pt_in (by omega) (by omega)
      refine ⟨v1, v2, fun S4 d4 => ⟨v1, v2, fun S5 d5 => ?_⟩⟩
      have hJ4 : J9 S4 := by rw [d4]; exact J9s_keys hJV
      have hJ5 : J9 S5 := by rw [d5]; exact J9s_lengths hJ4 (pt_updr (J9g_lengths hJ4) (J9g_lengths hJ4 _))
      have eb : b9g_keys S5 = vp_updL (b9g_keys V) x5.toNatClampNeg (b9g_keys V (x5 + 1).toNatClampNeg) := by rw [d5, d4]
      have eg : b9g_lengths S5 = upd (b9g_lengths V) x5.toNatClampNeg (b9g_lengths V (x5 + 1).toNatClampNeg) := by rw [d5, d4]
      refine ⟨_, ?_, rfl, hJ5, by rw [d5, d4]; exact hFV, by rw [d5, d4]; exact eV, by omega, by omega, fun j hj => ?_, fun j hj hc => ?_, rfl⟩
      · omega
      · rw [eb, eg]
        unfold vp_updL upd
        rw [if_neg (by omega), if_neg (by omega)]
        exact p1 j (by omega)
      · rw [eb, eg]
        unfold vp_updL upd
        by_cases h : j = x5.toNatClampNeg
        · rw [if_pos h, if_pos h, show (x5 + 1).toNatClampNeg = j + 1 by omega]
          exact p1 (j + 1) (by omega)
        · rw [if_neg h, if_neg h]
          exact p2 j hj (by omega)
  refine sf_X9_isKey hJ1.1 (fun r2 hz h2 => ⟨fun c => ?_, fun c => ⟨v8, ?_⟩⟩)
  · simp only [pn] at c
    exact go _ (Or.inl rfl) (fun _ => ⟨fun h => by omega, fun _ => rfl⟩)
  · simp only [pn] at c
    have hn : 1 ≤ a3.toInt ∧ a3.toInt ≤ 8 := by omega
    refine sf_X9_keyOf hJ1.1 (fun r4 h4 => ?_)
    rw [c8, en]
    refine sf_X9_find hJ1.1 (by decide) jn.1 (by rw [pl_0]; omega) (fun r6 h6 hN => ?_)
    rw [sh0, sh0', ek, el, h4] at hN
    exact go _ h6 (fun hs => ⟨fun _ => hN hs, fun h => absurd hn h⟩)
def F_X9_has (S u : bT9) : Prop := (b9g_now u) = (b9g_now S) ∧ (b9g_keys u) = (b9g_keys S) ∧ (b9g_lengths u) = (b9g_lengths S) ∧ (b9g_drawn u) = (b9g_drawn S) ∧ (b9g_drawnLength u) = (b9g_drawnLength S) ∧ (b9g_tape u) = (b9g_tape S) ∧ (b9g_taped u) = (b9g_taped S) ∧ (b9g_names u) = (b9g_names S) ∧ (b9g_chosen u) = (b9g_chosen S) ∧ (b9g_common u) = (b9g_common S) ∧ (b9g_beginning u) = (b9g_beginning S) ∧ (b9g_isLaid u) = (b9g_isLaid S) ∧ (b9g_nodeLevel u) = (b9g_nodeLevel S) ∧ (b9g_nodeLeaf u) = (b9g_nodeLeaf S) ∧ (b9g_nodeLeaves u) = (b9g_nodeLeaves S) ∧ (b9g_nodeMany u) = (b9g_nodeMany S) ∧ (b9g_levelMany u) = (b9g_levelMany S) ∧ (b9g_upper u) = (b9g_upper S) ∧ (b9g_upperNodes u) = (b9g_upperNodes S) ∧ (b9g_areNodesLaid u) = (b9g_areNodesLaid S) ∧ (b9g_itemNode u) = (b9g_itemNode S) ∧ (b9g_itemByte u) = (b9g_itemByte S) ∧ (b9g_itemChild u) = (b9g_itemChild S) ∧ (b9g_itemMany u) = (b9g_itemMany S) ∧ (b9g_placeOf u) = (b9g_placeOf S) ∧ (b9g_leafOfPlace u) = (b9g_leafOfPlace S) ∧ (b9g_places u) = (b9g_places S) ∧ (b9g_lowKey u) = (b9g_lowKey S) ∧ (b9g_highKey u) = (b9g_highKey S) ∧ (b9g_lowLength u) = (b9g_lowLength S) ∧ (b9g_highLength u) = (b9g_highLength S) ∧ (b9g_fromKey u) = (b9g_fromKey S) ∧ (b9g_toKey u) = (b9g_toKey S) ∧ (b9g_fromLength u) = (b9g_fromLength S) ∧ (b9g_toLength u) = (b9g_toLength S) ∧ (b9g_ones u) = (b9g_ones S) ∧ (b9g_oneMany u) = (b9g_oneMany S) ∧ (b9g_rowLong u) = (b9g_rowLong S) ∧ (b9g_laidFor u) = (b9g_laidFor S) ∧ (b9g_signs u) = (b9g_signs S) ∧ (b9g_signMany u) = (b9g_signMany S) ∧ (b9g_hasImage u) = (b9g_hasImage S) ∧ (b9g_images u) = (b9g_images S) ∧ (b9g_keyImages u) = (b9g_keyImages S) ∧ (b9g_lengthImages u) = (b9g_lengthImages S)
set_option maxRecDepth 20000 in
set_option maxHeartbeats 1000000 in
theorem sf_X9_has {S : bT9} (hJ : J9 S) {a1 : Int32} {a2 : Int32} {a3 : Int32} {a4 : Int32} {Q : Int32 → (bT9) → Prop} (hq : ∀ (r : Int32) (u : bT9), (J9 u) → F_X9_has S u → Q r u) : wp_X9_has S a1 a2 a3 a4 Q := by
  unfold wp_X9_has
  have hFS : F_X9_has S S := ⟨rfl, rfl, rfl, rfl, rfl, rfl, rfl, rfl, rfl, rfl, rfl, rfl, rfl, rfl, rfl, rfl, rfl, rfl, rfl, rfl, rfl, rfl, rfl, rfl, rfl, rfl, rfl, rfl, rfl, rfl, rfl, rfl, rfl, rfl, rfl, rfl, rfl, rfl, rfl, rfl, rfl, rfl, rfl, rfl, rfl⟩
  have jf1 : (-4 ≤ ((b9g_now S) 1).toInt ∧ ((b9g_now S) 1).toInt ≤ 4) ∧ (-3 ≤ ((b9g_now S) 4).toInt ∧ ((b9g_now S) 4).toInt ≤ 252) ∧ (0 ≤ ((b9g_now S) 8).toInt ∧ ((b9g_now S) 8).toInt ≤ 64) ∧ (0 ≤ ((b9g_now S) 9).toInt ∧ ((b9g_now S) 9).toInt ≤ 64) ∧ (0 ≤ ((b9g_now S) 10).toInt ∧ ((b9g_now S) 10).toInt ≤ 16) ∧ (0 ≤ ((b9g_now S) 12).toInt ∧ ((b9g_now S) 12).toInt ≤ 8) := J9g_now hJ
  have ju1_S := hJ.2
  have rga1 := pt_rg a1
  have rga2 := pt_rg a2
  have rga3 := pt_rg a3
  have rga4 := pt_rg a4
  intro S1 eS1
  have hJS1 : J9 S1 := by rw [eS1]; exact (J9s_told hJ)
  have hFS1 : F_X9_has S S1 := by rw [eS1]; exact hFS
  have je3 : ((b9g_now S1) 1).toInt = ((b9g_now S) 1).toInt := congrArg (fun z => (z 1).toInt) hFS1.1
  have je5 : ((b9g_now S1) 4).toInt = ((b9g_now S) 4).toInt := congrArg (fun z => (z 4).toInt) hFS1.1
  have je7 : ((b9g_now S1) 7).toInt = ((b9g_now S) 7).toInt := congrArg (fun z => (z 7).toInt) hFS1.1
  have je9 : ((b9g_now S1) 8).toInt = ((b9g_now S) 8).toInt := congrArg (fun z => (z 8).toInt) hFS1.1
  have je11 : ((b9g_now S1) 9).toInt = ((b9g_now S) 9).toInt := congrArg (fun z => (z 9).toInt) hFS1.1
  have je13 : ((b9g_now S1) 10).toInt = ((b9g_now S) 10).toInt := congrArg (fun z => (z 10).toInt) hFS1.1
  have je15 : ((b9g_now S1) 12).toInt = ((b9g_now S) 12).toInt := congrArg (fun z => (z 12).toInt) hFS1.1
  have ju15_S1 := hJS1.2
  refine sf_X9_isKey hJS1.1 (fun r2 hzr2 hr2_0 => ?_)
  try simp (disch := first | ((try simp (disch := first | ((try simp only [pn]) <;> omega) | fail) only [pn, pq]) <;> omega) | fail) only [pn, pq] at hr2_0
  refine ⟨fun c4 => ?_, fun c4 => ?_⟩
  · try simp (disch := first | ((try simp (disch := first | ((try simp only [pn]) <;> omega) | fail) only [pn, pq]) <;> omega) | fail) only [pn, pq] at c4
    exact hq _ _ hJS1 hFS1 
  · try simp (disch := first | ((try simp (disch := first | ((try simp only [pn]) <;> omega) | fail) only [pn, pq]) <;> omega) | fail) only [pn, pq] at c4
    refine sf_X9_isIn hJS1.1 (fun r5 hzr5 hr5_0 => ?_)
    try simp (disch := first | ((try simp (disch := first | ((try simp only [pn]) <;> omega) | fail) only [pn, pq]) <;> omega) | fail) only [pn, pq] at hr5_0
    refine ⟨fun c7 => ?_, fun c7 => ?_⟩
    · try simp (disch := first | ((try simp (disch := first | ((try simp only [pn]) <;> omega) | fail) only [pn, pq]) <;> omega) | fail) only [pn, pq] at c7
      refine ⟨fun c8 => ?_, fun c8 => ?_⟩
      · try simp (disch := first | ((try simp (disch := first | ((try simp only [pn]) <;> omega) | fail) only [pn, pq]) <;> omega) | fail) only [pn, pq] at c8
        refine ⟨pt_in (by (try simp (disch := first | ((try simp (disch := first | ((try simp only [pn]) <;> omega) | fail) only [pn, pq]) <;> omega) | fail) only [pn, pq]) <;> (intros; (try simp (disch := first | ((try simp (disch := first | ((try simp only [pn]) <;> omega) | fail) only [pn, pq]) <;> omega) | fail) only [pn, pq]) <;> omega)) (by (try simp (disch := first | ((try simp (disch := first | ((try simp only [pn]) <;> omega) | fail) only [pn, pq]) <;> omega) | fail) only [pn, pq]) <;> (intros; (try simp (disch := first | ((try simp (disch := first | ((try simp only [pn]) <;> omega) | fail) only [pn, pq]) <;> omega) | fail) only [pn, pq]) <;> omega)), ?_⟩
        refine sf_X9_keyOf hJS1.1 (fun r9 hr9_0 => ?_)
        refine sf_X9_find hJS1.1 (by (try simp (disch := first | ((try simp (disch := first | ((try simp only [pn]) <;> omega) | fail) only [pn, pq]) <;> omega) | fail) only [pn, pq]) <;> (intros; (try simp (disch := first | ((try simp (disch := first | ((try simp only [pn]) <;> omega) | fail) only [pn, pq]) <;> omega) | fail) only [pn, pq]) <;> omega)) (by (try simp (disch := first | ((try simp (disch := first | ((try simp only [pn]) <;> omega) | fail) only [pn, pq]) <;> omega) | fail) only [pn, pq]) <;> (intros; (try simp (disch := first | ((try simp (disch := first | ((try simp only [pn]) <;> omega) | fail) only [pn, pq]) <;> omega) | fail) only [pn, pq]) <;> omega)) (by (try simp (disch := first | ((try simp (disch := first | ((try simp only [pn]) <;> omega) | fail) only [pn, pq]) <;> omega) | fail) only [pn, pq]) <;> (intros; (try simp (disch := first | ((try simp (disch := first | ((try simp only [pn]) <;> omega) | fail) only [pn, pq]) <;> omega) | fail) only [pn, pq]) <;> omega)) (fun r11 hr11_0 hr11_1 => ?_)
        have rgr11 := pt_rg r11
        try simp (disch := first | ((try simp (disch := first | ((try simp only [pn]) <;> omega) | fail) only [pn, pq]) <;> omega) | fail) only [pn, pq] at hr11_0
        exact hq _ _ hJS1 hFS1 
      · try simp (disch := first | ((try simp (disch := first | ((try simp only [pn]) <;> omega) | fail) only [pn, pq]) <;> omega) | fail) only [pn, pq] at c8
        refine ⟨pt_in (by (try simp (disch := first | ((try simp (disch := first | ((try simp only [pn]) <;> omega) | fail) only [pn, pq]) <;> omega) | fail) only [pn, pq]) <;> (intros; (try simp (disch := first | ((try simp (disch := first | ((try simp only [pn]) <;> omega) | fail) only [pn, pq]) <;> omega) | fail) only [pn, pq]) <;> omega)) (by (try simp (disch := first | ((try simp (disch := first | ((try simp only [pn]) <;> omega) | fail) only [pn, pq]) <;> omega) | fail) only [pn, pq]) <;> (intros; (try simp (disch := first | ((try simp (disch := first | ((try simp only [pn]) <;> omega) | fail) only [pn, pq]) <;> omega) | fail) only [pn, pq]) <;> omega)), ?_⟩
        refine sf_X9_keyOf hJS1.1 (fun r13 hr13_0 => ?_)
        refine sf_X9_find hJS1.1 (by (try simp (disch := first | ((try simp (disch := first | ((try simp only [pn]) <;> omega) | fail) only [pn, pq]) <;> omega) | fail) only [pn, pq]) <;> (intros; (try simp (disch := first | ((try simp (disch := first | ((try simp only [pn]) <;> omega) | fail) only [pn, pq]) <;> omega) | fail) only [pn, pq]) <;> omega)) (by (try simp (disch := first | ((try simp (disch := first | ((try simp only [pn]) <;> omega) | fail) only [pn, pq]) <;> omega) | fail) only [pn, pq]) <;> (intros; (try simp (disch := first | ((try simp (disch := first | ((try simp only [pn]) <;> omega) | fail) only [pn, pq]) <;> omega) | fail) only [pn, pq]) <;> omega)) (by (try simp (disch := first | ((try simp (disch := first | ((try simp only [pn]) <;> omega) | fail) only [pn, pq]) <;> omega) | fail) only [pn, pq]) <;> (intros; (try simp (disch := first | ((try simp (disch := first | ((try simp only [pn]) <;> omega) | fail) only [pn, pq]) <;> omega) | fail) only [pn, pq]) <;> omega)) (fun r15 hr15_0 hr15_1 => ?_)
        have rgr15 := pt_rg r15
        try simp (disch := first | ((try simp (disch := first | ((try simp only [pn]) <;> omega) | fail) only [pn, pq]) <;> omega) | fail) only [pn, pq] at hr15_0
        exact hq _ _ hJS1 hFS1 
    · try simp (disch := first | ((try simp (disch := first | ((try simp only [pn]) <;> omega) | fail) only [pn, pq]) <;> omega) | fail) only [pn, pq] at c7
      exact hq _ _ hJS1 hFS1 
def F_X9_draws (S u : bT9) : Prop := (b9g_told u) = (b9g_told S) ∧ (b9g_keys u) = (b9g_keys S) ∧ (b9g_lengths u) = (b9g_lengths S) ∧ (b9g_tape u) = (b9g_tape S) ∧ (b9g_taped u) = (b9g_taped S) ∧ (b9g_names u) = (b9g_names S) ∧ (b9g_chosen u) = (b9g_chosen S) ∧ (b9g_common u) = (b9g_common S) ∧ (b9g_beginning u) = (b9g_beginning S) ∧ (b9g_isLaid u) = (b9g_isLaid S) ∧ (b9g_nodeLevel u) = (b9g_nodeLevel S) ∧ (b9g_nodeLeaf u) = (b9g_nodeLeaf S) ∧ (b9g_nodeLeaves u) = (b9g_nodeLeaves S) ∧ (b9g_nodeMany u) = (b9g_nodeMany S) ∧ (b9g_levelMany u) = (b9g_levelMany S) ∧ (b9g_upper u) = (b9g_upper S) ∧ (b9g_upperNodes u) = (b9g_upperNodes S) ∧ (b9g_areNodesLaid u) = (b9g_areNodesLaid S) ∧ (b9g_itemNode u) = (b9g_itemNode S) ∧ (b9g_itemByte u) = (b9g_itemByte S) ∧ (b9g_itemChild u) = (b9g_itemChild S) ∧ (b9g_itemMany u) = (b9g_itemMany S) ∧ (b9g_placeOf u) = (b9g_placeOf S) ∧ (b9g_leafOfPlace u) = (b9g_leafOfPlace S) ∧ (b9g_places u) = (b9g_places S) ∧ (b9g_lowKey u) = (b9g_lowKey S) ∧ (b9g_highKey u) = (b9g_highKey S) ∧ (b9g_lowLength u) = (b9g_lowLength S) ∧ (b9g_highLength u) = (b9g_highLength S) ∧ (b9g_fromKey u) = (b9g_fromKey S) ∧ (b9g_toKey u) = (b9g_toKey S) ∧ (b9g_fromLength u) = (b9g_fromLength S) ∧ (b9g_toLength u) = (b9g_toLength S) ∧ (b9g_ones u) = (b9g_ones S) ∧ (b9g_oneMany u) = (b9g_oneMany S) ∧ (b9g_rowLong u) = (b9g_rowLong S) ∧ (b9g_laidFor u) = (b9g_laidFor S) ∧ (b9g_signs u) = (b9g_signs S) ∧ (b9g_signMany u) = (b9g_signMany S) ∧ (b9g_hasImage u) = (b9g_hasImage S) ∧ (b9g_images u) = (b9g_images S) ∧ (b9g_keyImages u) = (b9g_keyImages S) ∧ (b9g_lengthImages u) = (b9g_lengthImages S)
set_option maxRecDepth 20000 in
set_option maxHeartbeats 1000000 in
theorem sf_X9_draws {S : bT9} (hJ : J9 S) {a1 : Int32} {Q : (bT9) → Prop} (hp0 : 1 ≤ a1.toInt) (hp1 : a1.toInt ≤ 8) (hq : ∀ u : bT9, (J9 u) → F_X9_draws S u → (1 ≤ (b9g_drawnLength u).toInt) → ((b9g_drawnLength u).toInt ≤ 8) → (b9g_now u 7 = stp a1 (b9g_now S 7)) → (b9g_now u 10 = b9g_now S 10) → Q u) : wp_X9_draws S a1 Q := by
  unfold wp_X9_draws
  have hFS : F_X9_draws S S := ⟨rfl, rfl, rfl, rfl, rfl, rfl, rfl, rfl, rfl, rfl, rfl, rfl, rfl, rfl, rfl, rfl, rfl, rfl, rfl, rfl, rfl, rfl, rfl, rfl, rfl, rfl, rfl, rfl, rfl, rfl, rfl, rfl, rfl, rfl, rfl, rfl, rfl, rfl, rfl, rfl, rfl, rfl, rfl⟩
  have jf1 := J9g_drawnLength hJ
  have jf2 : (-4 ≤ ((b9g_now S) 1).toInt ∧ ((b9g_now S) 1).toInt ≤ 4) ∧ (-3 ≤ ((b9g_now S) 4).toInt ∧ ((b9g_now S) 4).toInt ≤ 252) ∧ (0 ≤ ((b9g_now S) 8).toInt ∧ ((b9g_now S) 8).toInt ≤ 64) ∧ (0 ≤ ((b9g_now S) 9).toInt ∧ ((b9g_now S) 9).toInt ≤ 64) ∧ (0 ≤ ((b9g_now S) 10).toInt ∧ ((b9g_now S) 10).toInt ≤ 16) ∧ (0 ≤ ((b9g_now S) 12).toInt ∧ ((b9g_now S) 12).toInt ≤ 8) := J9g_now hJ
  have ju2_S := hJ.2
  have rga1 := pt_rg a1
  refine sf_X9_draw hJ (by (try simp (disch := first | ((try simp (disch := first | ((try simp only [pn]) <;> omega) | fail) only [pn, pq]) <;> omega) | fail) only [pn, pq]) <;> (intros; (try simp (disch := first | ((try simp (disch := first | ((try simp only [pn]) <;> omega) | fail) only [pn, pq]) <;> omega) | fail) only [pn, pq]) <;> omega)) (fun r1 u2 hJu2 hfu2 hr1_0 hr1_1 hr1_2 hr1_3 hr1_4 => ?_)
  have hFu2 : F_X9_draws S u2 := ⟨(congrArg (fun z => z) hfu2.1).trans hFS.1, (congrArg (fun z => z) hfu2.2.1).trans hFS.2.1, (congrArg (fun z => z) hfu2.2.2.1).trans hFS.2.2.1, (congrArg (fun z => z) hfu2.2.2.2.2.2.1).trans hFS.2.2.2.1, (congrArg (fun z => z) hfu2.2.2.2.2.2.2.1).trans hFS.2.2.2.2.1, (congrArg (fun z => z) hfu2.2.2.2.2.2.2.2.1).trans hFS.2.2.2.2.2.1, (congrArg (fun z => z) hfu2.2.2.2.2.2.2.2.2.1).trans hFS.2.2.2.2.2.2.1, (congrArg (fun z => z) hfu2.2.2.2.2.2.2.2.2.2.1).trans hFS.2.2.2.2.2.2.2.1, (congrArg (fun z => z) hfu2.2.2.2.2.2.2.2.2.2.2.1).trans hFS.2.2.2.2.2.2.2.2.1, (congrArg (fun z => z) hfu2.2.2.2.2.2.2.2.2.2.2.2.1).trans hFS.2.2.2.2.2.2.2.2.2.1, (congrArg (fun z => z) hfu2.2.2.2.2.2.2.2.2.2.2.2.2.1).trans hFS.2.2.2.2.2.2.2.2.2.2.1, (congrArg (fun z => z) hfu2.2.2.2.2.2.2.2.2.2.2.2.2.2.1).trans hFS.2.2.2.2.2.2.2.2.2.2.2.1, (congrArg (fun z => z) hfu2.2.2.2.2.2.2.2.2.2.2.2.2.2.2.1).trans hFS.2.2.2.2.2.2.2.2.2.2.2.2.1, (congrArg (fun z => z) hfu2.2.2.2.2.2.2.2.2.2.2.2.2.2.2.2.1).trans hFS.2.2.2.2.2.2.2.2.2.2.2.2.2.1, (congrArg (fun z => z) hfu2.2.2.2.2.2.2.2.2.2.2.2.2.2.2.2.2.1).trans hFS.2.2.2.2.2.2.2.2.2.2.2.2.2.2.1, (congrArg (fun z => z) hfu2.2.2.2.2.2.2.2.2.2.2.2.2.2.2.2.2.2.1).trans hFS.2.2.2.2.2.2.2.2.2.2.2.2.2.2.2.1, (congrArg (fun z => z) hfu2.2.2.2.2.2.2.2.2.2.2.2.2.2.2.2.2.2.2.1).trans hFS.2.2.2.2.2.2.2.2.2.2.2.2.2.2.2.2.1, (congrArg (fun z => z) hfu2.2.2.2.2.2.2.2.2.2.2.2.2.2.2.2.2.2.2.2.1).trans hFS.2.2.2.2.2.2.2.2.2.2.2.2.2.2.2.2.2.1, (congrArg (fun z => z) hfu2.2.2.2.2.2.2.2.2.2.2.2.2.2.2.2.2.2.2.2.2.1).trans hFS.2.2.2.2.2.2.2.2.2.2.2.2.2.2.2.2.2.2.1, (congrArg (fun z => z) hfu2.2.2.2.2.2.2.2.2.2.2.2.2.2.2.2.2.2.2.2.2.2.1).trans hFS.2.2.2.2.2.2.2.2.2.2.2.2.2.2.2.2.2.2.2.1, (congrArg (fun z => z) hfu2.2.2.2.2.2.2.2.2.2.2.2.2.2.2.2.2.2.2.2.2.2.2.1).trans hFS.2.2.2.2.2.2.2.2.2.2.2.2.2.2.2.2.2.2.2.2.1, (congrArg (fun z => z) hfu2.2.2.2.2.2.2.2.2.2.2.2.2.2.2.2.2.2.2.2.2.2.2.2.1).trans hFS.2.2.2.2.2.2.2.2.2.2.2.2.2.2.2.2.2.2.2.2.2.1, (congrArg (fun z => z) hfu2.2.2.2.2.2.2.2.2.2.2.2.2.2.2.2.2.2.2.2.2.2.2.2.2.1).trans hFS.2.2.2.2.2.2.2.2.2.2.2.2.2.2.2.2.2.2.2.2.2.2.1, (congrArg (fun z => z) hfu2.2.2.2.2.2.2.2.2.2.2.2.2.2.2.2.2.2.2.2.2.2.2.2.2.2.1).trans hFS.2.2.2.2.2.2.2.2.2.2.2.2.2.2.2.2.2.2.2.2.2.2.2.1, (congrArg (fun z => z) hfu2.2.2.2.2.2.2.2.2.2.2.2.2.2.2.2.2.2.2.2.2.2.2.2.2.2.2.1).trans hFS.2.2.2.2.2.2.2.2.2.2.2.2.2.2.2.2.2.2.2.2.2.2.2.2.1, (congrArg (fun z => z) hfu2.2.2.2.2.2.2.2.2.2.2.2.2.2.2.2.2.2.2.2.2.2.2.2.2.2.2.2.1).trans hFS.2.2.2.2.2.2.2.2.2.2.2.2.2.2.2.2.2.2.2.2.2.2.2.2.2.1, (congrArg (fun z => z) hfu2.2.2.2.2.2.2.2.2.2.2.2.2.2.2.2.2.2.2.2.2.2.2.2.2.2.2.2.2.1).trans hFS.2.2.2.2.2.2.2.2.2.2.2.2.2.2.2.2.2.2.2.2.2.2.2.2.2.2.1, (congrArg (fun z => z) hfu2.2.2.2.2.2.2.2.2.2.2.2.2.2.2.2.2.2.2.2.2.2.2.2.2.2.2.2.2.2.1).trans hFS.2.2.2.2.2.2.2.2.2.2.2.2.2.2.2.2.2.2.2.2.2.2.2.2.2.2.2.1, (congrArg (fun z => z) hfu2.2.2.2.2.2.2.2.2.2.2.2.2.2.2.2.2.2.2.2.2.2.2.2.2.2.2.2.2.2.2.1).trans hFS.2.2.2.2.2.2.2.2.2.2.2.2.2.2.2.2.2.2.2.2.2.2.2.2.2.2.2.2.1, (congrArg (fun z => z) hfu2.2.2.2.2.2.2.2.2.2.2.2.2.2.2.2.2.2.2.2.2.2.2.2.2.2.2.2.2.2.2.2.1).trans hFS.2.2.2.2.2.2.2.2.2.2.2.2.2.2.2.2.2.2.2.2.2.2.2.2.2.2.2.2.2.1, (congrArg (fun z => z) hfu2.2.2.2.2.2.2.2.2.2.2.2.2.2.2.2.2.2.2.2.2.2.2.2.2.2.2.2.2.2.2.2.2.1).trans hFS.2.2.2.2.2.2.2.2.2.2.2.2.2.2.2.2.2.2.2.2.2.2.2.2.2.2.2.2.2.2.1, (congrArg (fun z => z) hfu2.2.2.2.2.2.2.2.2.2.2.2.2.2.2.2.2.2.2.2.2.2.2.2.2.2.2.2.2.2.2.2.2.2.1).trans hFS.2.2.2.2.2.2.2.2.2.2.2.2.2.2.2.2.2.2.2.2.2.2.2.2.2.2.2.2.2.2.2.1, (congrArg (fun z => z) hfu2.2.2.2.2.2.2.2.2.2.2.2.2.2.2.2.2.2.2.2.2.2.2.2.2.2.2.2.2.2.2.2.2.2.2.1).trans hFS.2.2.2.2.2.2.2.2.2.2.2.2.2.2.2.2.2.2.2.2.2.2.2.2.2.2.2.2.2.2.2.2.1, (congrArg (fun z => z) hfu2.2.2.2.2.2.2.2.2.2.2.2.2.2.2.2.2.2.2.2.2.2.2.2.2.2.2.2.2.2.2.2.2.2.2.2.1).trans hFS.2.2.2.2.2.2.2.2.2.2.2.2.2.2.2.2.2.2.2.2.2.2.2.2.2.2.2.2.2.2.2.2.2.1, (congrArg (fun z => z) hfu2.2.2.2.2.2.2.2.2.2.2.2.2.2.2.2.2.2.2.2.2.2.2.2.2.2.2.2.2.2.2.2.2.2.2.2.2.1).trans hFS.2.2.2.2.2.2.2.2.2.2.2.2.2.2.2.2.2.2.2.2.2.2.2.2.2.2.2.2.2.2.2.2.2.2.1, (congrArg (fun z => z) hfu2.2.2.2.2.2.2.2.2.2.2.2.2.2.2.2.2.2.2.2.2.2.2.2.2.2.2.2.2.2.2.2.2.2.2.2.2.2.1).trans hFS.2.2.2.2.2.2.2.2.2.2.2.2.2.2.2.2.2.2.2.2.2.2.2.2.2.2.2.2.2.2.2.2.2.2.2.1, (congrArg (fun z => z) hfu2.2.2.2.2.2.2.2.2.2.2.2.2.2.2.2.2.2.2.2.2.2.2.2.2.2.2.2.2.2.2.2.2.2.2.2.2.2.2.1).trans hFS.2.2.2.2.2.2.2.2.2.2.2.2.2.2.2.2.2.2.2.2.2.2.2.2.2.2.2.2.2.2.2.2.2.2.2.2.1, (congrArg (fun z => z) hfu2.2.2.2.2.2.2.2.2.2.2.2.2.2.2.2.2.2.2.2.2.2.2.2.2.2.2.2.2.2.2.2.2.2.2.2.2.2.2.2.1).trans hFS.2.2.2.2.2.2.2.2.2.2.2.2.2.2.2.2.2.2.2.2.2.2.2.2.2.2.2.2.2.2.2.2.2.2.2.2.2.1, (congrArg (fun z => z) hfu2.2.2.2.2.2.2.2.2.2.2.2.2.2.2.2.2.2.2.2.2.2.2.2.2.2.2.2.2.2.2.2.2.2.2.2.2.2.2.2.2.1).trans hFS.2.2.2.2.2.2.2.2.2.2.2.2.2.2.2.2.2.2.2.2.2.2.2.2.2.2.2.2.2.2.2.2.2.2.2.2.2.2.1, (congrArg (fun z => z) hfu2.2.2.2.2.2.2.2.2.2.2.2.2.2.2.2.2.2.2.2.2.2.2.2.2.2.2.2.2.2.2.2.2.2.2.2.2.2.2.2.2.2.1).trans hFS.2.2.2.2.2.2.2.2.2.2.2.2.2.2.2.2.2.2.2.2.2.2.2.2.2.2.2.2.2.2.2.2.2.2.2.2.2.2.2.1, (congrArg (fun z => z) hfu2.2.2.2.2.2.2.2.2.2.2.2.2.2.2.2.2.2.2.2.2.2.2.2.2.2.2.2.2.2.2.2.2.2.2.2.2.2.2.2.2.2.2.1).trans hFS.2.2.2.2.2.2.2.2.2.2.2.2.2.2.2.2.2.2.2.2.2.2.2.2.2.2.2.2.2.2.2.2.2.2.2.2.2.2.2.2.1, (congrArg (fun z => z) hfu2.2.2.2.2.2.2.2.2.2.2.2.2.2.2.2.2.2.2.2.2.2.2.2.2.2.2.2.2.2.2.2.2.2.2.2.2.2.2.2.2.2.2.2.1).trans hFS.2.2.2.2.2.2.2.2.2.2.2.2.2.2.2.2.2.2.2.2.2.2.2.2.2.2.2.2.2.2.2.2.2.2.2.2.2.2.2.2.2.1, (congrArg (fun z => z) hfu2.2.2.2.2.2.2.2.2.2.2.2.2.2.2.2.2.2.2.2.2.2.2.2.2.2.2.2.2.2.2.2.2.2.2.2.2.2.2.2.2.2.2.2.2).trans hFS.2.2.2.2.2.2.2.2.2.2.2.2.2.2.2.2.2.2.2.2.2.2.2.2.2.2.2.2.2.2.2.2.2.2.2.2.2.2.2.2.2.2⟩
  have je3 : ((b9g_drawnLength u2)).toInt = ((b9g_drawnLength S)).toInt := congrArg (fun z => (z).toInt) hfu2.2.2.2.2.1
  have jE3 := Int32.toInt_inj.mp je3
  have jf4 := J9g_drawnLength hJu2
  have jf5 : (-4 ≤ ((b9g_now u2) 1).toInt ∧ ((b9g_now u2) 1).toInt ≤ 4) ∧ (-3 ≤ ((b9g_now u2) 4).toInt ∧ ((b9g_now u2) 4).toInt ≤ 252) ∧ (0 ≤ ((b9g_now u2) 8).toInt ∧ ((b9g_now u2) 8).toInt ≤ 64) ∧ (0 ≤ ((b9g_now u2) 9).toInt ∧ ((b9g_now u2) 9).toInt ≤ 64) ∧ (0 ≤ ((b9g_now u2) 10).toInt ∧ ((b9g_now u2) 10).toInt ≤ 16) ∧ (0 ≤ ((b9g_now u2) 12).toInt ∧ ((b9g_now u2) 12).toInt ≤ 8) := J9g_now hJu2
  have ju5_u2 := hJu2.2
  have rgr1 := pt_rg r1
  try simp (disch := first | ((try simp (disch := first | ((try simp only [pn]) <;> omega) | fail) only [pn, pq]) <;> omega) | fail) only [pn, pq] at hr1_0
  try simp (disch := first | ((try simp (disch := first | ((try simp only [pn]) <;> omega) | fail) only [pn, pq]) <;> omega) | fail) only [pn, pq] at hr1_1
  have hTr1_4 := congrArg Int32.toInt hr1_4
  try simp (disch := first | ((try simp (disch := first | ((try simp only [pn]) <;> omega) | fail) only [pn, pq]) <;> omega) | fail) only [pn, pq] at hTr1_4
  intro S3 eS3
  have hJS3 : J9 S3 := by rw [eS3]; exact (J9s_drawnLength hJu2 ⟨(by (try simp (disch := first | ((try simp (disch := first | ((try simp only [pn]) <;> omega) | fail) only [pn, pq]) <;> omega) | fail) only [pn, pq]) <;> (intros; (try simp (disch := first | ((try simp (disch := first | ((try simp only [pn]) <;> omega) | fail) only [pn, pq]) <;> omega) | fail) only [pn, pq]) <;> omega)), (by (try simp (disch := first | ((try simp (disch := first | ((try simp only [pn]) <;> omega) | fail) only [pn, pq]) <;> omega) | fail) only [pn, pq]) <;> (intros; (try simp (disch := first | ((try simp (disch := first | ((try simp only [pn]) <;> omega) | fail) only [pn, pq]) <;> omega) | fail) only [pn, pq]) <;> omega))⟩)
  have hFS3 : F_X9_draws S S3 := by rw [eS3]; exact hFu2
  have je6 : ((b9g_drawnLength S3)).toInt = (((1 : Int32) + r1)).toInt := by rw [eS3]
  have jE6 := Int32.toInt_inj.mp je6
  try simp (disch := first | ((try simp (disch := first | ((try simp only [pn]) <;> omega) | fail) only [pn, pq]) <;> omega) | fail) only [pn, pq] at je6
  have jf7 := J9g_drawnLength hJS3
  have je8 : ((b9g_now S3) 1).toInt = ((b9g_now u2) 1).toInt := by rw [eS3]
  have je9 : ((b9g_now S3) 4).toInt = ((b9g_now u2) 4).toInt := by rw [eS3]
  have je10 : ((b9g_now S3) 7).toInt = ((b9g_now u2) 7).toInt := by rw [eS3]
  have jE10 := Int32.toInt_inj.mp je10
  have je11 : ((b9g_now S3) 8).toInt = ((b9g_now u2) 8).toInt := by rw [eS3]
  have je12 : ((b9g_now S3) 9).toInt = ((b9g_now u2) 9).toInt := by rw [eS3]
  have je13 : ((b9g_now S3) 10).toInt = ((b9g_now u2) 10).toInt := by rw [eS3]
  have je14 : ((b9g_now S3) 12).toInt = ((b9g_now u2) 12).toInt := by rw [eS3]
  have jf15 : (-4 ≤ ((b9g_now S3) 1).toInt ∧ ((b9g_now S3) 1).toInt ≤ 4) ∧ (-3 ≤ ((b9g_now S3) 4).toInt ∧ ((b9g_now S3) 4).toInt ≤ 252) ∧ (0 ≤ ((b9g_now S3) 8).toInt ∧ ((b9g_now S3) 8).toInt ≤ 64) ∧ (0 ≤ ((b9g_now S3) 9).toInt ∧ ((b9g_now S3) 9).toInt ≤ 64) ∧ (0 ≤ ((b9g_now S3) 10).toInt ∧ ((b9g_now S3) 10).toInt ≤ 16) ∧ (0 ≤ ((b9g_now S3) 12).toInt ∧ ((b9g_now S3) 12).toInt ≤ 8) := J9g_now hJS3
  have ju15_S3 := hJS3.2
  intro S4 eS4
  have hJS4 : J9 S4 := by rw [eS4]; exact (J9s_drawn hJS3)
  have hFS4 : F_X9_draws S S4 := by rw [eS4]; exact hFS3
  have je16 : ((b9g_drawnLength S4)).toInt = ((b9g_drawnLength S3)).toInt := by rw [eS4]
  have jE16 := Int32.toInt_inj.mp je16
  have jf17 := J9g_drawnLength hJS4
  have je18 : ((b9g_now S4) 1).toInt = ((b9g_now S3) 1).toInt := by rw [eS4]
  have je19 : ((b9g_now S4) 4).toInt = ((b9g_now S3) 4).toInt := by rw [eS4]
  have je20 : ((b9g_now S4) 7).toInt = ((b9g_now S3) 7).toInt := by rw [eS4]
  have jE20 := Int32.toInt_inj.mp je20
  have je21 : ((b9g_now S4) 8).toInt = ((b9g_now S3) 8).toInt := by rw [eS4]
  have je22 : ((b9g_now S4) 9).toInt = ((b9g_now S3) 9).toInt := by rw [eS4]
  have je23 : ((b9g_now S4) 10).toInt = ((b9g_now S3) 10).toInt := by rw [eS4]
  have je24 : ((b9g_now S4) 12).toInt = ((b9g_now S3) 12).toInt := by rw [eS4]
  have jf25 : (-4 ≤ ((b9g_now S4) 1).toInt ∧ ((b9g_now S4) 1).toInt ≤ 4) ∧ (-3 ≤ ((b9g_now S4) 4).toInt ∧ ((b9g_now S4) 4).toInt ≤ 252) ∧ (0 ≤ ((b9g_now S4) 8).toInt ∧ ((b9g_now S4) 8).toInt ≤ 64) ∧ (0 ≤ ((b9g_now S4) 9).toInt ∧ ((b9g_now S4) 9).toInt ≤ 64) ∧ (0 ≤ ((b9g_now S4) 10).toInt ∧ ((b9g_now S4) 10).toInt ≤ 16) ∧ (0 ≤ ((b9g_now S4) 12).toInt ∧ ((b9g_now S4) 12).toInt ≤ 8) := J9g_now hJS4
  have ju25_S4 := hJS4.2
  refine ⟨fun n x2q5 Sq5 => (J9 Sq5) ∧ (F_X9_draws S Sq5) ∧ (0 ≤ (x2q5).toInt) ∧ (1 ≤ (b9g_drawnLength Sq5).toInt) ∧ ((x2q5).toInt ≤ (b9g_drawnLength Sq5).toInt) ∧ (b9g_now Sq5 7 = lcgN (x2q5).toInt.toNat (lcg (b9g_now S 7))) ∧ (b9g_drawnLength Sq5 = 1 + drw (lcg (b9g_now S 7)) a1) ∧ (b9g_now Sq5 10 = b9g_now S 10) ∧ n = ((b9g_drawnLength Sq5).toInt + 1 - (x2q5).toInt).toNat, ⟨_, hJS4, hFS4, (by (try simp (disch := first | ((try simp (disch := first | ((try simp only [pn]) <;> omega) | fail) only [pn, pq]) <;> omega) | fail) only [pn, pq]) <;> (intros; (try simp (disch := first | ((try simp (disch := first | ((try simp only [pn]) <;> omega) | fail) only [pn, pq]) <;> omega) | fail) only [pn, pq]) <;> omega)), (by (try simp (disch := first | ((try simp (disch := first | ((try simp only [pn]) <;> omega) | fail) only [pn, pq]) <;> omega) | fail) only [pn, pq]) <;> (intros; (try simp (disch := first | ((try simp (disch := first | ((try simp only [pn]) <;> omega) | fail) only [pn, pq]) <;> omega) | fail) only [pn, pq]) <;> omega)), (by (try simp (disch := first | ((try simp (disch := first | ((try simp only [pn]) <;> omega) | fail) only [pn, pq]) <;> omega) | fail) only [pn, pq]) <;> (intros; (try simp (disch := first | ((try simp (disch := first | ((try simp only [pn]) <;> omega) | fail) only [pn, pq]) <;> omega) | fail) only [pn, pq]) <;> omega)), (by ((try simp only [jE3, hr1_2, hr1_3, hr1_4, jE6, jE10, jE16, jE20, z0, lcgN0]) <;> (first | (rw [lcgN_s] <;> omega) | exact congrArg (fun k => lcgN k _) (by omega)))), (by (simp only [jE3, hr1_2, hr1_3, hr1_4, jE6, jE10, jE16, jE20])), (by ((try simp (disch := first | ((try simp (disch := first | ((try simp only [pn]) <;> omega) | fail) only [pn, pq]) <;> omega) | fail) only [pn, pq]) <;> (intros; (try simp (disch := first | ((try simp (disch := first | ((try simp only [pn]) <;> omega) | fail) only [pn, pq]) <;> omega) | fail) only [pn, pq]) <;> omega))), rfl⟩, ?_⟩
  rintro n6 x2q5 Sq5 ⟨hJSq5, hFSq5, hiq5_0, hiq5_1, hiq5_2, hiq5_3, hiq5_4, hiq5_5, hn6⟩
  have rgx2q5 := pt_rg x2q5
  have hTq5_4 := congrArg Int32.toInt hiq5_4
  try simp (disch := first | ((try simp (disch := first | ((try simp only [pn]) <;> omega) | fail) only [pn, pq]) <;> omega) | fail) only [pn, pq] at hTq5_4
  have hTq5_5 := congrArg Int32.toInt hiq5_5
  try simp (disch := first | ((try simp (disch := first | ((try simp only [pn]) <;> omega) | fail) only [pn, pq]) <;> omega) | fail) only [pn, pq] at hTq5_5
  unfold wp_X9_draws_18b
  have jf26 := J9g_drawnLength hJSq5
  have jf27 : (-4 ≤ ((b9g_now Sq5) 1).toInt ∧ ((b9g_now Sq5) 1).toInt ≤ 4) ∧ (-3 ≤ ((b9g_now Sq5) 4).toInt ∧ ((b9g_now Sq5) 4).toInt ≤ 252) ∧ (0 ≤ ((b9g_now Sq5) 8).toInt ∧ ((b9g_now Sq5) 8).toInt ≤ 64) ∧ (0 ≤ ((b9g_now Sq5) 9).toInt ∧ ((b9g_now Sq5) 9).toInt ≤ 64) ∧ (0 ≤ ((b9g_now Sq5) 10).toInt ∧ ((b9g_now Sq5) 10).toInt ≤ 16) ∧ (0 ≤ ((b9g_now Sq5) 12).toInt ∧ ((b9g_now Sq5) 12).toInt ≤ 8) := J9g_now hJSq5
  have ju27_Sq5 := hJSq5.2
  refine ⟨fun c7 => ?_, fun c7 => ?_⟩
  · try simp (disch := first | ((try simp (disch := first | ((try simp only [pn]) <;> omega) | fail) only [pn, pq]) <;> omega) | fail) only [pn, pq] at c7
    exact hq _ hJSq5 hFSq5 (by (try simp (disch := first | ((try simp (disch := first | ((try simp only [pn]) <;> omega) | fail) only [pn, pq]) <;> omega) | fail) only [pn, pq]) <;> (intros; (try simp (disch := first | ((try simp (disch := first | ((try simp only [pn]) <;> omega) | fail) only [pn, pq]) <;> omega) | fail) only [pn, pq]) <;> omega)) (by (try simp (disch := first | ((try simp (disch := first | ((try simp only [pn]) <;> omega) | fail) only [pn, pq]) <;> omega) | fail) only [pn, pq]) <;> (intros; (try simp (disch := first | ((try simp (disch := first | ((try simp only [pn]) <;> omega) | fail) only [pn, pq]) <;> omega) | fail) only [pn, pq]) <;> omega)) (by (unfold stp; (try simp only [jE3, hr1_2, hr1_3, hr1_4, jE6, jE10, jE16, jE20, hiq5_3, hiq5_4, hiq5_5]) <;> exact congrArg (fun k => lcgN k _) (by omega))) (by ((try simp (disch := first | ((try simp (disch := first | ((try simp only [pn]) <;> omega) | fail) only [pn, pq]) <;> omega) | fail) only [pn, pq]) <;> (intros; (try simp (disch := first | ((try simp (disch := first | ((try simp only [pn]) <;> omega) | fail) only [pn, pq]) <;> omega) | fail) only [pn, pq]) <;> omega)))
  · try simp (disch := first | ((try simp (disch := first | ((try simp only [pn]) <;> omega) | fail) only [pn, pq]) <;> omega) | fail) only [pn, pq] at c7
    refine sf_X9_settingOf hJSq5.1 (by (try simp (disch := first | ((try simp (disch := first | ((try simp only [pn]) <;> omega) | fail) only [pn, pq]) <;> omega) | fail) only [pn, pq]) <;> (intros; (try simp (disch := first | ((try simp (disch := first | ((try simp only [pn]) <;> omega) | fail) only [pn, pq]) <;> omega) | fail) only [pn, pq]) <;> omega)) (by (try simp (disch := first | ((try simp (disch := first | ((try simp only [pn]) <;> omega) | fail) only [pn, pq]) <;> omega) | fail) only [pn, pq]) <;> (intros; (try simp (disch := first | ((try simp (disch := first | ((try simp only [pn]) <;> omega) | fail) only [pn, pq]) <;> omega) | fail) only [pn, pq]) <;> omega)) (fun r8 hr8_0 hr8_1 => ?_)
    have rgr8 := pt_rg r8
    try simp (disch := first | ((try simp (disch := first | ((try simp only [pn]) <;> omega) | fail) only [pn, pq]) <;> omega) | fail) only [pn, pq] at hr8_0
    try simp (disch := first | ((try simp (disch := first | ((try simp only [pn]) <;> omega) | fail) only [pn, pq]) <;> omega) | fail) only [pn, pq] at hr8_1
    refine sf_X9_draw hJSq5 (by (try simp (disch := first | ((try simp (disch := first | ((try simp only [pn]) <;> omega) | fail) only [pn, pq]) <;> omega) | fail) only [pn, pq]) <;> (intros; (try simp (disch := first | ((try simp (disch := first | ((try simp only [pn]) <;> omega) | fail) only [pn, pq]) <;> omega) | fail) only [pn, pq]) <;> omega)) (fun r10 u11 hJu11 hfu11 hr10_0 hr10_1 hr10_2 hr10_3 hr10_4 => ?_)
    have hFu11 : F_X9_draws S u11 := ⟨(congrArg (fun z => z) hfu11.1).trans hFSq5.1, (congrArg (fun z => z) hfu11.2.1).trans hFSq5.2.1, (congrArg (fun z => z) hfu11.2.2.1).trans hFSq5.2.2.1, (congrArg (fun z => z) hfu11.2.2.2.2.2.1).trans hFSq5.2.2.2.1, (congrArg (fun z => z) hfu11.2.2.2.2.2.2.1).trans hFSq5.2.2.2.2.1, (congrArg (fun z => z) hfu11.2.2.2.2.2.2.2.1).trans hFSq5.2.2.2.2.2.1, (congrArg (fun z => z) hfu11.2.2.2.2.2.2.2.2.1).trans hFSq5.2.2.2.2.2.2.1, (congrArg (fun z => z) hfu11.2.2.2.2.2.2.2.2.2.1).trans hFSq5.2.2.2.2.2.2.2.1, (congrArg (fun z => z) hfu11.2.2.2.2.2.2.2.2.2.2.1).trans hFSq5.2.2.2.2.2.2.2.2.1, (congrArg (fun z => z) hfu11.2.2.2.2.2.2.2.2.2.2.2.1).trans hFSq5.2.2.2.2.2.2.2.2.2.1, (congrArg (fun z => z) hfu11.2.2.2.2.2.2.2.2.2.2.2.2.1).trans hFSq5.2.2.2.2.2.2.2.2.2.2.1, (congrArg (fun z => z) hfu11.2.2.2.2.2.2.2.2.2.2.2.2.2.1).trans hFSq5.2.2.2.2.2.2.2.2.2.2.2.1, (congrArg (fun z => z) hfu11.2.2.2.2.2.2.2.2.2.2.2.2.2.2.1).trans hFSq5.2.2.2.2.2.2.2.2.2.2.2.2.1, (congrArg (fun z => z) hfu11.2.2.2.2.2.2.2.2.2.2.2.2.2.2.2.1).trans hFSq5.2.2.2.2.2.2.2.2.2.2.2.2.2.1, (congrArg (fun z => z) hfu11.2.2.2.2.2.2.2.2.2.2.2.2.2.2.2.2.1).trans hFSq5.2.2.2.2.2.2.2.2.2.2.2.2.2.2.1, (congrArg (fun z => z) hfu11.2.2.2.2.2.2.2.2.2.2.2.2.2.2.2.2.2.1).trans hFSq5.2.2.2.2.2.2.2.2.2.2.2.2.2.2.2.1, (congrArg (fun z => z) hfu11.2.2.2.2.2.2.2.2.2.2.2.2.2.2.2.2.2.2.1).trans hFSq5.2.2.2.2.2.2.2.2.2.2.2.2.2.2.2.2.1, (congrArg (fun z => z) hfu11.2.2.2.2.2.2.2.2.2.2.2.2.2.2.2.2.2.2.2.1).trans hFSq5.2.2.2.2.2.2.2.2.2.2.2.2.2.2.2.2.2.1, (congrArg (fun z => z) hfu11.2.2.2.2.2.2.2.2.2.2.2.2.2.2.2.2.2.2.2.2.1).trans hFSq5.2.2.2.2.2.2.2.2.2.2.2.2.2.2.2.2.2.2.1, (congrArg (fun z => z) hfu11.2.2.2.2.2.2.2.2.2.2.2.2.2.2.2.2.2.2.2.2.2.1).trans hFSq5.2.2.2.2.2.2.2.2.2.2.2.2.2.2.2.2.2.2.2.1, (congrArg (fun z => z) hfu11.2.2.2.2.2.2.2.2.2.2.2.2.2.2.2.2.2.2.2.2.2.2.1).trans hFSq5.2.2.2.2.2.2.2.2.2.2.2.2.2.2.2.2.2.2.2.2.1, (congrArg (fun z => z) hfu11.2.2.2.2.2.2.2.2.2.2.2.2.2.2.2.2.2.2.2.2.2.2.2.1).trans hFSq5.2.2.2.2.2.2.2.2.2.2.2.2.2.2.2.2.2.2.2.2.2.1, (congrArg (fun z => z) hfu11.2.2.2.2.2.2.2.2.2.2.2.2.2.2.2.2.2.2.2.2.2.2.2.2.1).trans hFSq5.2.2.2.2.2.2.2.2.2.2.2.2.2.2.2.2.2.2.2.2.2.2.1, (congrArg (fun z => z) hfu11.2.2.2.2.2.2.2.2.2.2.2.2.2.2.2.2.2.2.2.2.2.2.2.2.2.1).trans hFSq5.2.2.2.2.2.2.2.2.2.2.2.2.2.2.2.2.2.2.2.2.2.2.2.1, (congrArg (fun z => z) hfu11.2.2.2.2.2.2.2.2.2.2.2.2.2.2.2.2.2.2.2.2.2.2.2.2.2.2.1).trans hFSq5.2.2.2.2.2.2.2.2.2.2.2.2.2.2.2.2.2.2.2.2.2.2.2.2.1, (congrArg (fun z => z) hfu11.2.2.2.2.2.2.2.2.2.2.2.2.2.2.2.2.2.2.2.2.2.2.2.2.2.2.2.1).trans hFSq5.2.2.2.2.2.2.2.2.2.2.2.2.2.2.2.2.2.2.2.2.2.2.2.2.2.1, (congrArg (fun z => z) hfu11.2.2.2.2.2.2.2.2.2.2.2.2.2.2.2.2.2.2.2.2.2.2.2.2.2.2.2.2.1).trans hFSq5.2.2.2.2.2.2.2.2.2.2.2.2.2.2.2.2.2.2.2.2.2.2.2.2.2.2.1, (congrArg (fun z => z) hfu11.2.2.2.2.2.2.2.2.2.2.2.2.2.2.2.2.2.2.2.2.2.2.2.2.2.2.2.2.2.1).trans hFSq5.2.2.2.2.2.2.2.2.2.2.2.2.2.2.2.2.2.2.2.2.2.2.2.2.2.2.2.1, (congrArg (fun z => z) hfu11.2.2.2.2.2.2.2.2.2.2.2.2.2.2.2.2.2.2.2.2.2.2.2.2.2.2.2.2.2.2.1).trans hFSq5.2.2.2.2.2.2.2.2.2.2.2.2.2.2.2.2.2.2.2.2.2.2.2.2.2.2.2.2.1, (congrArg (fun z => z) hfu11.2.2.2.2.2.2.2.2.2.2.2.2.2.2.2.2.2.2.2.2.2.2.2.2.2.2.2.2.2.2.2.1).trans hFSq5.2.2.2.2.2.2.2.2.2.2.2.2.2.2.2.2.2.2.2.2.2.2.2.2.2.2.2.2.2.1, (congrArg (fun z => z) hfu11.2.2.2.2.2.2.2.2.2.2.2.2.2.2.2.2.2.2.2.2.2.2.2.2.2.2.2.2.2.2.2.2.1).trans hFSq5.2.2.2.2.2.2.2.2.2.2.2.2.2.2.2.2.2.2.2.2.2.2.2.2.2.2.2.2.2.2.1, (congrArg (fun z => z) hfu11.2.2.2.2.2.2.2.2.2.2.2.2.2.2.2.2.2.2.2.2.2.2.2.2.2.2.2.2.2.2.2.2.2.1).trans hFSq5.2.2.2.2.2.2.2.2.2.2.2.2.2.2.2.2.2.2.2.2.2.2.2.2.2.2.2.2.2.2.2.1, (congrArg (fun z => z) hfu11.2.2.2.2.2.2.2.2.2.2.2.2.2.2.2.2.2.2.2.2.2.2.2.2.2.2.2.2.2.2.2.2.2.2.1).trans hFSq5.2.2.2.2.2.2.2.2.2.2.2.2.2.2.2.2.2.2.2.2.2.2.2.2.2.2.2.2.2.2.2.2.1, (congrArg (fun z => z) hfu11.2.2.2.2.2.2.2.2.2.2.2.2.2.2.2.2.2.2.2.2.2.2.2.2.2.2.2.2.2.2.2.2.2.2.2.1).trans hFSq5.2.2.2.2.2.2.2.2.2.2.2.2.2.2.2.2.2.2.2.2.2.2.2.2.2.2.2.2.2.2.2.2.2.1, (congrArg (fun z => z) hfu11.2.2.2.2.2.2.2.2.2.2.2.2.2.2.2.2.2.2.2.2.2.2.2.2.2.2.2.2.2.2.2.2.2.2.2.2.1).trans hFSq5.2.2.2.2.2.2.2.2.2.2.2.2.2.2.2.2.2.2.2.2.2.2.2.2.2.2.2.2.2.2.2.2.2.2.1, (congrArg (fun z => z) hfu11.2.2.2.2.2.2.2.2.2.2.2.2.2.2.2.2.2.2.2.2.2.2.2.2.2.2.2.2.2.2.2.2.2.2.2.2.2.1).trans hFSq5.2.2.2.2.2.2.2.2.2.2.2.2.2.2.2.2.2.2.2.2.2.2.2.2.2.2.2.2.2.2.2.2.2.2.2.1, (congrArg (fun z => z) hfu11.2.2.2.2.2.2.2.2.2.2.2.2.2.2.2.2.2.2.2.2.2.2.2.2.2.2.2.2.2.2.2.2.2.2.2.2.2.2.1).trans hFSq5.2.2.2.2.2.2.2.2.2.2.2.2.2.2.2.2.2.2.2.2.2.2.2.2.2.2.2.2.2.2.2.2.2.2.2.2.1, (congrArg (fun z => z) hfu11.2.2.2.2.2.2.2.2.2.2.2.2.2.2.2.2.2.2.2.2.2.2.2.2.2.2.2.2.2.2.2.2.2.2.2.2.2.2.2.1).trans hFSq5.2.2.2.2.2.2.2.2.2.2.2.2.2.2.2.2.2.2.2.2.2.2.2.2.2.2.2.2.2.2.2.2.2.2.2.2.2.1, (congrArg (fun z => z) hfu11.2.2.2.2.2.2.2.2.2.2.2.2.2.2.2.2.2.2.2.2.2.2.2.2.2.2.2.2.2.2.2.2.2.2.2.2.2.2.2.2.1).trans hFSq5.2.2.2.2.2.2.2.2.2.2.2.2.2.2.2.2.2.2.2.2.2.2.2.2.2.2.2.2.2.2.2.2.2.2.2.2.2.2.1, (congrArg (fun z => z) hfu11.2.2.2.2.2.2.2.2.2.2.2.2.2.2.2.2.2.2.2.2.2.2.2.2.2.2.2.2.2.2.2.2.2.2.2.2.2.2.2.2.2.1).trans hFSq5.2.2.2.2.2.2.2.2.2.2.2.2.2.2.2.2.2.2.2.2.2.2.2.2.2.2.2.2.2.2.2.2.2.2.2.2.2.2.2.1, (congrArg (fun z => z) hfu11.2.2.2.2.2.2.2.2.2.2.2.2.2.2.2.2.2.2.2.2.2.2.2.2.2.2.2.2.2.2.2.2.2.2.2.2.2.2.2.2.2.2.1).trans hFSq5.2.2.2.2.2.2.2.2.2.2.2.2.2.2.2.2.2.2.2.2.2.2.2.2.2.2.2.2.2.2.2.2.2.2.2.2.2.2.2.2.1, (congrArg (fun z => z) hfu11.2.2.2.2.2.2.2.2.2.2.2.2.2.2.2.2.2.2.2.2.2.2.2.2.2.2.2.2.2.2.2.2.2.2.2.2.2.2.2.2.2.2.2.1).trans hFSq5.2.2.2.2.2.2.2.2.2.2.2.2.2.2.2.2.2.2.2.2.2.2.2.2.2.2.2.2.2.2.2.2.2.2.2.2.2.2.2.2.2.1, (congrArg (fun z => z) hfu11.2.2.2.2.2.2.2.2.2.2.2.2.2.2.2.2.2.2.2.2.2.2.2.2.2.2.2.2.2.2.2.2.2.2.2.2.2.2.2.2.2.2.2.2).trans hFSq5.2.2.2.2.2.2.2.2.2.2.2.2.2.2.2.2.2.2.2.2.2.2.2.2.2.2.2.2.2.2.2.2.2.2.2.2.2.2.2.2.2.2⟩
    have je28 : ((b9g_drawnLength u11)).toInt = ((b9g_drawnLength Sq5)).toInt := congrArg (fun z => (z).toInt) hfu11.2.2.2.2.1
    have jE28 := Int32.toInt_inj.mp je28
    have jf29 := J9g_drawnLength hJu11
    have jf30 : (-4 ≤ ((b9g_now u11) 1).toInt ∧ ((b9g_now u11) 1).toInt ≤ 4) ∧ (-3 ≤ ((b9g_now u11) 4).toInt ∧ ((b9g_now u11) 4).toInt ≤ 252) ∧ (0 ≤ ((b9g_now u11) 8).toInt ∧ ((b9g_now u11) 8).toInt ≤ 64) ∧ (0 ≤ ((b9g_now u11) 9).toInt ∧ ((b9g_now u11) 9).toInt ≤ 64) ∧ (0 ≤ ((b9g_now u11) 10).toInt ∧ ((b9g_now u11) 10).toInt ≤ 16) ∧ (0 ≤ ((b9g_now u11) 12).toInt ∧ ((b9g_now u11) 12).toInt ≤ 8) := J9g_now hJu11
    have ju30_u11 := hJu11.2
    have rgr10 := pt_rg r10
    try simp (disch := first | ((try simp (disch := first | ((try simp only [pn]) <;> omega) | fail) only [pn, pq]) <;> omega) | fail) only [pn, pq] at hr10_0
    try simp (disch := first | ((try simp (disch := first | ((try simp only [pn]) <;> omega) | fail) only [pn, pq]) <;> omega) | fail) only [pn, pq] at hr10_1
    have hTr10_4 := congrArg Int32.toInt hr10_4
    try simp (disch := first | ((try simp (disch := first | ((try simp only [pn]) <;> omega) | fail) only [pn, pq]) <;> omega) | fail) only [pn, pq] at hTr10_4
    intro v12 ev12
    intro S13 eS13
    have hJS13 : J9 S13 := by rw [eS13]; exact (J9s_drawn hJu11)
    have hFS13 : F_X9_draws S S13 := by rw [eS13]; exact hFu11
    have je31 : ((b9g_drawnLength S13)).toInt = ((b9g_drawnLength u11)).toInt := by rw [eS13]
    have jE31 := Int32.toInt_inj.mp je31
    have jf32 := J9g_drawnLength hJS13
    have je33 : ((b9g_now S13) 1).toInt = ((b9g_now u11) 1).toInt := by rw [eS13]
    have je34 : ((b9g_now S13) 4).toInt = ((b9g_now u11) 4).toInt := by rw [eS13]
    have je35 : ((b9g_now S13) 7).toInt = ((b9g_now u11) 7).toInt := by rw [eS13]
    have jE35 := Int32.toInt_inj.mp je35
    have je36 : ((b9g_now S13) 8).toInt = ((b9g_now u11) 8).toInt := by rw [eS13]
    have je37 : ((b9g_now S13) 9).toInt = ((b9g_now u11) 9).toInt := by rw [eS13]
    have je38 : ((b9g_now S13) 10).toInt = ((b9g_now u11) 10).toInt := by rw [eS13]
    have je39 : ((b9g_now S13) 12).toInt = ((b9g_now u11) 12).toInt := by rw [eS13]
    have jf40 : (-4 ≤ ((b9g_now S13) 1).toInt ∧ ((b9g_now S13) 1).toInt ≤ 4) ∧ (-3 ≤ ((b9g_now S13) 4).toInt ∧ ((b9g_now S13) 4).toInt ≤ 252) ∧ (0 ≤ ((b9g_now S13) 8).toInt ∧ ((b9g_now S13) 8).toInt ≤ 64) ∧ (0 ≤ ((b9g_now S13) 9).toInt ∧ ((b9g_now S13) 9).toInt ≤ 64) ∧ (0 ≤ ((b9g_now S13) 10).toInt ∧ ((b9g_now S13) 10).toInt ≤ 16) ∧ (0 ≤ ((b9g_now S13) 12).toInt ∧ ((b9g_now S13) 12).toInt ≤ 8) := J9g_now hJS13
    have ju40_S13 := hJS13.2
    refine ⟨_, ?_, ?_, ?_, ?_, ?_, ?_, ?_, ?_, ?_, rfl⟩
    · (try simp (disch := first | ((try simp (disch := first | ((try simp only [pn]) <;> omega) | fail) only [pn, pq]) <;> omega) | fail) only [pn, pq]) <;> (intros; (try simp (disch := first | ((try simp (disch := first | ((try simp only [pn]) <;> omega) | fail) only [pn, pq]) <;> omega) | fail) only [pn, pq]) <;> omega)
    · exact hJS13
    · exact hFS13
    · (try simp (disch := first | ((try simp (disch := first | ((try simp only [pn]) <;> omega) | fail) only [pn, pq]) <;> omega) | fail) only [pn, pq]) <;> (intros; (try simp (disch := first | ((try simp (disch := first | ((try simp only [pn]) <;> omega) | fail) only [pn, pq]) <;> omega) | fail) only [pn, pq]) <;> omega)
    · (try simp (disch := first | ((try simp (disch := first | ((try simp only [pn]) <;> omega) | fail) only [pn, pq]) <;> omega) | fail) only [pn, pq]) <;> (intros; (try simp (disch := first | ((try simp (disch := first | ((try simp only [pn]) <;> omega) | fail) only [pn, pq]) <;> omega) | fail) only [pn, pq]) <;> omega)
    · (try simp (disch := first | ((try simp (disch := first | ((try simp only [pn]) <;> omega) | fail) only [pn, pq]) <;> omega) | fail) only [pn, pq]) <;> (intros; (try simp (disch := first | ((try simp (disch := first | ((try simp only [pn]) <;> omega) | fail) only [pn, pq]) <;> omega) | fail) only [pn, pq]) <;> omega)
    · ((try simp only [jE3, hr1_2, hr1_3, hr1_4, jE6, jE10, jE16, jE20, hiq5_3, hiq5_4, hiq5_5, jE28, hr10_2, hr10_3, hr10_4, jE31, jE35, z0, lcgN0]) <;> (first | (rw [lcgN_s] <;> omega) | exact congrArg (fun k => lcgN k _) (by omega)))
    · (simp only [jE3, hr1_2, hr1_3, hr1_4, jE6, jE10, jE16, jE20, hiq5_3, hiq5_4, hiq5_5, jE28, hr10_2, hr10_3, hr10_4, jE31, jE35])
    · ((try simp (disch := first | ((try simp (disch := first | ((try simp only [pn]) <;> omega) | fail) only [pn, pq]) <;> omega) | fail) only [pn, pq]) <;> (intros; (try simp (disch := first | ((try simp (disch := first | ((try simp only [pn]) <;> omega) | fail) only [pn, pq]) <;> omega) | fail) only [pn, pq]) <;> omega))
def F_X9_fill (S u : bT9) : Prop := (b9g_tape u) = (b9g_tape S) ∧ (b9g_taped u) = (b9g_taped S) ∧ (b9g_names u) = (b9g_names S) ∧ (b9g_chosen u) = (b9g_chosen S) ∧ (b9g_common u) = (b9g_common S) ∧ (b9g_beginning u) = (b9g_beginning S) ∧ (b9g_isLaid u) = (b9g_isLaid S) ∧ (b9g_nodeLevel u) = (b9g_nodeLevel S) ∧ (b9g_nodeLeaf u) = (b9g_nodeLeaf S) ∧ (b9g_nodeLeaves u) = (b9g_nodeLeaves S) ∧ (b9g_nodeMany u) = (b9g_nodeMany S) ∧ (b9g_levelMany u) = (b9g_levelMany S) ∧ (b9g_upper u) = (b9g_upper S) ∧ (b9g_upperNodes u) = (b9g_upperNodes S) ∧ (b9g_areNodesLaid u) = (b9g_areNodesLaid S) ∧ (b9g_itemNode u) = (b9g_itemNode S) ∧ (b9g_itemByte u) = (b9g_itemByte S) ∧ (b9g_itemChild u) = (b9g_itemChild S) ∧ (b9g_itemMany u) = (b9g_itemMany S) ∧ (b9g_placeOf u) = (b9g_placeOf S) ∧ (b9g_leafOfPlace u) = (b9g_leafOfPlace S) ∧ (b9g_places u) = (b9g_places S) ∧ (b9g_lowKey u) = (b9g_lowKey S) ∧ (b9g_highKey u) = (b9g_highKey S) ∧ (b9g_lowLength u) = (b9g_lowLength S) ∧ (b9g_highLength u) = (b9g_highLength S) ∧ (b9g_fromKey u) = (b9g_fromKey S) ∧ (b9g_toKey u) = (b9g_toKey S) ∧ (b9g_fromLength u) = (b9g_fromLength S) ∧ (b9g_toLength u) = (b9g_toLength S) ∧ (b9g_ones u) = (b9g_ones S) ∧ (b9g_oneMany u) = (b9g_oneMany S) ∧ (b9g_rowLong u) = (b9g_rowLong S) ∧ (b9g_laidFor u) = (b9g_laidFor S) ∧ (b9g_signs u) = (b9g_signs S) ∧ (b9g_signMany u) = (b9g_signMany S) ∧ (b9g_hasImage u) = (b9g_hasImage S) ∧ (b9g_images u) = (b9g_images S) ∧ (b9g_keyImages u) = (b9g_keyImages S) ∧ (b9g_lengthImages u) = (b9g_lengthImages S)
set_option maxRecDepth 20000 in
set_option maxHeartbeats 1000000 in
theorem sf_X9_fill {S : bT9} (hJ : J9 S) {a1 : Int32} {a2 : Int32} {Q : Int32 → (bT9) → Prop} (hq : ∀ (r : Int32) (u : bT9), (J9 u) → F_X9_fill S u → (b9g_now u 7 = filS a1 a2 64 (b9g_now S 7)) → (b9g_now u 10 = b9g_now S 10) → Q r u) : wp_X9_fill S a1 a2 Q := by
  unfold wp_X9_fill
  have hFS : F_X9_fill S S := ⟨rfl, rfl, rfl, rfl, rfl, rfl, rfl, rfl, rfl, rfl, rfl, rfl, rfl, rfl, rfl, rfl, rfl, rfl, rfl, rfl, rfl, rfl, rfl, rfl, rfl, rfl, rfl, rfl, rfl, rfl, rfl, rfl, rfl, rfl, rfl, rfl, rfl, rfl, rfl, rfl⟩
  have jf1 := J9g_drawnLength hJ
  have jf2 : (-4 ≤ ((b9g_now S) 1).toInt ∧ ((b9g_now S) 1).toInt ≤ 4) ∧ (-3 ≤ ((b9g_now S) 4).toInt ∧ ((b9g_now S) 4).toInt ≤ 252) ∧ (0 ≤ ((b9g_now S) 8).toInt ∧ ((b9g_now S) 8).toInt ≤ 64) ∧ (0 ≤ ((b9g_now S) 9).toInt ∧ ((b9g_now S) 9).toInt ≤ 64) ∧ (0 ≤ ((b9g_now S) 10).toInt ∧ ((b9g_now S) 10).toInt ≤ 16) ∧ (0 ≤ ((b9g_now S) 12).toInt ∧ ((b9g_now S) 12).toInt ≤ 8) := J9g_now hJ
  have ju2_S := hJ.2
  have rga1 := pt_rg a1
  have rga2 := pt_rg a2
  intro S1 eS1
  have hJS1 : J9 S1 := by rw [eS1]; exact (J9s_told hJ)
  have hFS1 : F_X9_fill S S1 := by rw [eS1]; exact hFS
  have je3 : ((b9g_drawnLength S1)).toInt = ((b9g_drawnLength S)).toInt := by rw [eS1]
  have jf4 := J9g_drawnLength hJS1
  have je5 : ((b9g_now S1) 1).toInt = ((b9g_now S) 1).toInt := by rw [eS1]
  have je6 : ((b9g_now S1) 4).toInt = ((b9g_now S) 4).toInt := by rw [eS1]
  have je7 : ((b9g_now S1) 7).toInt = ((b9g_now S) 7).toInt := by rw [eS1]
  have jE7 := Int32.toInt_inj.mp je7
  have je8 : ((b9g_now S1) 8).toInt = ((b9g_now S) 8).toInt := by rw [eS1]
  have je9 : ((b9g_now S1) 9).toInt = ((b9g_now S) 9).toInt := by rw [eS1]
  have je10 : ((b9g_now S1) 10).toInt = ((b9g_now S) 10).toInt := by rw [eS1]
  have je11 : ((b9g_now S1) 12).toInt = ((b9g_now S) 12).toInt := by rw [eS1]
  have jf12 : (-4 ≤ ((b9g_now S1) 1).toInt ∧ ((b9g_now S1) 1).toInt ≤ 4) ∧ (-3 ≤ ((b9g_now S1) 4).toInt ∧ ((b9g_now S1) 4).toInt ≤ 252) ∧ (0 ≤ ((b9g_now S1) 8).toInt ∧ ((b9g_now S1) 8).toInt ≤ 64) ∧ (0 ≤ ((b9g_now S1) 9).toInt ∧ ((b9g_now S1) 9).toInt ≤ 64) ∧ (0 ≤ ((b9g_now S1) 10).toInt ∧ ((b9g_now S1) 10).toInt ≤ 16) ∧ (0 ≤ ((b9g_now S1) 12).toInt ∧ ((b9g_now S1) 12).toInt ≤ 8) := J9g_now hJS1
  have ju12_S1 := hJS1.2
  refine sf_X9_isIn hJS1.1 (fun r2 hzr2 hr2_0 => ?_)
  try simp (disch := first | ((try simp (disch := first | ((try simp only [pn]) <;> omega) | fail) only [pn, pq]) <;> omega) | fail) only [pn, pq] at hr2_0
  refine ⟨fun c4 => ?_, fun c4 => ?_⟩
  · try simp (disch := first | ((try simp (disch := first | ((try simp only [pn]) <;> omega) | fail) only [pn, pq]) <;> omega) | fail) only [pn, pq] at c4
    exact hq _ _ hJS1 hFS1 (by ((try simp only [jE7]) <;> (first | exact (filS_0 (by omega)).symm | exact (congrArg (fun k => stpN _ k _) (by omega)).trans (filS_1 (by omega)).symm))) (by ((try simp (disch := first | ((try simp (disch := first | ((try simp only [pn]) <;> omega) | fail) only [pn, pq]) <;> omega) | fail) only [pn, pq]) <;> (intros; (try simp (disch := first | ((try simp (disch := first | ((try simp only [pn]) <;> omega) | fail) only [pn, pq]) <;> omega) | fail) only [pn, pq]) <;> omega)))
  · try simp (disch := first | ((try simp (disch := first | ((try simp only [pn]) <;> omega) | fail) only [pn, pq]) <;> omega) | fail) only [pn, pq] at c4
    refine sf_X9_isIn hJS1.1 (fun r5 hzr5 hr5_0 => ?_)
    try simp (disch := first | ((try simp (disch := first | ((try simp only [pn]) <;> omega) | fail) only [pn, pq]) <;> omega) | fail) only [pn, pq] at hr5_0
    refine ⟨fun c7 => ?_, fun c7 => ?_⟩
    · try simp (disch := first | ((try simp (disch := first | ((try simp only [pn]) <;> omega) | fail) only [pn, pq]) <;> omega) | fail) only [pn, pq] at c7
      refine ⟨fun n x1q8 x2q8 x3q8 x4q8 Sq8 => (J9 Sq8) ∧ (F_X9_fill S Sq8) ∧ (x1q8 = a1) ∧ (x2q8 = a2) ∧ (0 ≤ (x4q8).toInt) ∧ ((x4q8).toInt ≤ (x1q8).toInt) ∧ (b9g_now Sq8 7 = stpN (x2q8) (x4q8).toInt.toNat (b9g_now S 7)) ∧ (b9g_now Sq8 10 = b9g_now S 10) ∧ n = ((x1q8).toInt + 1 - (x4q8).toInt).toNat, ⟨_, hJS1, hFS1, rfl, rfl, (by (try simp (disch := first | ((try simp (disch := first | ((try simp only [pn]) <;> omega) | fail) only [pn, pq]) <;> omega) | fail) only [pn, pq]) <;> (intros; (try simp (disch := first | ((try simp (disch := first | ((try simp only [pn]) <;> omega) | fail) only [pn, pq]) <;> omega) | fail) only [pn, pq]) <;> omega)), (by (try simp (disch := first | ((try simp (disch := first | ((try simp only [pn]) <;> omega) | fail) only [pn, pq]) <;> omega) | fail) only [pn, pq]) <;> (intros; (try simp (disch := first | ((try simp (disch := first | ((try simp only [pn]) <;> omega) | fail) only [pn, pq]) <;> omega) | fail) only [pn, pq]) <;> omega)), (by ((try simp only [jE7, stp_c, z0, stpN0]) <;> (rw [stpN_s] <;> omega))), (by ((try simp (disch := first | ((try simp (disch := first | ((try simp only [pn]) <;> omega) | fail) only [pn, pq]) <;> omega) | fail) only [pn, pq]) <;> (intros; (try simp (disch := first | ((try simp (disch := first | ((try simp only [pn]) <;> omega) | fail) only [pn, pq]) <;> omega) | fail) only [pn, pq]) <;> omega))), rfl⟩, ?_⟩
      rintro n9 x1q8 x2q8 x3q8 x4q8 Sq8 ⟨hJSq8, hFSq8, hkq8_0, hkq8_1, hiq8_0, hiq8_1, hiq8_2, hiq8_3, hn9⟩
      subst hkq8_0
      subst hkq8_1
      have rgx1q8 := pt_rg x1q8
      have rgx2q8 := pt_rg x2q8
      have rgx3q8 := pt_rg x3q8
      have rgx4q8 := pt_rg x4q8
      have hTq8_3 := congrArg Int32.toInt hiq8_3
      try simp (disch := first | ((try simp (disch := first | ((try simp only [pn]) <;> omega) | fail) only [pn, pq]) <;> omega) | fail) only [pn, pq] at hTq8_3
      unfold wp_X9_fill_34b
      have jf13 := J9g_drawnLength hJSq8
      have jf14 : (-4 ≤ ((b9g_now Sq8) 1).toInt ∧ ((b9g_now Sq8) 1).toInt ≤ 4) ∧ (-3 ≤ ((b9g_now Sq8) 4).toInt ∧ ((b9g_now Sq8) 4).toInt ≤ 252) ∧ (0 ≤ ((b9g_now Sq8) 8).toInt ∧ ((b9g_now Sq8) 8).toInt ≤ 64) ∧ (0 ≤ ((b9g_now Sq8) 9).toInt ∧ ((b9g_now Sq8) 9).toInt ≤ 64) ∧ (0 ≤ ((b9g_now Sq8) 10).toInt ∧ ((b9g_now Sq8) 10).toInt ≤ 16) ∧ (0 ≤ ((b9g_now Sq8) 12).toInt ∧ ((b9g_now Sq8) 12).toInt ≤ 8) := J9g_now hJSq8
      have ju14_Sq8 := hJSq8.2
      refine ⟨fun c10 => ?_, fun c10 => ?_⟩
      · try simp (disch := first | ((try simp (disch := first | ((try simp only [pn]) <;> omega) | fail) only [pn, pq]) <;> omega) | fail) only [pn, pq] at c10
        exact hq _ _ hJSq8 hFSq8 (by ((try simp only [jE7, hiq8_2, hiq8_3]) <;> (first | exact (filS_0 (by omega)).symm | exact (congrArg (fun k => stpN _ k _) (by omega)).trans (filS_1 (by omega)).symm))) (by ((try simp (disch := first | ((try simp (disch := first | ((try simp only [pn]) <;> omega) | fail) only [pn, pq]) <;> omega) | fail) only [pn, pq]) <;> (intros; (try simp (disch := first | ((try simp (disch := first | ((try simp only [pn]) <;> omega) | fail) only [pn, pq]) <;> omega) | fail) only [pn, pq]) <;> omega)))
      · try simp (disch := first | ((try simp (disch := first | ((try simp only [pn]) <;> omega) | fail) only [pn, pq]) <;> omega) | fail) only [pn, pq] at c10
        refine sf_X9_draws hJSq8 (by (try simp (disch := first | ((try simp (disch := first | ((try simp only [pn]) <;> omega) | fail) only [pn, pq]) <;> omega) | fail) only [pn, pq]) <;> (intros; (try simp (disch := first | ((try simp (disch := first | ((try simp only [pn]) <;> omega) | fail) only [pn, pq]) <;> omega) | fail) only [pn, pq]) <;> omega)) (by (try simp (disch := first | ((try simp (disch := first | ((try simp only [pn]) <;> omega) | fail) only [pn, pq]) <;> omega) | fail) only [pn, pq]) <;> (intros; (try simp (disch := first | ((try simp (disch := first | ((try simp only [pn]) <;> omega) | fail) only [pn, pq]) <;> omega) | fail) only [pn, pq]) <;> omega)) (fun u12 hJu12 hfu12 hr11_0 hr11_1 hr11_2 hr11_3 => ?_)
        have hFu12 : F_X9_fill S u12 := ⟨(congrArg (fun z => z) hfu12.2.2.2.1).trans hFSq8.1, (congrArg (fun z => z) hfu12.2.2.2.2.1).trans hFSq8.2.1, (congrArg (fun z => z) hfu12.2.2.2.2.2.1).trans hFSq8.2.2.1, (congrArg (fun z => z) hfu12.2.2.2.2.2.2.1).trans hFSq8.2.2.2.1, (congrArg (fun z => z) hfu12.2.2.2.2.2.2.2.1).trans hFSq8.2.2.2.2.1, (congrArg (fun z => z) hfu12.2.2.2.2.2.2.2.2.1).trans hFSq8.2.2.2.2.2.1, (congrArg (fun z => z) hfu12.2.2.2.2.2.2.2.2.2.1).trans hFSq8.2.2.2.2.2.2.1, (congrArg (fun z => z) hfu12.2.2.2.2.2.2.2.2.2.2.1).trans hFSq8.2.2.2.2.2.2.2.1, (congrArg (fun z => z) hfu12.2.2.2.2.2.2.2.2.2.2.2.1).trans hFSq8.2.2.2.2.2.2.2.2.1, (congrArg (fun z => z) hfu12.2.2.2.2.2.2.2.2.2.2.2.2.1).trans hFSq8.2.2.2.2.2.2.2.2.2.1, (congrArg (fun z => z) hfu12.2.2.2.2.2.2.2.2.2.2.2.2.2.1).trans hFSq8.2.2.2.2.2.2.2.2.2.2.1, (congrArg (fun z => z) hfu12.2.2.2.2.2.2.2.2.2.2.2.2.2.2.1).trans hFSq8.2.2.2.2.2.2.2.2.2.2.2.1, (congrArg (fun z => z) hfu12.2.2.2.2.2.2.2.2.2.2.2.2.2.2.2.1).trans hFSq8.2.2.2.2.2.2.2.2.2.2.2.2.1, (congrArg (fun z => z) hfu12.2.2.2.2.2.2.2.2.2.2.2.2.2.2.2.2.1).trans hFSq8.2.2.2.2.2.2.2.2.2.2.2.2.2.1, (congrArg (fun z => z) hfu12.2.2.2.2.2.2.2.2.2.2.2.2.2.2.2.2.2.1).trans hFSq8.2.2.2.2.2.2.2.2.2.2.2.2.2.2.1, (congrArg (fun z => z) hfu12.2.2.2.2.2.2.2.2.2.2.2.2.2.2.2.2.2.2.1).trans hFSq8.2.2.2.2.2.2.2.2.2.2.2.2.2.2.2.1, (congrArg (fun z => z) hfu12.2.2.2.2.2.2.2.2.2.2.2.2.2.2.2.2.2.2.2.1).trans hFSq8.2.2.2.2.2.2.2.2.2.2.2.2.2.2.2.2.1, (congrArg (fun z => z) hfu12.2.2.2.2.2.2.2.2.2.2.2.2.2.2.2.2.2.2.2.2.1).trans hFSq8.2.2.2.2.2.2.2.2.2.2.2.2.2.2.2.2.2.1, (congrArg (fun z => z) hfu12.2.2.2.2.2.2.2.2.2.2.2.2.2.2.2.2.2.2.2.2.2.1).trans hFSq8.2.2.2.2.2.2.2.2.2.2.2.2.2.2.2.2.2.2.1, (congrArg (fun z => z) hfu12.2.2.2.2.2.2.2.2.2.2.2.2.2.2.2.2.2.2.2.2.2.2.1).trans hFSq8.2.2.2.2.2.2.2.2.2.2.2.2.2.2.2.2.2.2.2.1, (congrArg (fun z => z) hfu12.2.2.2.2.2.2.2.2.2.2.2.2.2.2.2.2.2.2.2.2.2.2.2.1).trans hFSq8.2.2.2.2.2.2.2.2.2.2.2.2.2.2.2.2.2.2.2.2.1, (congrArg (fun z => z) hfu12.2.2.2.2.2.2.2.2.2.2.2.2.2.2.2.2.2.2.2.2.2.2.2.2.1).trans hFSq8.2.2.2.2.2.2.2.2.2.2.2.2.2.2.2.2.2.2.2.2.2.1, (congrArg (fun z => z) hfu12.2.2.2.2.2.2.2.2.2.2.2.2.2.2.2.2.2.2.2.2.2.2.2.2.2.1).trans hFSq8.2.2.2.2.2.2.2.2.2.2.2.2.2.2.2.2.2.2.2.2.2.2.1, (congrArg (fun z => z) hfu12.2.2.2.2.2.2.2.2.2.2.2.2.2.2.2.2.2.2.2.2.2.2.2.2.2.2.1).trans hFSq8.2.2.2.2.2.2.2.2.2.2.2.2.2.2.2.2.2.2.2.2.2.2.2.1, (congrArg (fun z => z) hfu12.2.2.2.2.2.2.2.2.2.2.2.2.2.2.2.2.2.2.2.2.2.2.2.2.2.2.2.1).trans hFSq8.2.2.2.2.2.2.2.2.2.2.2.2.2.2.2.2.2.2.2.2.2.2.2.2.1, (congrArg (fun z => z) hfu12.2.2.2.2.2.2.2.2.2.2.2.2.2.2.2.2.2.2.2.2.2.2.2.2.2.2.2.2.1).trans hFSq8.2.2.2.2.2.2.2.2.2.2.2.2.2.2.2.2.2.2.2.2.2.2.2.2.2.1, (congrArg (fun z => z) hfu12.2.2.2.2.2.2.2.2.2.2.2.2.2.2.2.2.2.2.2.2.2.2.2.2.2.2.2.2.2.1).trans hFSq8.2.2.2.2.2.2.2.2.2.2.2.2.2.2.2.2.2.2.2.2.2.2.2.2.2.2.1, (congrArg (fun z => z) hfu12.2.2.2.2.2.2.2.2.2.2.2.2.2.2.2.2.2.2.2.2.2.2.2.2.2.2.2.2.2.2.1).trans hFSq8.2.2.2.2.2.2.2.2.2.2.2.2.2.2.2.2.2.2.2.2.2.2.2.2.2.2.2.1, (congrArg (fun z => z) hfu12.2.2.2.2.2.2.2.2.2.2.2.2.2.2.2.2.2.2.2.2.2.2.2.2.2.2.2.2.2.2.2.1).trans hFSq8.2.2.2.2.2.2.2.2.2.2.2.2.2.2.2.2.2.2.2.2.2.2.2.2.2.2.2.2.1, (congrArg (fun z => z) hfu12.2.2.2.2.2.2.2.2.2.2.2.2.2.2.2.2.2.2.2.2.2.2.2.2.2.2.2.2.2.2.2.2.1).trans hFSq8.2.2.2.2.2.2.2.2.2.2.2.2.2.2.2.2.2.2.2.2.2.2.2.2.2.2.2.2.2.1, (congrArg (fun z => z) hfu12.2.2.2.2.2.2.2.2.2.2.2.2.2.2.2.2.2.2.2.2.2.2.2.2.2.2.2.2.2.2.2.2.2.1).trans hFSq8.2.2.2.2.2.2.2.2.2.2.2.2.2.2.2.2.2.2.2.2.2.2.2.2.2.2.2.2.2.2.1, (congrArg (fun z => z) hfu12.2.2.2.2.2.2.2.2.2.2.2.2.2.2.2.2.2.2.2.2.2.2.2.2.2.2.2.2.2.2.2.2.2.2.1).trans hFSq8.2.2.2.2.2.2.2.2.2.2.2.2.2.2.2.2.2.2.2.2.2.2.2.2.2.2.2.2.2.2.2.1, (congrArg (fun z => z) hfu12.2.2.2.2.2.2.2.2.2.2.2.2.2.2.2.2.2.2.2.2.2.2.2.2.2.2.2.2.2.2.2.2.2.2.2.1).trans hFSq8.2.2.2.2.2.2.2.2.2.2.2.2.2.2.2.2.2.2.2.2.2.2.2.2.2.2.2.2.2.2.2.2.1, (congrArg (fun z => z) hfu12.2.2.2.2.2.2.2.2.2.2.2.2.2.2.2.2.2.2.2.2.2.2.2.2.2.2.2.2.2.2.2.2.2.2.2.2.1).trans hFSq8.2.2.2.2.2.2.2.2.2.2.2.2.2.2.2.2.2.2.2.2.2.2.2.2.2.2.2.2.2.2.2.2.2.1, (congrArg (fun z => z) hfu12.2.2.2.2.2.2.2.2.2.2.2.2.2.2.2.2.2.2.2.2.2.2.2.2.2.2.2.2.2.2.2.2.2.2.2.2.2.1).trans hFSq8.2.2.2.2.2.2.2.2.2.2.2.2.2.2.2.2.2.2.2.2.2.2.2.2.2.2.2.2.2.2.2.2.2.2.1, (congrArg (fun z => z) hfu12.2.2.2.2.2.2.2.2.2.2.2.2.2.2.2.2.2.2.2.2.2.2.2.2.2.2.2.2.2.2.2.2.2.2.2.2.2.2.1).trans hFSq8.2.2.2.2.2.2.2.2.2.2.2.2.2.2.2.2.2.2.2.2.2.2.2.2.2.2.2.2.2.2.2.2.2.2.2.1, (congrArg (fun z => z) hfu12.2.2.2.2.2.2.2.2.2.2.2.2.2.2.2.2.2.2.2.2.2.2.2.2.2.2.2.2.2.2.2.2.2.2.2.2.2.2.2.1).trans hFSq8.2.2.2.2.2.2.2.2.2.2.2.2.2.2.2.2.2.2.2.2.2.2.2.2.2.2.2.2.2.2.2.2.2.2.2.2.1, (congrArg (fun z => z) hfu12.2.2.2.2.2.2.2.2.2.2.2.2.2.2.2.2.2.2.2.2.2.2.2.2.2.2.2.2.2.2.2.2.2.2.2.2.2.2.2.2.1).trans hFSq8.2.2.2.2.2.2.2.2.2.2.2.2.2.2.2.2.2.2.2.2.2.2.2.2.2.2.2.2.2.2.2.2.2.2.2.2.2.1, (congrArg (fun z => z) hfu12.2.2.2.2.2.2.2.2.2.2.2.2.2.2.2.2.2.2.2.2.2.2.2.2.2.2.2.2.2.2.2.2.2.2.2.2.2.2.2.2.2.1).trans hFSq8.2.2.2.2.2.2.2.2.2.2.2.2.2.2.2.2.2.2.2.2.2.2.2.2.2.2.2.2.2.2.2.2.2.2.2.2.2.2.1, (congrArg (fun z => z) hfu12.2.2.2.2.2.2.2.2.2.2.2.2.2.2.2.2.2.2.2.2.2.2.2.2.2.2.2.2.2.2.2.2.2.2.2.2.2.2.2.2.2.2).trans hFSq8.2.2.2.2.2.2.2.2.2.2.2.2.2.2.2.2.2.2.2.2.2.2.2.2.2.2.2.2.2.2.2.2.2.2.2.2.2.2.2⟩
        have jf15 := J9g_drawnLength hJu12
        have jf16 : (-4 ≤ ((b9g_now u12) 1).toInt ∧ ((b9g_now u12) 1).toInt ≤ 4) ∧ (-3 ≤ ((b9g_now u12) 4).toInt ∧ ((b9g_now u12) 4).toInt ≤ 252) ∧ (0 ≤ ((b9g_now u12) 8).toInt ∧ ((b9g_now u12) 8).toInt ≤ 64) ∧ (0 ≤ ((b9g_now u12) 9).toInt ∧ ((b9g_now u12) 9).toInt ≤ 64) ∧ (0 ≤ ((b9g_now u12) 10).toInt ∧ ((b9g_now u12) 10).toInt ≤ 16) ∧ (0 ≤ ((b9g_now u12) 12).toInt ∧ ((b9g_now u12) 12).toInt ≤ 8) := J9g_now hJu12
        have ju16_u12 := hJu12.2
        try simp (disch := first | ((try simp (disch := first | ((try simp only [pn]) <;> omega) | fail) only [pn, pq]) <;> omega) | fail) only [pn, pq] at hr11_0
        try simp (disch := first | ((try simp (disch := first | ((try simp only [pn]) <;> omega) | fail) only [pn, pq]) <;> omega) | fail) only [pn, pq] at hr11_1
        have hTr11_3 := congrArg Int32.toInt hr11_3
        try simp (disch := first | ((try simp (disch := first | ((try simp only [pn]) <;> omega) | fail) only [pn, pq]) <;> omega) | fail) only [pn, pq] at hTr11_3
        refine sf_X9_comes hJu12 (by (try simp (disch := first | ((try simp (disch := first | ((try simp only [pn]) <;> omega) | fail) only [pn, pq]) <;> omega) | fail) only [pn, pq]) <;> (intros; (try simp (disch := first | ((try simp (disch := first | ((try simp only [pn]) <;> omega) | fail) only [pn, pq]) <;> omega) | fail) only [pn, pq]) <;> omega)) (by (try simp (disch := first | ((try simp (disch := first | ((try simp only [pn]) <;> omega) | fail) only [pn, pq]) <;> omega) | fail) only [pn, pq]) <;> (intros; (try simp (disch := first | ((try simp (disch := first | ((try simp only [pn]) <;> omega) | fail) only [pn, pq]) <;> omega) | fail) only [pn, pq]) <;> omega)) (fun r13 u14 hJu14 hfu14 hr13_0 hr13_1 hr13_2 hr13_3 hr13_4 => ?_)
        have hFu14 : F_X9_fill S u14 := ⟨(congrArg (fun z => z) hfu14.2.2.2.1).trans hFu12.1, (congrArg (fun z => z) hfu14.2.2.2.2.1).trans hFu12.2.1, (congrArg (fun z => z) hfu14.2.2.2.2.2.1).trans hFu12.2.2.1, (congrArg (fun z => z) hfu14.2.2.2.2.2.2.1).trans hFu12.2.2.2.1, (congrArg (fun z => z) hfu14.2.2.2.2.2.2.2.1).trans hFu12.2.2.2.2.1, (congrArg (fun z => z) hfu14.2.2.2.2.2.2.2.2.1).trans hFu12.2.2.2.2.2.1, (congrArg (fun z => z) hfu14.2.2.2.2.2.2.2.2.2.1).trans hFu12.2.2.2.2.2.2.1, (congrArg (fun z => z) hfu14.2.2.2.2.2.2.2.2.2.2.1).trans hFu12.2.2.2.2.2.2.2.1, (congrArg (fun z => z) hfu14.2.2.2.2.2.2.2.2.2.2.2.1).trans hFu12.2.2.2.2.2.2.2.2.1, (congrArg (fun z => z) hfu14.2.2.2.2.2.2.2.2.2.2.2.2.1).trans hFu12.2.2.2.2.2.2.2.2.2.1, (congrArg (fun z => z) hfu14.2.2.2.2.2.2.2.2.2.2.2.2.2.1).trans hFu12.2.2.2.2.2.2.2.2.2.2.1, (congrArg (fun z => z) hfu14.2.2.2.2.2.2.2.2.2.2.2.2.2.2.1).trans hFu12.2.2.2.2.2.2.2.2.2.2.2.1, (congrArg (fun z => z) hfu14.2.2.2.2.2.2.2.2.2.2.2.2.2.2.2.1).trans hFu12.2.2.2.2.2.2.2.2.2.2.2.2.1, (congrArg (fun z => z) hfu14.2.2.2.2.2.2.2.2.2.2.2.2.2.2.2.2.1).trans hFu12.2.2.2.2.2.2.2.2.2.2.2.2.2.1, (congrArg (fun z => z) hfu14.2.2.2.2.2.2.2.2.2.2.2.2.2.2.2.2.2.1).trans hFu12.2.2.2.2.2.2.2.2.2.2.2.2.2.2.1, (congrArg (fun z => z) hfu14.2.2.2.2.2.2.2.2.2.2.2.2.2.2.2.2.2.2.1).trans hFu12.2.2.2.2.2.2.2.2.2.2.2.2.2.2.2.1, (congrArg (fun z => z) hfu14.2.2.2.2.2.2.2.2.2.2.2.2.2.2.2.2.2.2.2.1).trans hFu12.2.2.2.2.2.2.2.2.2.2.2.2.2.2.2.2.1, (congrArg (fun z => z) hfu14.2.2.2.2.2.2.2.2.2.2.2.2.2.2.2.2.2.2.2.2.1).trans hFu12.2.2.2.2.2.2.2.2.2.2.2.2.2.2.2.2.2.1, (congrArg (fun z => z) hfu14.2.2.2.2.2.2.2.2.2.2.2.2.2.2.2.2.2.2.2.2.2.1).trans hFu12.2.2.2.2.2.2.2.2.2.2.2.2.2.2.2.2.2.2.1, (congrArg (fun z => z) hfu14.2.2.2.2.2.2.2.2.2.2.2.2.2.2.2.2.2.2.2.2.2.2.1).trans hFu12.2.2.2.2.2.2.2.2.2.2.2.2.2.2.2.2.2.2.2.1, (congrArg (fun z => z) hfu14.2.2.2.2.2.2.2.2.2.2.2.2.2.2.2.2.2.2.2.2.2.2.2.1).trans hFu12.2.2.2.2.2.2.2.2.2.2.2.2.2.2.2.2.2.2.2.2.1, (congrArg (fun z => z) hfu14.2.2.2.2.2.2.2.2.2.2.2.2.2.2.2.2.2.2.2.2.2.2.2.2.1).trans hFu12.2.2.2.2.2.2.2.2.2.2.2.2.2.2.2.2.2.2.2.2.2.1, (congrArg (fun z => z) hfu14.2.2.2.2.2.2.2.2.2.2.2.2.2.2.2.2.2.2.2.2.2.2.2.2.2.1).trans hFu12.2.2.2.2.2.2.2.2.2.2.2.2.2.2.2.2.2.2.2.2.2.2.1, (congrArg (fun z => z) hfu14.2.2.2.2.2.2.2.2.2.2.2.2.2.2.2.2.2.2.2.2.2.2.2.2.2.2.1).trans hFu12.2.2.2.2.2.2.2.2.2.2.2.2.2.2.2.2.2.2.2.2.2.2.2.1, (congrArg (fun z => z) hfu14.2.2.2.2.2.2.2.2.2.2.2.2.2.2.2.2.2.2.2.2.2.2.2.2.2.2.2.1).trans hFu12.2.2.2.2.2.2.2.2.2.2.2.2.2.2.2.2.2.2.2.2.2.2.2.2.1, (congrArg (fun z => z) hfu14.2.2.2.2.2.2.2.2.2.2.2.2.2.2.2.2.2.2.2.2.2.2.2.2.2.2.2.2.1).trans hFu12.2.2.2.2.2.2.2.2.2.2.2.2.2.2.2.2.2.2.2.2.2.2.2.2.2.1, (congrArg (fun z => z) hfu14.2.2.2.2.2.2.2.2.2.2.2.2.2.2.2.2.2.2.2.2.2.2.2.2.2.2.2.2.2.1).trans hFu12.2.2.2.2.2.2.2.2.2.2.2.2.2.2.2.2.2.2.2.2.2.2.2.2.2.2.1, (congrArg (fun z => z) hfu14.2.2.2.2.2.2.2.2.2.2.2.2.2.2.2.2.2.2.2.2.2.2.2.2.2.2.2.2.2.2.1).trans hFu12.2.2.2.2.2.2.2.2.2.2.2.2.2.2.2.2.2.2.2.2.2.2.2.2.2.2.2.1, (congrArg (fun z => z) hfu14.2.2.2.2.2.2.2.2.2.2.2.2.2.2.2.2.2.2.2.2.2.2.2.2.2.2.2.2.2.2.2.1).trans hFu12.2.2.2.2.2.2.2.2.2.2.2.2.2.2.2.2.2.2.2.2.2.2.2.2.2.2.2.2.1, (congrArg (fun z => z) hfu14.2.2.2.2.2.2.2.2.2.2.2.2.2.2.2.2.2.2.2.2.2.2.2.2.2.2.2.2.2.2.2.2.1).trans hFu12.2.2.2.2.2.2.2.2.2.2.2.2.2.2.2.2.2.2.2.2.2.2.2.2.2.2.2.2.2.1, (congrArg (fun z => z) hfu14.2.2.2.2.2.2.2.2.2.2.2.2.2.2.2.2.2.2.2.2.2.2.2.2.2.2.2.2.2.2.2.2.2.1).trans hFu12.2.2.2.2.2.2.2.2.2.2.2.2.2.2.2.2.2.2.2.2.2.2.2.2.2.2.2.2.2.2.1, (congrArg (fun z => z) hfu14.2.2.2.2.2.2.2.2.2.2.2.2.2.2.2.2.2.2.2.2.2.2.2.2.2.2.2.2.2.2.2.2.2.2.1).trans hFu12.2.2.2.2.2.2.2.2.2.2.2.2.2.2.2.2.2.2.2.2.2.2.2.2.2.2.2.2.2.2.2.1, (congrArg (fun z => z) hfu14.2.2.2.2.2.2.2.2.2.2.2.2.2.2.2.2.2.2.2.2.2.2.2.2.2.2.2.2.2.2.2.2.2.2.2.1).trans hFu12.2.2.2.2.2.2.2.2.2.2.2.2.2.2.2.2.2.2.2.2.2.2.2.2.2.2.2.2.2.2.2.2.1, (congrArg (fun z => z) hfu14.2.2.2.2.2.2.2.2.2.2.2.2.2.2.2.2.2.2.2.2.2.2.2.2.2.2.2.2.2.2.2.2.2.2.2.2.1).trans hFu12.2.2.2.2.2.2.2.2.2.2.2.2.2.2.2.2.2.2.2.2.2.2.2.2.2.2.2.2.2.2.2.2.2.1, (congrArg (fun z => z) hfu14.2.2.2.2.2.2.2.2.2.2.2.2.2.2.2.2.2.2.2.2.2.2.2.2.2.2.2.2.2.2.2.2.2.2.2.2.2.1).trans hFu12.2.2.2.2.2.2.2.2.2.2.2.2.2.2.2.2.2.2.2.2.2.2.2.2.2.2.2.2.2.2.2.2.2.2.1, (congrArg (fun z => z) hfu14.2.2.2.2.2.2.2.2.2.2.2.2.2.2.2.2.2.2.2.2.2.2.2.2.2.2.2.2.2.2.2.2.2.2.2.2.2.2.1).trans hFu12.2.2.2.2.2.2.2.2.2.2.2.2.2.2.2.2.2.2.2.2.2.2.2.2.2.2.2.2.2.2.2.2.2.2.2.1, (congrArg (fun z => z) hfu14.2.2.2.2.2.2.2.2.2.2.2.2.2.2.2.2.2.2.2.2.2.2.2.2.2.2.2.2.2.2.2.2.2.2.2.2.2.2.2.1).trans hFu12.2.2.2.2.2.2.2.2.2.2.2.2.2.2.2.2.2.2.2.2.2.2.2.2.2.2.2.2.2.2.2.2.2.2.2.2.1, (congrArg (fun z => z) hfu14.2.2.2.2.2.2.2.2.2.2.2.2.2.2.2.2.2.2.2.2.2.2.2.2.2.2.2.2.2.2.2.2.2.2.2.2.2.2.2.2.1).trans hFu12.2.2.2.2.2.2.2.2.2.2.2.2.2.2.2.2.2.2.2.2.2.2.2.2.2.2.2.2.2.2.2.2.2.2.2.2.2.1, (congrArg (fun z => z) hfu14.2.2.2.2.2.2.2.2.2.2.2.2.2.2.2.2.2.2.2.2.2.2.2.2.2.2.2.2.2.2.2.2.2.2.2.2.2.2.2.2.2.1).trans hFu12.2.2.2.2.2.2.2.2.2.2.2.2.2.2.2.2.2.2.2.2.2.2.2.2.2.2.2.2.2.2.2.2.2.2.2.2.2.2.1, (congrArg (fun z => z) hfu14.2.2.2.2.2.2.2.2.2.2.2.2.2.2.2.2.2.2.2.2.2.2.2.2.2.2.2.2.2.2.2.2.2.2.2.2.2.2.2.2.2.2).trans hFu12.2.2.2.2.2.2.2.2.2.2.2.2.2.2.2.2.2.2.2.2.2.2.2.2.2.2.2.2.2.2.2.2.2.2.2.2.2.2.2⟩
        have je17 : ((b9g_drawnLength u14)).toInt = ((b9g_drawnLength u12)).toInt := congrArg (fun z => (z).toInt) hfu14.2.2.1
        have jf18 := J9g_drawnLength hJu14
        have jf19 : (-4 ≤ ((b9g_now u14) 1).toInt ∧ ((b9g_now u14) 1).toInt ≤ 4) ∧ (-3 ≤ ((b9g_now u14) 4).toInt ∧ ((b9g_now u14) 4).toInt ≤ 252) ∧ (0 ≤ ((b9g_now u14) 8).toInt ∧ ((b9g_now u14) 8).toInt ≤ 64) ∧ (0 ≤ ((b9g_now u14) 9).toInt ∧ ((b9g_now u14) 9).toInt ≤ 64) ∧ (0 ≤ ((b9g_now u14) 10).toInt ∧ ((b9g_now u14) 10).toInt ≤ 16) ∧ (0 ≤ ((b9g_now u14) 12).toInt ∧ ((b9g_now u14) 12).toInt ≤ 8) := J9g_now hJu14
        have ju19_u14 := hJu14.2
        have rgr13 := pt_rg r13
        have hTr13_3 := congrArg Int32.toInt hr13_3
        try simp (disch := first | ((try simp (disch := first | ((try simp only [pn]) <;> omega) | fail) only [pn, pq]) <;> omega) | fail) only [pn, pq] at hTr13_3
        have hTr13_4 := congrArg Int32.toInt hr13_4
        try simp (disch := first | ((try simp (disch := first | ((try simp only [pn]) <;> omega) | fail) only [pn, pq]) <;> omega) | fail) only [pn, pq] at hTr13_4
        refine ⟨fun c15 => ?_, fun c15 => ?_⟩
        · try simp (disch := first | ((try simp (disch := first | ((try simp only [pn]) <;> omega) | fail) only [pn, pq]) <;> omega) | fail) only [pn, pq] at c15
          unfold wp_X9_fill_65
          refine ⟨_, ?_, ?_, ?_, ?_, ?_, ?_, ?_, ?_, ?_, rfl⟩
          · (try simp (disch := first | ((try simp (disch := first | ((try simp only [pn]) <;> omega) | fail) only [pn, pq]) <;> omega) | fail) only [pn, pq]) <;> (intros; (try simp (disch := first | ((try simp (disch := first | ((try simp only [pn]) <;> omega) | fail) only [pn, pq]) <;> omega) | fail) only [pn, pq]) <;> omega)
          · exact hJu14
          · exact hFu14
          · first | rfl | assumption
          · first | rfl | assumption
          · (try simp (disch := first | ((try simp (disch := first | ((try simp only [pn]) <;> omega) | fail) only [pn, pq]) <;> omega) | fail) only [pn, pq]) <;> (intros; (try simp (disch := first | ((try simp (disch := first | ((try simp only [pn]) <;> omega) | fail) only [pn, pq]) <;> omega) | fail) only [pn, pq]) <;> omega)
          · (try simp (disch := first | ((try simp (disch := first | ((try simp only [pn]) <;> omega) | fail) only [pn, pq]) <;> omega) | fail) only [pn, pq]) <;> (intros; (try simp (disch := first | ((try simp (disch := first | ((try simp only [pn]) <;> omega) | fail) only [pn, pq]) <;> omega) | fail) only [pn, pq]) <;> omega)
          · ((try simp only [jE7, hiq8_2, hiq8_3, hr11_2, hr11_3, hr13_0, hr13_1, hr13_2, hr13_3, hr13_4, stp_c, z0, stpN0]) <;> (rw [stpN_s] <;> omega))
          · ((try simp (disch := first | ((try simp (disch := first | ((try simp only [pn]) <;> omega) | fail) only [pn, pq]) <;> omega) | fail) only [pn, pq]) <;> (intros; (try simp (disch := first | ((try simp (disch := first | ((try simp only [pn]) <;> omega) | fail) only [pn, pq]) <;> omega) | fail) only [pn, pq]) <;> omega))
        · try simp (disch := first | ((try simp (disch := first | ((try simp only [pn]) <;> omega) | fail) only [pn, pq]) <;> omega) | fail) only [pn, pq] at c15
          unfold wp_X9_fill_65
          refine ⟨_, ?_, ?_, ?_, ?_, ?_, ?_, ?_, ?_, ?_, rfl⟩
          · (try simp (disch := first | ((try simp (disch := first | ((try simp only [pn]) <;> omega) | fail) only [pn, pq]) <;> omega) | fail) only [pn, pq]) <;> (intros; (try simp (disch := first | ((try simp (disch := first | ((try simp only [pn]) <;> omega) | fail) only [pn, pq]) <;> omega) | fail) only [pn, pq]) <;> omega)
          · exact hJu14
          · exact hFu14
          · first | rfl | assumption
          · first | rfl | assumption
          · (try simp (disch := first | ((try simp (disch := first | ((try simp only [pn]) <;> omega) | fail) only [pn, pq]) <;> omega) | fail) only [pn, pq]) <;> (intros; (try simp (disch := first | ((try simp (disch := first | ((try simp only [pn]) <;> omega) | fail) only [pn, pq]) <;> omega) | fail) only [pn, pq]) <;> omega)
          · (try simp (disch := first | ((try simp (disch := first | ((try simp only [pn]) <;> omega) | fail) only [pn, pq]) <;> omega) | fail) only [pn, pq]) <;> (intros; (try simp (disch := first | ((try simp (disch := first | ((try simp only [pn]) <;> omega) | fail) only [pn, pq]) <;> omega) | fail) only [pn, pq]) <;> omega)
          · ((try simp only [jE7, hiq8_2, hiq8_3, hr11_2, hr11_3, hr13_0, hr13_1, hr13_2, hr13_3, hr13_4, stp_c, z0, stpN0]) <;> (rw [stpN_s] <;> omega))
          · ((try simp (disch := first | ((try simp (disch := first | ((try simp only [pn]) <;> omega) | fail) only [pn, pq]) <;> omega) | fail) only [pn, pq]) <;> (intros; (try simp (disch := first | ((try simp (disch := first | ((try simp only [pn]) <;> omega) | fail) only [pn, pq]) <;> omega) | fail) only [pn, pq]) <;> omega))
    · try simp (disch := first | ((try simp (disch := first | ((try simp only [pn]) <;> omega) | fail) only [pn, pq]) <;> omega) | fail) only [pn, pq] at c7
      exact hq _ _ hJS1 hFS1 (by ((try simp only [jE7]) <;> (first | exact (filS_0 (by omega)).symm | exact (congrArg (fun k => stpN _ k _) (by omega)).trans (filS_1 (by omega)).symm))) (by ((try simp (disch := first | ((try simp (disch := first | ((try simp only [pn]) <;> omega) | fail) only [pn, pq]) <;> omega) | fail) only [pn, pq]) <;> (intros; (try simp (disch := first | ((try simp (disch := first | ((try simp only [pn]) <;> omega) | fail) only [pn, pq]) <;> omega) | fail) only [pn, pq]) <;> omega)))
